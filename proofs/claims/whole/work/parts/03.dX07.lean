theorem dX0_power_0 : decode cX0_power 0 = .ok (.iconst 1, 1) := by decide +kernel
theorem dX0_power_1 : decode cX0_power 1 = .ok (.istore_n 2, 1) := by decide +kernel
theorem dX0_power_2 : decode cX0_power 2 = .ok (.iconst 0, 1) := by decide +kernel
theorem dX0_power_3 : decode cX0_power 3 = .ok (.istore_n 3, 1) := by decide +kernel
theorem dX0_power_4 : decode cX0_power 4 = .ok (.iload_n 3, 1) := by decide +kernel
theorem dX0_power_5 : decode cX0_power 5 = .ok (.iload_n 1, 1) := by decide +kernel
theorem dX0_power_6 : decode cX0_power 6 = .ok (.if_icmp .ge 13, 3) := by decide +kernel
theorem dX0_power_9 : decode cX0_power 9 = .ok (.iload_n 2, 1) := by decide +kernel
theorem dX0_power_10 : decode cX0_power 10 = .ok (.iload_n 0, 1) := by decide +kernel
theorem dX0_power_11 : decode cX0_power 11 = .ok (.imul, 1) := by decide +kernel
theorem dX0_power_12 : decode cX0_power 12 = .ok (.istore_n 2, 1) := by decide +kernel
theorem dX0_power_13 : decode cX0_power 13 = .ok (.iinc 3 1, 3) := by decide +kernel
theorem dX0_power_16 : decode cX0_power 16 = .ok (.goto (-12), 3) := by decide +kernel
theorem dX0_power_19 : decode cX0_power 19 = .ok (.iload_n 2, 1) := by decide +kernel
theorem dX0_power_20 : decode cX0_power 20 = .ok (.ireturn, 1) := by decide +kernel
theorem dX0_digit_0 : decode cX0_digit 0 = .ok (.iload_n 1, 1) := by decide +kernel
theorem dX0_digit_1 : decode cX0_digit 1 = .ok (.iconst 1, 1) := by decide +kernel
theorem dX0_digit_2 : decode cX0_digit 2 = .ok (.if_icmp .ge 5, 3) := by decide +kernel
theorem dX0_digit_5 : decode cX0_digit 5 = .ok (.iconst 0, 1) := by decide +kernel
theorem dX0_digit_6 : decode cX0_digit 6 = .ok (.ireturn, 1) := by decide +kernel
theorem dX0_digit_7 : decode cX0_digit 7 = .ok (.iload_n 0, 1) := by decide +kernel
theorem dX0_digit_8 : decode cX0_digit 8 = .ok (.istore_n 3, 1) := by decide +kernel
theorem dX0_digit_9 : decode cX0_digit 9 = .ok (.iconst 0, 1) := by decide +kernel
theorem dX0_digit_10 : decode cX0_digit 10 = .ok (.istore 4, 2) := by decide +kernel
theorem dX0_digit_12 : decode cX0_digit 12 = .ok (.iload 4, 2) := by decide +kernel
theorem dX0_digit_14 : decode cX0_digit 14 = .ok (.iload_n 2, 1) := by decide +kernel
theorem dX0_digit_15 : decode cX0_digit 15 = .ok (.if_icmp .ge 13, 3) := by decide +kernel
theorem dX0_digit_18 : decode cX0_digit 18 = .ok (.iload_n 3, 1) := by decide +kernel
theorem dX0_digit_19 : decode cX0_digit 19 = .ok (.iload_n 1, 1) := by decide +kernel
theorem dX0_digit_20 : decode cX0_digit 20 = .ok (.idiv, 1) := by decide +kernel
theorem dX0_digit_21 : decode cX0_digit 21 = .ok (.istore_n 3, 1) := by decide +kernel
theorem dX0_digit_22 : decode cX0_digit 22 = .ok (.iinc 4 1, 3) := by decide +kernel
theorem dX0_digit_25 : decode cX0_digit 25 = .ok (.goto (-13), 3) := by decide +kernel
theorem dX0_digit_28 : decode cX0_digit 28 = .ok (.iload_n 3, 1) := by decide +kernel
theorem dX0_digit_29 : decode cX0_digit 29 = .ok (.iload_n 1, 1) := by decide +kernel
theorem dX0_digit_30 : decode cX0_digit 30 = .ok (.irem, 1) := by decide +kernel
theorem dX0_digit_31 : decode cX0_digit 31 = .ok (.ireturn, 1) := by decide +kernel
theorem dX0_commonDivisor_0 : decode cX0_commonDivisor 0 = .ok (.iload_n 1, 1) := by decide +kernel
theorem dX0_commonDivisor_1 : decode cX0_commonDivisor 1 = .ok (.istore_n 2, 1) := by decide +kernel
theorem dX0_commonDivisor_2 : decode cX0_commonDivisor 2 = .ok (.iload_n 0, 1) := by decide +kernel
theorem dX0_commonDivisor_3 : decode cX0_commonDivisor 3 = .ok (.istore_n 3, 1) := by decide +kernel
theorem dX0_commonDivisor_4 : decode cX0_commonDivisor 4 = .ok (.iconst 0, 1) := by decide +kernel
theorem dX0_commonDivisor_5 : decode cX0_commonDivisor 5 = .ok (.istore 4, 2) := by decide +kernel
theorem dX0_commonDivisor_7 : decode cX0_commonDivisor 7 = .ok (.iload 4, 2) := by decide +kernel
theorem dX0_commonDivisor_9 : decode cX0_commonDivisor 9 = .ok (.bipush 64, 2) := by decide +kernel
theorem dX0_commonDivisor_11 : decode cX0_commonDivisor 11 = .ok (.if_icmp .ge 23, 3) := by decide +kernel
theorem dX0_commonDivisor_14 : decode cX0_commonDivisor 14 = .ok (.iload_n 3, 1) := by decide +kernel
theorem dX0_commonDivisor_15 : decode cX0_commonDivisor 15 = .ok (.ifCond .le 19, 3) := by decide +kernel
theorem dX0_commonDivisor_18 : decode cX0_commonDivisor 18 = .ok (.iload_n 2, 1) := by decide +kernel
theorem dX0_commonDivisor_19 : decode cX0_commonDivisor 19 = .ok (.iload_n 3, 1) := by decide +kernel
theorem dX0_commonDivisor_20 : decode cX0_commonDivisor 20 = .ok (.irem, 1) := by decide +kernel
theorem dX0_commonDivisor_21 : decode cX0_commonDivisor 21 = .ok (.istore 5, 2) := by decide +kernel
theorem dX0_commonDivisor_23 : decode cX0_commonDivisor 23 = .ok (.iload_n 3, 1) := by decide +kernel
theorem dX0_commonDivisor_24 : decode cX0_commonDivisor 24 = .ok (.istore_n 2, 1) := by decide +kernel
theorem dX0_commonDivisor_25 : decode cX0_commonDivisor 25 = .ok (.iload 5, 2) := by decide +kernel
theorem dX0_commonDivisor_27 : decode cX0_commonDivisor 27 = .ok (.istore_n 3, 1) := by decide +kernel
theorem dX0_commonDivisor_28 : decode cX0_commonDivisor 28 = .ok (.iinc 4 1, 3) := by decide +kernel
theorem dX0_commonDivisor_31 : decode cX0_commonDivisor 31 = .ok (.goto (-24), 3) := by decide +kernel
theorem dX0_commonDivisor_34 : decode cX0_commonDivisor 34 = .ok (.iload_n 2, 1) := by decide +kernel
theorem dX0_commonDivisor_35 : decode cX0_commonDivisor 35 = .ok (.ireturn, 1) := by decide +kernel
theorem dX0_isPrime_0 : decode cX0_isPrime 0 = .ok (.iconst 2, 1) := by decide +kernel
theorem dX0_isPrime_1 : decode cX0_isPrime 1 = .ok (.istore_n 1, 1) := by decide +kernel
theorem dX0_isPrime_2 : decode cX0_isPrime 2 = .ok (.iload_n 1, 1) := by decide +kernel
theorem dX0_isPrime_3 : decode cX0_isPrime 3 = .ok (.bipush 10, 2) := by decide +kernel
theorem dX0_isPrime_5 : decode cX0_isPrime 5 = .ok (.if_icmp .ge 22, 3) := by decide +kernel
theorem dX0_isPrime_8 : decode cX0_isPrime 8 = .ok (.iload_n 0, 1) := by decide +kernel
theorem dX0_isPrime_9 : decode cX0_isPrime 9 = .ok (.iload_n 1, 1) := by decide +kernel
theorem dX0_isPrime_10 : decode cX0_isPrime 10 = .ok (.if_icmp .le 11, 3) := by decide +kernel
theorem dX0_isPrime_13 : decode cX0_isPrime 13 = .ok (.iload_n 0, 1) := by decide +kernel
theorem dX0_isPrime_14 : decode cX0_isPrime 14 = .ok (.iload_n 1, 1) := by decide +kernel
theorem dX0_isPrime_15 : decode cX0_isPrime 15 = .ok (.irem, 1) := by decide +kernel
theorem dX0_isPrime_16 : decode cX0_isPrime 16 = .ok (.ifCond .ne 5, 3) := by decide +kernel
theorem dX0_isPrime_19 : decode cX0_isPrime 19 = .ok (.iconst 0, 1) := by decide +kernel
theorem dX0_isPrime_20 : decode cX0_isPrime 20 = .ok (.ireturn, 1) := by decide +kernel
theorem dX0_isPrime_21 : decode cX0_isPrime 21 = .ok (.iinc 1 1, 3) := by decide +kernel
theorem dX0_isPrime_24 : decode cX0_isPrime 24 = .ok (.goto (-22), 3) := by decide +kernel
theorem dX0_isPrime_27 : decode cX0_isPrime 27 = .ok (.iload_n 0, 1) := by decide +kernel
theorem dX0_isPrime_28 : decode cX0_isPrime 28 = .ok (.iconst 2, 1) := by decide +kernel
theorem dX0_isPrime_29 : decode cX0_isPrime 29 = .ok (.if_icmp .lt 7, 3) := by decide +kernel
theorem dX0_isPrime_32 : decode cX0_isPrime 32 = .ok (.iconst 1, 1) := by decide +kernel
theorem dX0_isPrime_33 : decode cX0_isPrime 33 = .ok (.goto 4, 3) := by decide +kernel
theorem dX0_isPrime_36 : decode cX0_isPrime 36 = .ok (.iconst 0, 1) := by decide +kernel
theorem dX0_isPrime_37 : decode cX0_isPrime 37 = .ok (.ireturn, 1) := by decide +kernel
theorem dX0_isSquare_0 : decode cX0_isSquare 0 = .ok (.iconst 0, 1) := by decide +kernel
theorem dX0_isSquare_1 : decode cX0_isSquare 1 = .ok (.istore_n 1, 1) := by decide +kernel
theorem dX0_isSquare_2 : decode cX0_isSquare 2 = .ok (.iload_n 1, 1) := by decide +kernel
theorem dX0_isSquare_3 : decode cX0_isSquare 3 = .ok (.bipush 18, 2) := by decide +kernel
theorem dX0_isSquare_5 : decode cX0_isSquare 5 = .ok (.if_icmp .ge 18, 3) := by decide +kernel
theorem dX0_isSquare_8 : decode cX0_isSquare 8 = .ok (.iload_n 1, 1) := by decide +kernel
theorem dX0_isSquare_9 : decode cX0_isSquare 9 = .ok (.iload_n 1, 1) := by decide +kernel
theorem dX0_isSquare_10 : decode cX0_isSquare 10 = .ok (.imul, 1) := by decide +kernel
theorem dX0_isSquare_11 : decode cX0_isSquare 11 = .ok (.iload_n 0, 1) := by decide +kernel
theorem dX0_isSquare_12 : decode cX0_isSquare 12 = .ok (.if_icmp .ne 5, 3) := by decide +kernel
theorem dX0_isSquare_15 : decode cX0_isSquare 15 = .ok (.iconst 1, 1) := by decide +kernel
theorem dX0_isSquare_16 : decode cX0_isSquare 16 = .ok (.ireturn, 1) := by decide +kernel
theorem dX0_isSquare_17 : decode cX0_isSquare 17 = .ok (.iinc 1 1, 3) := by decide +kernel
theorem dX0_isSquare_20 : decode cX0_isSquare 20 = .ok (.goto (-18), 3) := by decide +kernel
theorem dX0_isSquare_23 : decode cX0_isSquare 23 = .ok (.iconst 0, 1) := by decide +kernel
theorem dX0_isSquare_24 : decode cX0_isSquare 24 = .ok (.ireturn, 1) := by decide +kernel
theorem dX1_init_0 : decode cX1_init 0 = .ok (.aload_n 0, 1) := by decide +kernel
theorem dX1_init_1 : decode cX1_init 1 = .ok (.invokespecial 1, 3) := by decide +kernel
theorem dX1_init_4 : decode cX1_init 4 = .ok (.aload_n 0, 1) := by decide +kernel
theorem dX1_init_5 : decode cX1_init 5 = .ok (.iconst 0, 1) := by decide +kernel
theorem dX1_init_6 : decode cX1_init 6 = .ok (.putfield 7, 3) := by decide +kernel
theorem dX1_init_9 : decode cX1_init 9 = .ok (.aload_n 0, 1) := by decide +kernel
theorem dX1_init_10 : decode cX1_init 10 = .ok (.lconst 0, 1) := by decide +kernel
theorem dX1_init_11 : decode cX1_init 11 = .ok (.putfield 13, 3) := by decide +kernel
theorem dX1_init_14 : decode cX1_init 14 = .ok (.aload_n 0, 1) := by decide +kernel
theorem dX1_init_15 : decode cX1_init 15 = .ok (.iconst 0, 1) := by decide +kernel
theorem dX1_init_16 : decode cX1_init 16 = .ok (.putfield 17, 3) := by decide +kernel
theorem dX1_init_19 : decode cX1_init 19 = .ok (.aload_n 0, 1) := by decide +kernel
theorem dX1_init_20 : decode cX1_init 20 = .ok (.iconst 0, 1) := by decide +kernel
theorem dX1_init_21 : decode cX1_init 21 = .ok (.putfield 20, 3) := by decide +kernel
theorem dX1_init_24 : decode cX1_init 24 = .ok (.aload_n 0, 1) := by decide +kernel
theorem dX1_init_25 : decode cX1_init 25 = .ok (.lconst 0, 1) := by decide +kernel
theorem dX1_init_26 : decode cX1_init 26 = .ok (.putfield 23, 3) := by decide +kernel
theorem dX1_init_29 : decode cX1_init 29 = .ok (.aload_n 0, 1) := by decide +kernel
theorem dX1_init_30 : decode cX1_init 30 = .ok (.iconst 0, 1) := by decide +kernel
theorem dX1_init_31 : decode cX1_init 31 = .ok (.putfield 26, 3) := by decide +kernel
theorem dX1_init_34 : decode cX1_init 34 = .ok (.return_, 1) := by decide +kernel
set_option maxRecDepth 20000 in
theorem ggX1_begin_X3_first : GoodIn wsX1_begin wsX3_first := goodIn_r _ [8] (by decide +kernel) (by decide +kernel)
set_option maxRecDepth 20000 in
theorem gX1_begin_X3_first : GoodIn wsX1_begin (va_wsS RX1 29 yX3_first wsX3_first) := goodIn_app (goodIn_of _ (by decide +kernel)) ggX1_begin_X3_first
set_option maxRecDepth 20000 in
theorem ggX1_begin_X6_first : GoodIn wsX1_begin wsX6_first := goodIn_r _ [12] (by decide +kernel) (by decide +kernel)
set_option maxRecDepth 20000 in
theorem gX1_begin_X6_first : GoodIn wsX1_begin (va_wsS RX1 35 yX6_first wsX6_first) := goodIn_app (goodIn_of _ (by decide +kernel)) ggX1_begin_X6_first
set_option maxRecDepth 20000 in
theorem ggX1_begin_X1_dropSights : GoodIn wsX1_begin wsX1_dropSights := goodIn_r _ [17, 18, 19, 20, 21, 22, 23, 24, 25] (by decide +kernel) (by decide +kernel)
set_option maxRecDepth 20000 in
theorem gX1_begin_X1_dropSights : GoodIn wsX1_begin (wsV RX1 40 RX1 yX1_dropSights wsX1_dropSights) := goodIn_app (goodIn_of _ (by decide +kernel)) ggX1_begin_X1_dropSights
theorem dX1_begin_0 : decode cX1_begin 0 = .ok (.aload_n 0, 1) := by decide +kernel
theorem dX1_begin_1 : decode cX1_begin 1 = .ok (.iload_n 1, 1) := by decide +kernel
theorem dX1_begin_2 : decode cX1_begin 2 = .ok (.putfield 7, 3) := by decide +kernel
theorem dX1_begin_5 : decode cX1_begin 5 = .ok (.aload_n 0, 1) := by decide +kernel
theorem dX1_begin_6 : decode cX1_begin 6 = .ok (.iload_n 1, 1) := by decide +kernel
theorem dX1_begin_7 : decode cX1_begin 7 = .ok (.invokestatic 29, 3) := by decide +kernel
theorem dX1_begin_10 : decode cX1_begin 10 = .ok (.putfield 13, 3) := by decide +kernel
theorem dX1_begin_13 : decode cX1_begin 13 = .ok (.aload_n 0, 1) := by decide +kernel
theorem dX1_begin_14 : decode cX1_begin 14 = .ok (.iload_n 1, 1) := by decide +kernel
theorem dX1_begin_15 : decode cX1_begin 15 = .ok (.invokestatic 35, 3) := by decide +kernel
theorem dX1_begin_18 : decode cX1_begin 18 = .ok (.putfield 17, 3) := by decide +kernel
theorem dX1_begin_21 : decode cX1_begin 21 = .ok (.aload_n 0, 1) := by decide +kernel
theorem dX1_begin_22 : decode cX1_begin 22 = .ok (.iload_n 1, 1) := by decide +kernel
theorem dX1_begin_23 : decode cX1_begin 23 = .ok (.putfield 20, 3) := by decide +kernel
theorem dX1_begin_26 : decode cX1_begin 26 = .ok (.aload_n 0, 1) := by decide +kernel
theorem dX1_begin_27 : decode cX1_begin 27 = .ok (.invokevirtual 40, 3) := by decide +kernel
theorem dX1_begin_30 : decode cX1_begin 30 = .ok (.return_, 1) := by decide +kernel
theorem dX1_become_0 : decode cX1_become 0 = .ok (.aload_n 1, 1) := by decide +kernel
theorem dX1_become_1 : decode cX1_become 1 = .ok (.ifnonnull 4, 3) := by decide +kernel
theorem dX1_become_4 : decode cX1_become 4 = .ok (.return_, 1) := by decide +kernel
theorem dX1_become_5 : decode cX1_become 5 = .ok (.aload_n 0, 1) := by decide +kernel
theorem dX1_become_6 : decode cX1_become 6 = .ok (.aload_n 1, 1) := by decide +kernel
theorem dX1_become_7 : decode cX1_become 7 = .ok (.getfield 7, 3) := by decide +kernel
theorem dX1_become_10 : decode cX1_become 10 = .ok (.putfield 7, 3) := by decide +kernel
theorem dX1_become_13 : decode cX1_become 13 = .ok (.aload_n 0, 1) := by decide +kernel
theorem dX1_become_14 : decode cX1_become 14 = .ok (.aload_n 1, 1) := by decide +kernel
theorem dX1_become_15 : decode cX1_become 15 = .ok (.getfield 13, 3) := by decide +kernel
theorem dX1_become_18 : decode cX1_become 18 = .ok (.putfield 13, 3) := by decide +kernel
theorem dX1_become_21 : decode cX1_become 21 = .ok (.aload_n 0, 1) := by decide +kernel
theorem dX1_become_22 : decode cX1_become 22 = .ok (.aload_n 1, 1) := by decide +kernel
theorem dX1_become_23 : decode cX1_become 23 = .ok (.getfield 17, 3) := by decide +kernel
theorem dX1_become_26 : decode cX1_become 26 = .ok (.putfield 17, 3) := by decide +kernel
theorem dX1_become_29 : decode cX1_become 29 = .ok (.aload_n 0, 1) := by decide +kernel
theorem dX1_become_30 : decode cX1_become 30 = .ok (.aload_n 1, 1) := by decide +kernel
theorem dX1_become_31 : decode cX1_become 31 = .ok (.getfield 20, 3) := by decide +kernel
theorem dX1_become_34 : decode cX1_become 34 = .ok (.putfield 20, 3) := by decide +kernel
theorem dX1_become_37 : decode cX1_become 37 = .ok (.aload_n 0, 1) := by decide +kernel
theorem dX1_become_38 : decode cX1_become 38 = .ok (.aload_n 1, 1) := by decide +kernel
theorem dX1_become_39 : decode cX1_become 39 = .ok (.getfield 23, 3) := by decide +kernel
theorem dX1_become_42 : decode cX1_become 42 = .ok (.putfield 23, 3) := by decide +kernel
theorem dX1_become_45 : decode cX1_become 45 = .ok (.aload_n 0, 1) := by decide +kernel
theorem dX1_become_46 : decode cX1_become 46 = .ok (.aload_n 1, 1) := by decide +kernel
theorem dX1_become_47 : decode cX1_become 47 = .ok (.getfield 26, 3) := by decide +kernel
theorem dX1_become_50 : decode cX1_become 50 = .ok (.putfield 26, 3) := by decide +kernel
theorem dX1_become_53 : decode cX1_become 53 = .ok (.return_, 1) := by decide +kernel
theorem dX1_has_0 : decode cX1_has 0 = .ok (.iload_n 1, 1) := by decide +kernel
theorem dX1_has_1 : decode cX1_has 1 = .ok (.ifCond .lt 15, 3) := by decide +kernel
theorem dX1_has_4 : decode cX1_has 4 = .ok (.iload_n 1, 1) := by decide +kernel
theorem dX1_has_5 : decode cX1_has 5 = .ok (.aload_n 0, 1) := by decide +kernel
theorem dX1_has_6 : decode cX1_has 6 = .ok (.getfield 7, 3) := by decide +kernel
theorem dX1_has_9 : decode cX1_has 9 = .ok (.if_icmp .ge 7, 3) := by decide +kernel
theorem dX1_has_12 : decode cX1_has 12 = .ok (.iconst 1, 1) := by decide +kernel
theorem dX1_has_13 : decode cX1_has 13 = .ok (.goto 4, 3) := by decide +kernel
theorem dX1_has_16 : decode cX1_has 16 = .ok (.iconst 0, 1) := by decide +kernel
theorem dX1_has_17 : decode cX1_has 17 = .ok (.ireturn, 1) := by decide +kernel
set_option maxRecDepth 20000 in
theorem ggX1_placeOf_X6_who : GoodIn wsX1_placeOf wsX6_who := goodIn_r _ [6] (by decide +kernel) (by decide +kernel)
set_option maxRecDepth 20000 in
theorem gX1_placeOf_X6_who : GoodIn wsX1_placeOf (va_wsS RX1 43 yX6_who wsX6_who) := goodIn_app (goodIn_of _ (by decide +kernel)) ggX1_placeOf_X6_who
theorem dX1_placeOf_0 : decode cX1_placeOf 0 = .ok (.iconst 0, 1) := by decide +kernel
theorem dX1_placeOf_1 : decode cX1_placeOf 1 = .ok (.istore_n 2, 1) := by decide +kernel
theorem dX1_placeOf_2 : decode cX1_placeOf 2 = .ok (.iload_n 2, 1) := by decide +kernel
theorem dX1_placeOf_3 : decode cX1_placeOf 3 = .ok (.aload_n 0, 1) := by decide +kernel
theorem dX1_placeOf_4 : decode cX1_placeOf 4 = .ok (.getfield 20, 3) := by decide +kernel
theorem dX1_placeOf_7 : decode cX1_placeOf 7 = .ok (.if_icmp .ge 23, 3) := by decide +kernel
theorem dX1_placeOf_10 : decode cX1_placeOf 10 = .ok (.aload_n 0, 1) := by decide +kernel
theorem dX1_placeOf_11 : decode cX1_placeOf 11 = .ok (.getfield 17, 3) := by decide +kernel
theorem dX1_placeOf_14 : decode cX1_placeOf 14 = .ok (.iload_n 2, 1) := by decide +kernel
theorem dX1_placeOf_15 : decode cX1_placeOf 15 = .ok (.invokestatic 43, 3) := by decide +kernel
theorem dX1_placeOf_18 : decode cX1_placeOf 18 = .ok (.iload_n 1, 1) := by decide +kernel
theorem dX1_placeOf_19 : decode cX1_placeOf 19 = .ok (.if_icmp .ne 5, 3) := by decide +kernel
theorem dX1_placeOf_22 : decode cX1_placeOf 22 = .ok (.iload_n 2, 1) := by decide +kernel
theorem dX1_placeOf_23 : decode cX1_placeOf 23 = .ok (.ireturn, 1) := by decide +kernel
theorem dX1_placeOf_24 : decode cX1_placeOf 24 = .ok (.iinc 2 1, 3) := by decide +kernel
theorem dX1_placeOf_27 : decode cX1_placeOf 27 = .ok (.goto (-25), 3) := by decide +kernel
theorem dX1_placeOf_30 : decode cX1_placeOf 30 = .ok (.iconst (-1), 1) := by decide +kernel
theorem dX1_placeOf_31 : decode cX1_placeOf 31 = .ok (.ireturn, 1) := by decide +kernel
set_option maxRecDepth 20000 in
theorem ggX1_line_X3_inOrder : GoodIn wsX1_line wsX3_inOrder := goodIn_r _ [7, 8, 9, 10, 11, 12, 13, 6, 14, 15] (by decide +kernel) (by decide +kernel)
set_option maxRecDepth 20000 in
theorem gX1_line_X3_inOrder : GoodIn wsX1_line (va_wsS RX1 47 yX3_inOrder wsX3_inOrder) := goodIn_app (goodIn_of _ (by decide +kernel)) ggX1_line_X3_inOrder
theorem dX1_line_0 : decode cX1_line 0 = .ok (.aload_n 0, 1) := by decide +kernel
theorem dX1_line_1 : decode cX1_line 1 = .ok (.getfield 13, 3) := by decide +kernel
theorem dX1_line_4 : decode cX1_line 4 = .ok (.aload_n 0, 1) := by decide +kernel
theorem dX1_line_5 : decode cX1_line 5 = .ok (.getfield 17, 3) := by decide +kernel
theorem dX1_line_8 : decode cX1_line 8 = .ok (.aload_n 0, 1) := by decide +kernel
theorem dX1_line_9 : decode cX1_line 9 = .ok (.getfield 20, 3) := by decide +kernel
theorem dX1_line_12 : decode cX1_line 12 = .ok (.invokestatic 47, 3) := by decide +kernel
theorem dX1_line_15 : decode cX1_line 15 = .ok (.lreturn, 1) := by decide +kernel
theorem dX1_dropSights_0 : decode cX1_dropSights 0 = .ok (.aload_n 0, 1) := by decide +kernel
theorem dX1_dropSights_1 : decode cX1_dropSights 1 = .ok (.lconst 0, 1) := by decide +kernel
theorem dX1_dropSights_2 : decode cX1_dropSights 2 = .ok (.putfield 23, 3) := by decide +kernel
theorem dX1_dropSights_5 : decode cX1_dropSights 5 = .ok (.aload_n 0, 1) := by decide +kernel
theorem dX1_dropSights_6 : decode cX1_dropSights 6 = .ok (.iconst 0, 1) := by decide +kernel
theorem dX1_dropSights_7 : decode cX1_dropSights 7 = .ok (.putfield 26, 3) := by decide +kernel
theorem dX1_dropSights_10 : decode cX1_dropSights 10 = .ok (.return_, 1) := by decide +kernel
theorem dX1_addSight_0 : decode cX1_addSight 0 = .ok (.aload_n 0, 1) := by decide +kernel
theorem dX1_addSight_1 : decode cX1_addSight 1 = .ok (.getfield 26, 3) := by decide +kernel
theorem dX1_addSight_4 : decode cX1_addSight 4 = .ok (.bipush 6, 2) := by decide +kernel
theorem dX1_addSight_6 : decode cX1_addSight 6 = .ok (.if_icmp .lt 5, 3) := by decide +kernel
theorem dX1_addSight_9 : decode cX1_addSight 9 = .ok (.iconst 0, 1) := by decide +kernel
theorem dX1_addSight_10 : decode cX1_addSight 10 = .ok (.ireturn, 1) := by decide +kernel
theorem dX1_addSight_11 : decode cX1_addSight 11 = .ok (.aload_n 0, 1) := by decide +kernel
theorem dX1_addSight_12 : decode cX1_addSight 12 = .ok (.dup, 1) := by decide +kernel
theorem dX1_addSight_13 : decode cX1_addSight 13 = .ok (.getfield 23, 3) := by decide +kernel
theorem dX1_addSight_16 : decode cX1_addSight 16 = .ok (.bipush 8, 2) := by decide +kernel
theorem dX1_addSight_18 : decode cX1_addSight 18 = .ok (.iload_n 1, 1) := by decide +kernel
theorem dX1_addSight_19 : decode cX1_addSight 19 = .ok (.imul, 1) := by decide +kernel
theorem dX1_addSight_20 : decode cX1_addSight 20 = .ok (.iload_n 2, 1) := by decide +kernel
theorem dX1_addSight_21 : decode cX1_addSight 21 = .ok (.iadd, 1) := by decide +kernel
theorem dX1_addSight_22 : decode cX1_addSight 22 = .ok (.i2l, 1) := by decide +kernel
theorem dX1_addSight_23 : decode cX1_addSight 23 = .ok (.bipush 6, 2) := by decide +kernel
theorem dX1_addSight_25 : decode cX1_addSight 25 = .ok (.aload_n 0, 1) := by decide +kernel
theorem dX1_addSight_26 : decode cX1_addSight 26 = .ok (.getfield 26, 3) := by decide +kernel
theorem dX1_addSight_29 : decode cX1_addSight 29 = .ok (.imul, 1) := by decide +kernel
theorem dX1_addSight_30 : decode cX1_addSight 30 = .ok (.lshl, 1) := by decide +kernel
theorem dX1_addSight_31 : decode cX1_addSight 31 = .ok (.lor, 1) := by decide +kernel
theorem dX1_addSight_32 : decode cX1_addSight 32 = .ok (.putfield 23, 3) := by decide +kernel
theorem dX1_addSight_35 : decode cX1_addSight 35 = .ok (.aload_n 0, 1) := by decide +kernel
theorem dX1_addSight_36 : decode cX1_addSight 36 = .ok (.dup, 1) := by decide +kernel
theorem dX1_addSight_37 : decode cX1_addSight 37 = .ok (.getfield 26, 3) := by decide +kernel
theorem dX1_addSight_40 : decode cX1_addSight 40 = .ok (.iconst 1, 1) := by decide +kernel
theorem dX1_addSight_41 : decode cX1_addSight 41 = .ok (.iadd, 1) := by decide +kernel
theorem dX1_addSight_42 : decode cX1_addSight 42 = .ok (.putfield 26, 3) := by decide +kernel
theorem dX1_addSight_45 : decode cX1_addSight 45 = .ok (.iconst 1, 1) := by decide +kernel
theorem dX1_addSight_46 : decode cX1_addSight 46 = .ok (.ireturn, 1) := by decide +kernel
set_option maxRecDepth 20000 in
theorem ggX1_sightsHold_X6_who : GoodIn wsX1_sightsHold wsX6_who := goodIn_r _ [6] (by decide +kernel) (by decide +kernel)
set_option maxRecDepth 20000 in
theorem gX1_sightsHold_X6_who : GoodIn wsX1_sightsHold (va_wsS RX1 43 yX6_who wsX6_who) := goodIn_app (goodIn_of _ (by decide +kernel)) ggX1_sightsHold_X6_who
theorem dX1_sightsHold_0 : decode cX1_sightsHold 0 = .ok (.iconst 0, 1) := by decide +kernel
theorem dX1_sightsHold_1 : decode cX1_sightsHold 1 = .ok (.istore_n 3, 1) := by decide +kernel
theorem dX1_sightsHold_2 : decode cX1_sightsHold 2 = .ok (.iload_n 3, 1) := by decide +kernel
theorem dX1_sightsHold_3 : decode cX1_sightsHold 3 = .ok (.aload_n 0, 1) := by decide +kernel
theorem dX1_sightsHold_4 : decode cX1_sightsHold 4 = .ok (.getfield 26, 3) := by decide +kernel
theorem dX1_sightsHold_7 : decode cX1_sightsHold 7 = .ok (.if_icmp .ge 53, 3) := by decide +kernel
theorem dX1_sightsHold_10 : decode cX1_sightsHold 10 = .ok (.aload_n 0, 1) := by decide +kernel
theorem dX1_sightsHold_11 : decode cX1_sightsHold 11 = .ok (.getfield 23, 3) := by decide +kernel
theorem dX1_sightsHold_14 : decode cX1_sightsHold 14 = .ok (.bipush 6, 2) := by decide +kernel
theorem dX1_sightsHold_16 : decode cX1_sightsHold 16 = .ok (.iload_n 3, 1) := by decide +kernel
theorem dX1_sightsHold_17 : decode cX1_sightsHold 17 = .ok (.imul, 1) := by decide +kernel
theorem dX1_sightsHold_18 : decode cX1_sightsHold 18 = .ok (.lshr, 1) := by decide +kernel
theorem dX1_sightsHold_19 : decode cX1_sightsHold 19 = .ok (.l2i, 1) := by decide +kernel
theorem dX1_sightsHold_20 : decode cX1_sightsHold 20 = .ok (.bipush 63, 2) := by decide +kernel
theorem dX1_sightsHold_22 : decode cX1_sightsHold 22 = .ok (.iand, 1) := by decide +kernel
theorem dX1_sightsHold_23 : decode cX1_sightsHold 23 = .ok (.istore 4, 2) := by decide +kernel
theorem dX1_sightsHold_25 : decode cX1_sightsHold 25 = .ok (.iload 4, 2) := by decide +kernel
theorem dX1_sightsHold_27 : decode cX1_sightsHold 27 = .ok (.bipush 8, 2) := by decide +kernel
theorem dX1_sightsHold_29 : decode cX1_sightsHold 29 = .ok (.irem, 1) := by decide +kernel
theorem dX1_sightsHold_30 : decode cX1_sightsHold 30 = .ok (.istore 5, 2) := by decide +kernel
theorem dX1_sightsHold_32 : decode cX1_sightsHold 32 = .ok (.iload 5, 2) := by decide +kernel
theorem dX1_sightsHold_34 : decode cX1_sightsHold 34 = .ok (.iload_n 2, 1) := by decide +kernel
theorem dX1_sightsHold_35 : decode cX1_sightsHold 35 = .ok (.if_icmp .ge 17, 3) := by decide +kernel
theorem dX1_sightsHold_38 : decode cX1_sightsHold 38 = .ok (.iload_n 1, 1) := by decide +kernel
theorem dX1_sightsHold_39 : decode cX1_sightsHold 39 = .ok (.iload 5, 2) := by decide +kernel
theorem dX1_sightsHold_41 : decode cX1_sightsHold 41 = .ok (.invokestatic 43, 3) := by decide +kernel
theorem dX1_sightsHold_44 : decode cX1_sightsHold 44 = .ok (.iload 4, 2) := by decide +kernel
theorem dX1_sightsHold_46 : decode cX1_sightsHold 46 = .ok (.bipush 8, 2) := by decide +kernel
theorem dX1_sightsHold_48 : decode cX1_sightsHold 48 = .ok (.idiv, 1) := by decide +kernel
theorem dX1_sightsHold_49 : decode cX1_sightsHold 49 = .ok (.if_icmp .eq 5, 3) := by decide +kernel
theorem dX1_sightsHold_52 : decode cX1_sightsHold 52 = .ok (.iconst 0, 1) := by decide +kernel
theorem dX1_sightsHold_53 : decode cX1_sightsHold 53 = .ok (.ireturn, 1) := by decide +kernel
theorem dX1_sightsHold_54 : decode cX1_sightsHold 54 = .ok (.iinc 3 1, 3) := by decide +kernel
theorem dX1_sightsHold_57 : decode cX1_sightsHold 57 = .ok (.goto (-55), 3) := by decide +kernel
theorem dX1_sightsHold_60 : decode cX1_sightsHold 60 = .ok (.iconst 1, 1) := by decide +kernel
theorem dX1_sightsHold_61 : decode cX1_sightsHold 61 = .ok (.ireturn, 1) := by decide +kernel
set_option maxRecDepth 20000 in
theorem ggX2_asBits_X2_teach : GoodIn wsX2_asBits wsX2_teach := goodIn_r _ [4, 5, 6, 7, 8, 9, 10, 11, 12, 13, 14, 15, 16, 17, 18, 19, 20, 21, 3, 22, 23, 24, 25, 26, 27, 28, 29, 30, 31, 32, 33, 34, 35, 36, 37, 38, 39, 40, 41, 42] (by decide +kernel) (by decide +kernel)
set_option maxRecDepth 20000 in
theorem gX2_asBits_X2_teach : GoodIn wsX2_asBits (va_wsS RX2 9 yX2_teach wsX2_teach) := goodIn_app (goodIn_of _ (by decide +kernel)) ggX2_asBits_X2_teach
theorem dX2_asBits_0 : decode cX2_asBits 0 = .ok (.iconst 0, 1) := by decide +kernel
theorem dX2_asBits_1 : decode cX2_asBits 1 = .ok (.istore_n 3, 1) := by decide +kernel
theorem dX2_asBits_2 : decode cX2_asBits 2 = .ok (.iconst 0, 1) := by decide +kernel
theorem dX2_asBits_3 : decode cX2_asBits 3 = .ok (.istore 4, 2) := by decide +kernel
theorem dX2_asBits_5 : decode cX2_asBits 5 = .ok (.iload 4, 2) := by decide +kernel
theorem dX2_asBits_7 : decode cX2_asBits 7 = .ok (.bipush 7, 2) := by decide +kernel
theorem dX2_asBits_9 : decode cX2_asBits 9 = .ok (.if_icmp .ge 30, 3) := by decide +kernel
theorem dX2_asBits_12 : decode cX2_asBits 12 = .ok (.iload_n 3, 1) := by decide +kernel
theorem dX2_asBits_13 : decode cX2_asBits 13 = .ok (.iload 4, 2) := by decide +kernel
theorem dX2_asBits_15 : decode cX2_asBits 15 = .ok (.lload_n 0, 1) := by decide +kernel
theorem dX2_asBits_16 : decode cX2_asBits 16 = .ok (.iload_n 2, 1) := by decide +kernel
theorem dX2_asBits_17 : decode cX2_asBits 17 = .ok (.invokestatic 9, 3) := by decide +kernel
theorem dX2_asBits_20 : decode cX2_asBits 20 = .ok (.ifCond .eq 10, 3) := by decide +kernel
theorem dX2_asBits_23 : decode cX2_asBits 23 = .ok (.iconst 1, 1) := by decide +kernel
theorem dX2_asBits_24 : decode cX2_asBits 24 = .ok (.iload 4, 2) := by decide +kernel
theorem dX2_asBits_26 : decode cX2_asBits 26 = .ok (.ishl, 1) := by decide +kernel
theorem dX2_asBits_27 : decode cX2_asBits 27 = .ok (.goto 4, 3) := by decide +kernel
theorem dX2_asBits_30 : decode cX2_asBits 30 = .ok (.iconst 0, 1) := by decide +kernel
theorem dX2_asBits_31 : decode cX2_asBits 31 = .ok (.ior, 1) := by decide +kernel
theorem dX2_asBits_32 : decode cX2_asBits 32 = .ok (.istore_n 3, 1) := by decide +kernel
theorem dX2_asBits_33 : decode cX2_asBits 33 = .ok (.iinc 4 1, 3) := by decide +kernel
theorem dX2_asBits_36 : decode cX2_asBits 36 = .ok (.goto (-31), 3) := by decide +kernel
theorem dX2_asBits_39 : decode cX2_asBits 39 = .ok (.iload_n 3, 1) := by decide +kernel
theorem dX2_asBits_40 : decode cX2_asBits 40 = .ok (.ireturn, 1) := by decide +kernel
set_option maxRecDepth 20000 in
theorem ggX2_teach_X3_longestRise : GoodIn wsX2_teach wsX3_longestRise := goodIn_r _ [8, 9, 10, 3, 11, 12, 13, 7, 14, 15] (by decide +kernel) (by decide +kernel)
set_option maxRecDepth 20000 in
theorem gX2_teach_X3_longestRise : GoodIn wsX2_teach (va_wsS RX2 15 yX3_longestRise wsX3_longestRise) := goodIn_app (goodIn_of _ (by decide +kernel)) ggX2_teach_X3_longestRise
set_option maxRecDepth 20000 in
theorem ggX2_teach_X2_evenAheadOfOdd : GoodIn wsX2_teach wsX2_evenAheadOfOdd := goodIn_r _ [19, 20, 13, 7, 14, 15] (by decide +kernel) (by decide +kernel)
set_option maxRecDepth 20000 in
theorem gX2_teach_X2_evenAheadOfOdd : GoodIn wsX2_teach (va_wsS RX2 21 yX2_evenAheadOfOdd wsX2_evenAheadOfOdd) := goodIn_app (goodIn_of _ (by decide +kernel)) ggX2_teach_X2_evenAheadOfOdd
set_option maxRecDepth 20000 in
theorem ggX2_teach_X3_numberAt : GoodIn wsX2_teach wsX3_numberAt := goodIn_r _ [14, 15] (by decide +kernel) (by decide +kernel)
set_option maxRecDepth 20000 in
theorem gX2_teach_X3_numberAt : GoodIn wsX2_teach (va_wsS RX2 25 yX3_numberAt wsX3_numberAt) := goodIn_app (goodIn_of _ (by decide +kernel)) ggX2_teach_X3_numberAt
set_option maxRecDepth 20000 in
theorem ggX2_teach_X0_isPrime : GoodIn wsX2_teach wsX0_isPrime := goodIn_r _ [24] (by decide +kernel) (by decide +kernel)
set_option maxRecDepth 20000 in
theorem gX2_teach_X0_isPrime : GoodIn wsX2_teach (va_wsS RX2 28 yX0_isPrime wsX0_isPrime) := goodIn_app (goodIn_of _ (by decide +kernel)) ggX2_teach_X0_isPrime
set_option maxRecDepth 20000 in
theorem ggX2_teach_X3_sum : GoodIn wsX2_teach wsX3_sum := goodIn_r _ [27, 12, 13, 7, 14, 15] (by decide +kernel) (by decide +kernel)
set_option maxRecDepth 20000 in
theorem gX2_teach_X3_sum : GoodIn wsX2_teach (va_wsS RX2 40 yX3_sum wsX3_sum) := goodIn_app (goodIn_of _ (by decide +kernel)) ggX2_teach_X3_sum
set_option maxRecDepth 20000 in
theorem ggX2_teach_X0_isSquare : GoodIn wsX2_teach wsX0_isSquare := goodIn_r _ [30] (by decide +kernel) (by decide +kernel)
set_option maxRecDepth 20000 in
theorem gX2_teach_X0_isSquare : GoodIn wsX2_teach (va_wsS RX2 44 yX0_isSquare wsX0_isSquare) := goodIn_app (goodIn_of _ (by decide +kernel)) ggX2_teach_X0_isSquare
set_option maxRecDepth 20000 in
theorem ggX2_teach_X2_evenAndOddByTurns : GoodIn wsX2_teach wsX2_evenAndOddByTurns := goodIn_r _ [33, 20, 13, 7, 14, 15] (by decide +kernel) (by decide +kernel)
set_option maxRecDepth 20000 in
theorem gX2_teach_X2_evenAndOddByTurns : GoodIn wsX2_teach (va_wsS RX2 47 yX2_evenAndOddByTurns wsX2_evenAndOddByTurns) := goodIn_app (goodIn_of _ (by decide +kernel)) ggX2_teach_X2_evenAndOddByTurns
set_option maxRecDepth 20000 in
theorem ggX2_teach_X2_oneTimesTheOther : GoodIn wsX2_teach wsX2_oneTimesTheOther := goodIn_r _ [36, 20, 13, 7, 14, 15, 37, 38, 18, 39] (by decide +kernel) (by decide +kernel)
set_option maxRecDepth 20000 in
theorem gX2_teach_X2_oneTimesTheOther : GoodIn wsX2_teach (va_wsS RX2 50 yX2_oneTimesTheOther wsX2_oneTimesTheOther) := goodIn_app (goodIn_of _ (by decide +kernel)) ggX2_teach_X2_oneTimesTheOther
theorem dX2_teach_0 : decode cX2_teach 0 = .ok (.iload_n 0, 1) := by decide +kernel
theorem dX2_teach_1 : decode cX2_teach 1 = .ok (.tableswitch 124 0 6 #[43, 58, 64, 73, 87, 93, 99], 43) := by decide +kernel
theorem dX2_teach_44 : decode cX2_teach 44 = .ok (.lload_n 1, 1) := by decide +kernel
theorem dX2_teach_45 : decode cX2_teach 45 = .ok (.iload_n 3, 1) := by decide +kernel
theorem dX2_teach_46 : decode cX2_teach 46 = .ok (.invokestatic 15, 3) := by decide +kernel
theorem dX2_teach_49 : decode cX2_teach 49 = .ok (.iload_n 3, 1) := by decide +kernel
theorem dX2_teach_50 : decode cX2_teach 50 = .ok (.if_icmp .ne 7, 3) := by decide +kernel
theorem dX2_teach_53 : decode cX2_teach 53 = .ok (.iconst 1, 1) := by decide +kernel
theorem dX2_teach_54 : decode cX2_teach 54 = .ok (.goto 4, 3) := by decide +kernel
theorem dX2_teach_57 : decode cX2_teach 57 = .ok (.iconst 0, 1) := by decide +kernel
theorem dX2_teach_58 : decode cX2_teach 58 = .ok (.ireturn, 1) := by decide +kernel
theorem dX2_teach_59 : decode cX2_teach 59 = .ok (.lload_n 1, 1) := by decide +kernel
theorem dX2_teach_60 : decode cX2_teach 60 = .ok (.iload_n 3, 1) := by decide +kernel
theorem dX2_teach_61 : decode cX2_teach 61 = .ok (.invokestatic 21, 3) := by decide +kernel
theorem dX2_teach_64 : decode cX2_teach 64 = .ok (.ireturn, 1) := by decide +kernel
theorem dX2_teach_65 : decode cX2_teach 65 = .ok (.lload_n 1, 1) := by decide +kernel
theorem dX2_teach_66 : decode cX2_teach 66 = .ok (.iconst 0, 1) := by decide +kernel
theorem dX2_teach_67 : decode cX2_teach 67 = .ok (.invokestatic 25, 3) := by decide +kernel
theorem dX2_teach_70 : decode cX2_teach 70 = .ok (.invokestatic 28, 3) := by decide +kernel
theorem dX2_teach_73 : decode cX2_teach 73 = .ok (.ireturn, 1) := by decide +kernel
theorem dX2_teach_74 : decode cX2_teach 74 = .ok (.lload_n 1, 1) := by decide +kernel
theorem dX2_teach_75 : decode cX2_teach 75 = .ok (.iconst 0, 1) := by decide +kernel
theorem dX2_teach_76 : decode cX2_teach 76 = .ok (.iconst 3, 1) := by decide +kernel
theorem dX2_teach_77 : decode cX2_teach 77 = .ok (.iload_n 3, 1) := by decide +kernel
theorem dX2_teach_78 : decode cX2_teach 78 = .ok (.invokestatic 34, 3) := by decide +kernel
theorem dX2_teach_81 : decode cX2_teach 81 = .ok (.invokestatic 40, 3) := by decide +kernel
theorem dX2_teach_84 : decode cX2_teach 84 = .ok (.invokestatic 44, 3) := by decide +kernel
theorem dX2_teach_87 : decode cX2_teach 87 = .ok (.ireturn, 1) := by decide +kernel
theorem dX2_teach_88 : decode cX2_teach 88 = .ok (.lload_n 1, 1) := by decide +kernel
theorem dX2_teach_89 : decode cX2_teach 89 = .ok (.iload_n 3, 1) := by decide +kernel
theorem dX2_teach_90 : decode cX2_teach 90 = .ok (.invokestatic 47, 3) := by decide +kernel
theorem dX2_teach_93 : decode cX2_teach 93 = .ok (.ireturn, 1) := by decide +kernel
theorem dX2_teach_94 : decode cX2_teach 94 = .ok (.lload_n 1, 1) := by decide +kernel
theorem dX2_teach_95 : decode cX2_teach 95 = .ok (.iload_n 3, 1) := by decide +kernel
theorem dX2_teach_96 : decode cX2_teach 96 = .ok (.invokestatic 50, 3) := by decide +kernel
theorem dX2_teach_99 : decode cX2_teach 99 = .ok (.ireturn, 1) := by decide +kernel
theorem dX2_teach_100 : decode cX2_teach 100 = .ok (.lload_n 1, 1) := by decide +kernel
theorem dX2_teach_101 : decode cX2_teach 101 = .ok (.iconst 0, 1) := by decide +kernel
theorem dX2_teach_102 : decode cX2_teach 102 = .ok (.iload_n 3, 1) := by decide +kernel
theorem dX2_teach_103 : decode cX2_teach 103 = .ok (.iconst 2, 1) := by decide +kernel
theorem dX2_teach_104 : decode cX2_teach 104 = .ok (.idiv, 1) := by decide +kernel
theorem dX2_teach_105 : decode cX2_teach 105 = .ok (.invokestatic 40, 3) := by decide +kernel
theorem dX2_teach_108 : decode cX2_teach 108 = .ok (.lload_n 1, 1) := by decide +kernel
theorem dX2_teach_109 : decode cX2_teach 109 = .ok (.iload_n 3, 1) := by decide +kernel
theorem dX2_teach_110 : decode cX2_teach 110 = .ok (.iconst 2, 1) := by decide +kernel
theorem dX2_teach_111 : decode cX2_teach 111 = .ok (.idiv, 1) := by decide +kernel
theorem dX2_teach_112 : decode cX2_teach 112 = .ok (.iload_n 3, 1) := by decide +kernel
theorem dX2_teach_113 : decode cX2_teach 113 = .ok (.invokestatic 40, 3) := by decide +kernel
theorem dX2_teach_116 : decode cX2_teach 116 = .ok (.if_icmp .ne 7, 3) := by decide +kernel
theorem dX2_teach_119 : decode cX2_teach 119 = .ok (.iconst 1, 1) := by decide +kernel
theorem dX2_teach_120 : decode cX2_teach 120 = .ok (.goto 4, 3) := by decide +kernel
theorem dX2_teach_123 : decode cX2_teach 123 = .ok (.iconst 0, 1) := by decide +kernel
theorem dX2_teach_124 : decode cX2_teach 124 = .ok (.ireturn, 1) := by decide +kernel
theorem dX2_teach_125 : decode cX2_teach 125 = .ok (.iconst 0, 1) := by decide +kernel
theorem dX2_teach_126 : decode cX2_teach 126 = .ok (.ireturn, 1) := by decide +kernel
set_option maxRecDepth 20000 in
theorem ggX2_evenAheadOfOdd_X3_numberAt : GoodIn wsX2_evenAheadOfOdd wsX3_numberAt := goodIn_r _ [4, 5] (by decide +kernel) (by decide +kernel)
set_option maxRecDepth 20000 in
theorem gX2_evenAheadOfOdd_X3_numberAt : GoodIn wsX2_evenAheadOfOdd (va_wsS RX2 25 yX3_numberAt wsX3_numberAt) := goodIn_app (goodIn_of _ (by decide +kernel)) ggX2_evenAheadOfOdd_X3_numberAt
theorem dX2_evenAheadOfOdd_0 : decode cX2_evenAheadOfOdd 0 = .ok (.iconst 1, 1) := by decide +kernel
theorem dX2_evenAheadOfOdd_1 : decode cX2_evenAheadOfOdd 1 = .ok (.istore_n 3, 1) := by decide +kernel
theorem dX2_evenAheadOfOdd_2 : decode cX2_evenAheadOfOdd 2 = .ok (.iload_n 3, 1) := by decide +kernel
theorem dX2_evenAheadOfOdd_3 : decode cX2_evenAheadOfOdd 3 = .ok (.iload_n 2, 1) := by decide +kernel
theorem dX2_evenAheadOfOdd_4 : decode cX2_evenAheadOfOdd 4 = .ok (.if_icmp .ge 34, 3) := by decide +kernel
theorem dX2_evenAheadOfOdd_7 : decode cX2_evenAheadOfOdd 7 = .ok (.lload_n 0, 1) := by decide +kernel
theorem dX2_evenAheadOfOdd_8 : decode cX2_evenAheadOfOdd 8 = .ok (.iload_n 3, 1) := by decide +kernel
theorem dX2_evenAheadOfOdd_9 : decode cX2_evenAheadOfOdd 9 = .ok (.iconst 1, 1) := by decide +kernel
theorem dX2_evenAheadOfOdd_10 : decode cX2_evenAheadOfOdd 10 = .ok (.isub, 1) := by decide +kernel
theorem dX2_evenAheadOfOdd_11 : decode cX2_evenAheadOfOdd 11 = .ok (.invokestatic 25, 3) := by decide +kernel
theorem dX2_evenAheadOfOdd_14 : decode cX2_evenAheadOfOdd 14 = .ok (.iconst 2, 1) := by decide +kernel
theorem dX2_evenAheadOfOdd_15 : decode cX2_evenAheadOfOdd 15 = .ok (.irem, 1) := by decide +kernel
theorem dX2_evenAheadOfOdd_16 : decode cX2_evenAheadOfOdd 16 = .ok (.iconst 1, 1) := by decide +kernel
theorem dX2_evenAheadOfOdd_17 : decode cX2_evenAheadOfOdd 17 = .ok (.if_icmp .ne 15, 3) := by decide +kernel
theorem dX2_evenAheadOfOdd_20 : decode cX2_evenAheadOfOdd 20 = .ok (.lload_n 0, 1) := by decide +kernel
theorem dX2_evenAheadOfOdd_21 : decode cX2_evenAheadOfOdd 21 = .ok (.iload_n 3, 1) := by decide +kernel
theorem dX2_evenAheadOfOdd_22 : decode cX2_evenAheadOfOdd 22 = .ok (.invokestatic 25, 3) := by decide +kernel
theorem dX2_evenAheadOfOdd_25 : decode cX2_evenAheadOfOdd 25 = .ok (.iconst 2, 1) := by decide +kernel
theorem dX2_evenAheadOfOdd_26 : decode cX2_evenAheadOfOdd 26 = .ok (.irem, 1) := by decide +kernel
theorem dX2_evenAheadOfOdd_27 : decode cX2_evenAheadOfOdd 27 = .ok (.ifCond .ne 5, 3) := by decide +kernel
theorem dX2_evenAheadOfOdd_30 : decode cX2_evenAheadOfOdd 30 = .ok (.iconst 0, 1) := by decide +kernel
theorem dX2_evenAheadOfOdd_31 : decode cX2_evenAheadOfOdd 31 = .ok (.ireturn, 1) := by decide +kernel
theorem dX2_evenAheadOfOdd_32 : decode cX2_evenAheadOfOdd 32 = .ok (.iinc 3 1, 3) := by decide +kernel
theorem dX2_evenAheadOfOdd_35 : decode cX2_evenAheadOfOdd 35 = .ok (.goto (-33), 3) := by decide +kernel
theorem dX2_evenAheadOfOdd_38 : decode cX2_evenAheadOfOdd 38 = .ok (.iconst 1, 1) := by decide +kernel
theorem dX2_evenAheadOfOdd_39 : decode cX2_evenAheadOfOdd 39 = .ok (.ireturn, 1) := by decide +kernel
set_option maxRecDepth 20000 in
theorem ggX2_evenAndOddByTurns_X3_numberAt : GoodIn wsX2_evenAndOddByTurns wsX3_numberAt := goodIn_r _ [4, 5] (by decide +kernel) (by decide +kernel)
set_option maxRecDepth 20000 in
theorem gX2_evenAndOddByTurns_X3_numberAt : GoodIn wsX2_evenAndOddByTurns (va_wsS RX2 25 yX3_numberAt wsX3_numberAt) := goodIn_app (goodIn_of _ (by decide +kernel)) ggX2_evenAndOddByTurns_X3_numberAt
theorem dX2_evenAndOddByTurns_0 : decode cX2_evenAndOddByTurns 0 = .ok (.iconst 1, 1) := by decide +kernel
theorem dX2_evenAndOddByTurns_1 : decode cX2_evenAndOddByTurns 1 = .ok (.istore_n 3, 1) := by decide +kernel
theorem dX2_evenAndOddByTurns_2 : decode cX2_evenAndOddByTurns 2 = .ok (.iload_n 3, 1) := by decide +kernel
theorem dX2_evenAndOddByTurns_3 : decode cX2_evenAndOddByTurns 3 = .ok (.iload_n 2, 1) := by decide +kernel
theorem dX2_evenAndOddByTurns_4 : decode cX2_evenAndOddByTurns 4 = .ok (.if_icmp .ge 30, 3) := by decide +kernel
theorem dX2_evenAndOddByTurns_7 : decode cX2_evenAndOddByTurns 7 = .ok (.lload_n 0, 1) := by decide +kernel
theorem dX2_evenAndOddByTurns_8 : decode cX2_evenAndOddByTurns 8 = .ok (.iload_n 3, 1) := by decide +kernel
theorem dX2_evenAndOddByTurns_9 : decode cX2_evenAndOddByTurns 9 = .ok (.iconst 1, 1) := by decide +kernel
theorem dX2_evenAndOddByTurns_10 : decode cX2_evenAndOddByTurns 10 = .ok (.isub, 1) := by decide +kernel
theorem dX2_evenAndOddByTurns_11 : decode cX2_evenAndOddByTurns 11 = .ok (.invokestatic 25, 3) := by decide +kernel
theorem dX2_evenAndOddByTurns_14 : decode cX2_evenAndOddByTurns 14 = .ok (.iconst 2, 1) := by decide +kernel
theorem dX2_evenAndOddByTurns_15 : decode cX2_evenAndOddByTurns 15 = .ok (.irem, 1) := by decide +kernel
theorem dX2_evenAndOddByTurns_16 : decode cX2_evenAndOddByTurns 16 = .ok (.lload_n 0, 1) := by decide +kernel
theorem dX2_evenAndOddByTurns_17 : decode cX2_evenAndOddByTurns 17 = .ok (.iload_n 3, 1) := by decide +kernel
theorem dX2_evenAndOddByTurns_18 : decode cX2_evenAndOddByTurns 18 = .ok (.invokestatic 25, 3) := by decide +kernel
theorem dX2_evenAndOddByTurns_21 : decode cX2_evenAndOddByTurns 21 = .ok (.iconst 2, 1) := by decide +kernel
theorem dX2_evenAndOddByTurns_22 : decode cX2_evenAndOddByTurns 22 = .ok (.irem, 1) := by decide +kernel
theorem dX2_evenAndOddByTurns_23 : decode cX2_evenAndOddByTurns 23 = .ok (.if_icmp .ne 5, 3) := by decide +kernel
theorem dX2_evenAndOddByTurns_26 : decode cX2_evenAndOddByTurns 26 = .ok (.iconst 0, 1) := by decide +kernel
theorem dX2_evenAndOddByTurns_27 : decode cX2_evenAndOddByTurns 27 = .ok (.ireturn, 1) := by decide +kernel
theorem dX2_evenAndOddByTurns_28 : decode cX2_evenAndOddByTurns 28 = .ok (.iinc 3 1, 3) := by decide +kernel
theorem dX2_evenAndOddByTurns_31 : decode cX2_evenAndOddByTurns 31 = .ok (.goto (-29), 3) := by decide +kernel
theorem dX2_evenAndOddByTurns_34 : decode cX2_evenAndOddByTurns 34 = .ok (.iconst 1, 1) := by decide +kernel
theorem dX2_evenAndOddByTurns_35 : decode cX2_evenAndOddByTurns 35 = .ok (.ireturn, 1) := by decide +kernel
set_option maxRecDepth 20000 in
theorem ggX2_oneTimesTheOther_X3_numberAt : GoodIn wsX2_oneTimesTheOther wsX3_numberAt := goodIn_r _ [4, 5] (by decide +kernel) (by decide +kernel)
set_option maxRecDepth 20000 in
theorem gX2_oneTimesTheOther_X3_numberAt : GoodIn wsX2_oneTimesTheOther (va_wsS RX2 25 yX3_numberAt wsX3_numberAt) := goodIn_app (goodIn_of _ (by decide +kernel)) ggX2_oneTimesTheOther_X3_numberAt
set_option maxRecDepth 20000 in
theorem ggX2_oneTimesTheOther_X2_isSomeTimes : GoodIn wsX2_oneTimesTheOther wsX2_isSomeTimes := goodIn_r _ [9] (by decide +kernel) (by decide +kernel)
set_option maxRecDepth 20000 in
theorem gX2_oneTimesTheOther_X2_isSomeTimes : GoodIn wsX2_oneTimesTheOther (va_wsS RX2 53 yX2_isSomeTimes wsX2_isSomeTimes) := goodIn_app (goodIn_of _ (by decide +kernel)) ggX2_oneTimesTheOther_X2_isSomeTimes
theorem dX2_oneTimesTheOther_0 : decode cX2_oneTimesTheOther 0 = .ok (.iconst 1, 1) := by decide +kernel
theorem dX2_oneTimesTheOther_1 : decode cX2_oneTimesTheOther 1 = .ok (.istore_n 3, 1) := by decide +kernel
theorem dX2_oneTimesTheOther_2 : decode cX2_oneTimesTheOther 2 = .ok (.iload_n 3, 1) := by decide +kernel
theorem dX2_oneTimesTheOther_3 : decode cX2_oneTimesTheOther 3 = .ok (.iload_n 2, 1) := by decide +kernel
theorem dX2_oneTimesTheOther_4 : decode cX2_oneTimesTheOther 4 = .ok (.if_icmp .ge 47, 3) := by decide +kernel
theorem dX2_oneTimesTheOther_7 : decode cX2_oneTimesTheOther 7 = .ok (.lload_n 0, 1) := by decide +kernel
theorem dX2_oneTimesTheOther_8 : decode cX2_oneTimesTheOther 8 = .ok (.iload_n 3, 1) := by decide +kernel
theorem dX2_oneTimesTheOther_9 : decode cX2_oneTimesTheOther 9 = .ok (.iconst 1, 1) := by decide +kernel
theorem dX2_oneTimesTheOther_10 : decode cX2_oneTimesTheOther 10 = .ok (.isub, 1) := by decide +kernel
theorem dX2_oneTimesTheOther_11 : decode cX2_oneTimesTheOther 11 = .ok (.invokestatic 25, 3) := by decide +kernel
theorem dX2_oneTimesTheOther_14 : decode cX2_oneTimesTheOther 14 = .ok (.istore 4, 2) := by decide +kernel
theorem dX2_oneTimesTheOther_16 : decode cX2_oneTimesTheOther 16 = .ok (.lload_n 0, 1) := by decide +kernel
theorem dX2_oneTimesTheOther_17 : decode cX2_oneTimesTheOther 17 = .ok (.iload_n 3, 1) := by decide +kernel
theorem dX2_oneTimesTheOther_18 : decode cX2_oneTimesTheOther 18 = .ok (.invokestatic 25, 3) := by decide +kernel
theorem dX2_oneTimesTheOther_21 : decode cX2_oneTimesTheOther 21 = .ok (.istore 5, 2) := by decide +kernel
theorem dX2_oneTimesTheOther_23 : decode cX2_oneTimesTheOther 23 = .ok (.iload 4, 2) := by decide +kernel
theorem dX2_oneTimesTheOther_25 : decode cX2_oneTimesTheOther 25 = .ok (.iload 5, 2) := by decide +kernel
theorem dX2_oneTimesTheOther_27 : decode cX2_oneTimesTheOther 27 = .ok (.invokestatic 53, 3) := by decide +kernel
theorem dX2_oneTimesTheOther_30 : decode cX2_oneTimesTheOther 30 = .ok (.ifCond .ne 15, 3) := by decide +kernel
theorem dX2_oneTimesTheOther_33 : decode cX2_oneTimesTheOther 33 = .ok (.iload 5, 2) := by decide +kernel
theorem dX2_oneTimesTheOther_35 : decode cX2_oneTimesTheOther 35 = .ok (.iload 4, 2) := by decide +kernel
theorem dX2_oneTimesTheOther_37 : decode cX2_oneTimesTheOther 37 = .ok (.invokestatic 53, 3) := by decide +kernel
theorem dX2_oneTimesTheOther_40 : decode cX2_oneTimesTheOther 40 = .ok (.ifCond .ne 5, 3) := by decide +kernel
theorem dX2_oneTimesTheOther_43 : decode cX2_oneTimesTheOther 43 = .ok (.iconst 0, 1) := by decide +kernel
theorem dX2_oneTimesTheOther_44 : decode cX2_oneTimesTheOther 44 = .ok (.ireturn, 1) := by decide +kernel
theorem dX2_oneTimesTheOther_45 : decode cX2_oneTimesTheOther 45 = .ok (.iinc 3 1, 3) := by decide +kernel
theorem dX2_oneTimesTheOther_48 : decode cX2_oneTimesTheOther 48 = .ok (.goto (-46), 3) := by decide +kernel
theorem dX2_oneTimesTheOther_51 : decode cX2_oneTimesTheOther 51 = .ok (.iconst 1, 1) := by decide +kernel
theorem dX2_oneTimesTheOther_52 : decode cX2_oneTimesTheOther 52 = .ok (.ireturn, 1) := by decide +kernel
theorem dX2_isSomeTimes_0 : decode cX2_isSomeTimes 0 = .ok (.iload_n 0, 1) := by decide +kernel
theorem dX2_isSomeTimes_1 : decode cX2_isSomeTimes 1 = .ok (.ifCond .eq 13, 3) := by decide +kernel
theorem dX2_isSomeTimes_4 : decode cX2_isSomeTimes 4 = .ok (.iload_n 1, 1) := by decide +kernel
theorem dX2_isSomeTimes_5 : decode cX2_isSomeTimes 5 = .ok (.ifCond .le 13, 3) := by decide +kernel
theorem dX2_isSomeTimes_8 : decode cX2_isSomeTimes 8 = .ok (.iload_n 0, 1) := by decide +kernel
theorem dX2_isSomeTimes_9 : decode cX2_isSomeTimes 9 = .ok (.iload_n 1, 1) := by decide +kernel
theorem dX2_isSomeTimes_10 : decode cX2_isSomeTimes 10 = .ok (.irem, 1) := by decide +kernel
theorem dX2_isSomeTimes_11 : decode cX2_isSomeTimes 11 = .ok (.ifCond .ne 7, 3) := by decide +kernel
theorem dX2_isSomeTimes_14 : decode cX2_isSomeTimes 14 = .ok (.iconst 1, 1) := by decide +kernel
theorem dX2_isSomeTimes_15 : decode cX2_isSomeTimes 15 = .ok (.goto 4, 3) := by decide +kernel
theorem dX2_isSomeTimes_18 : decode cX2_isSomeTimes 18 = .ok (.iconst 0, 1) := by decide +kernel
theorem dX2_isSomeTimes_19 : decode cX2_isSomeTimes 19 = .ok (.ireturn, 1) := by decide +kernel
theorem dX3_first_0 : decode cX3_first 0 = .ok (.lconst 0, 1) := by decide +kernel
theorem dX3_first_1 : decode cX3_first 1 = .ok (.lstore_n 1, 1) := by decide +kernel
theorem dX3_first_2 : decode cX3_first 2 = .ok (.iconst 0, 1) := by decide +kernel
theorem dX3_first_3 : decode cX3_first 3 = .ok (.istore_n 3, 1) := by decide +kernel
theorem dX3_first_4 : decode cX3_first 4 = .ok (.iload_n 3, 1) := by decide +kernel
theorem dX3_first_5 : decode cX3_first 5 = .ok (.iload_n 0, 1) := by decide +kernel
theorem dX3_first_6 : decode cX3_first 6 = .ok (.if_icmp .ge 21, 3) := by decide +kernel
theorem dX3_first_9 : decode cX3_first 9 = .ok (.lload_n 1, 1) := by decide +kernel
theorem dX3_first_10 : decode cX3_first 10 = .ok (.iload_n 3, 1) := by decide +kernel
theorem dX3_first_11 : decode cX3_first 11 = .ok (.iconst 1, 1) := by decide +kernel
theorem dX3_first_12 : decode cX3_first 12 = .ok (.iadd, 1) := by decide +kernel
theorem dX3_first_13 : decode cX3_first 13 = .ok (.i2l, 1) := by decide +kernel
theorem dX3_first_14 : decode cX3_first 14 = .ok (.bipush 8, 2) := by decide +kernel
theorem dX3_first_16 : decode cX3_first 16 = .ok (.iload_n 3, 1) := by decide +kernel
theorem dX3_first_17 : decode cX3_first 17 = .ok (.imul, 1) := by decide +kernel
theorem dX3_first_18 : decode cX3_first 18 = .ok (.lshl, 1) := by decide +kernel
theorem dX3_first_19 : decode cX3_first 19 = .ok (.lor, 1) := by decide +kernel
theorem dX3_first_20 : decode cX3_first 20 = .ok (.lstore_n 1, 1) := by decide +kernel
theorem dX3_first_21 : decode cX3_first 21 = .ok (.iinc 3 1, 3) := by decide +kernel
theorem dX3_first_24 : decode cX3_first 24 = .ok (.goto (-20), 3) := by decide +kernel
theorem dX3_first_27 : decode cX3_first 27 = .ok (.lload_n 1, 1) := by decide +kernel
theorem dX3_first_28 : decode cX3_first 28 = .ok (.lreturn, 1) := by decide +kernel
theorem dX3_numberAt_0 : decode cX3_numberAt 0 = .ok (.lload_n 0, 1) := by decide +kernel
theorem dX3_numberAt_1 : decode cX3_numberAt 1 = .ok (.bipush 8, 2) := by decide +kernel
theorem dX3_numberAt_3 : decode cX3_numberAt 3 = .ok (.iload_n 2, 1) := by decide +kernel
theorem dX3_numberAt_4 : decode cX3_numberAt 4 = .ok (.imul, 1) := by decide +kernel
theorem dX3_numberAt_5 : decode cX3_numberAt 5 = .ok (.lshr, 1) := by decide +kernel
theorem dX3_numberAt_6 : decode cX3_numberAt 6 = .ok (.ldc2_w 11, 3) := by decide +kernel
theorem dX3_numberAt_9 : decode cX3_numberAt 9 = .ok (.land, 1) := by decide +kernel
theorem dX3_numberAt_10 : decode cX3_numberAt 10 = .ok (.l2i, 1) := by decide +kernel
theorem dX3_numberAt_11 : decode cX3_numberAt 11 = .ok (.ireturn, 1) := by decide +kernel
theorem dX3_with_0 : decode cX3_with 0 = .ok (.lload_n 0, 1) := by decide +kernel
theorem dX3_with_1 : decode cX3_with 1 = .ok (.ldc2_w 11, 3) := by decide +kernel
theorem dX3_with_4 : decode cX3_with 4 = .ok (.bipush 8, 2) := by decide +kernel
theorem dX3_with_6 : decode cX3_with 6 = .ok (.iload_n 2, 1) := by decide +kernel
theorem dX3_with_7 : decode cX3_with 7 = .ok (.imul, 1) := by decide +kernel
theorem dX3_with_8 : decode cX3_with 8 = .ok (.lshl, 1) := by decide +kernel
theorem dX3_with_9 : decode cX3_with 9 = .ok (.ldc2_w 13, 3) := by decide +kernel
theorem dX3_with_12 : decode cX3_with 12 = .ok (.lxor, 1) := by decide +kernel
theorem dX3_with_13 : decode cX3_with 13 = .ok (.land, 1) := by decide +kernel
theorem dX3_with_14 : decode cX3_with 14 = .ok (.iload_n 3, 1) := by decide +kernel
theorem dX3_with_15 : decode cX3_with 15 = .ok (.i2l, 1) := by decide +kernel
theorem dX3_with_16 : decode cX3_with 16 = .ok (.bipush 8, 2) := by decide +kernel
theorem dX3_with_18 : decode cX3_with 18 = .ok (.iload_n 2, 1) := by decide +kernel
theorem dX3_with_19 : decode cX3_with 19 = .ok (.imul, 1) := by decide +kernel
theorem dX3_with_20 : decode cX3_with 20 = .ok (.lshl, 1) := by decide +kernel
theorem dX3_with_21 : decode cX3_with 21 = .ok (.lor, 1) := by decide +kernel
theorem dX3_with_22 : decode cX3_with 22 = .ok (.lreturn, 1) := by decide +kernel
set_option maxRecDepth 20000 in
theorem ggX3_inOrder_X6_who : GoodIn wsX3_inOrder wsX6_who := goodIn_r _ [4] (by decide +kernel) (by decide +kernel)
set_option maxRecDepth 20000 in
theorem gX3_inOrder_X6_who : GoodIn wsX3_inOrder (va_wsS RX3 15 yX6_who wsX6_who) := goodIn_app (goodIn_of _ (by decide +kernel)) ggX3_inOrder_X6_who
set_option maxRecDepth 20000 in
theorem ggX3_inOrder_X3_numberAt : GoodIn wsX3_inOrder wsX3_numberAt := goodIn_r _ [8, 9] (by decide +kernel) (by decide +kernel)
set_option maxRecDepth 20000 in
theorem gX3_inOrder_X3_numberAt : GoodIn wsX3_inOrder (va_wsS RX3 21 yX3_numberAt wsX3_numberAt) := goodIn_app (goodIn_of _ (by decide +kernel)) ggX3_inOrder_X3_numberAt
theorem dX3_inOrder_0 : decode cX3_inOrder 0 = .ok (.lconst 0, 1) := by decide +kernel
theorem dX3_inOrder_1 : decode cX3_inOrder 1 = .ok (.lstore 4, 2) := by decide +kernel
theorem dX3_inOrder_3 : decode cX3_inOrder 3 = .ok (.iconst 0, 1) := by decide +kernel
theorem dX3_inOrder_4 : decode cX3_inOrder 4 = .ok (.istore 6, 2) := by decide +kernel
theorem dX3_inOrder_6 : decode cX3_inOrder 6 = .ok (.iload 6, 2) := by decide +kernel
theorem dX3_inOrder_8 : decode cX3_inOrder 8 = .ok (.iload_n 3, 1) := by decide +kernel
theorem dX3_inOrder_9 : decode cX3_inOrder 9 = .ok (.if_icmp .ge 31, 3) := by decide +kernel
theorem dX3_inOrder_12 : decode cX3_inOrder 12 = .ok (.lload 4, 2) := by decide +kernel
theorem dX3_inOrder_14 : decode cX3_inOrder 14 = .ok (.lload_n 0, 1) := by decide +kernel
theorem dX3_inOrder_15 : decode cX3_inOrder 15 = .ok (.iload_n 2, 1) := by decide +kernel
theorem dX3_inOrder_16 : decode cX3_inOrder 16 = .ok (.iload 6, 2) := by decide +kernel
theorem dX3_inOrder_18 : decode cX3_inOrder 18 = .ok (.invokestatic 15, 3) := by decide +kernel
theorem dX3_inOrder_21 : decode cX3_inOrder 21 = .ok (.invokestatic 21, 3) := by decide +kernel
theorem dX3_inOrder_24 : decode cX3_inOrder 24 = .ok (.i2l, 1) := by decide +kernel
theorem dX3_inOrder_25 : decode cX3_inOrder 25 = .ok (.bipush 8, 2) := by decide +kernel
theorem dX3_inOrder_27 : decode cX3_inOrder 27 = .ok (.iload 6, 2) := by decide +kernel
theorem dX3_inOrder_29 : decode cX3_inOrder 29 = .ok (.imul, 1) := by decide +kernel
theorem dX3_inOrder_30 : decode cX3_inOrder 30 = .ok (.lshl, 1) := by decide +kernel
theorem dX3_inOrder_31 : decode cX3_inOrder 31 = .ok (.lor, 1) := by decide +kernel
theorem dX3_inOrder_32 : decode cX3_inOrder 32 = .ok (.lstore 4, 2) := by decide +kernel
theorem dX3_inOrder_34 : decode cX3_inOrder 34 = .ok (.iinc 6 1, 3) := by decide +kernel
theorem dX3_inOrder_37 : decode cX3_inOrder 37 = .ok (.goto (-31), 3) := by decide +kernel
theorem dX3_inOrder_40 : decode cX3_inOrder 40 = .ok (.lload 4, 2) := by decide +kernel
theorem dX3_inOrder_42 : decode cX3_inOrder 42 = .ok (.lreturn, 1) := by decide +kernel
set_option maxRecDepth 20000 in
theorem ggX3_sum_X3_numberAt : GoodIn wsX3_sum wsX3_numberAt := goodIn_r _ [4, 5] (by decide +kernel) (by decide +kernel)
set_option maxRecDepth 20000 in
theorem gX3_sum_X3_numberAt : GoodIn wsX3_sum (va_wsS RX3 21 yX3_numberAt wsX3_numberAt) := goodIn_app (goodIn_of _ (by decide +kernel)) ggX3_sum_X3_numberAt
theorem dX3_sum_0 : decode cX3_sum 0 = .ok (.iconst 0, 1) := by decide +kernel
theorem dX3_sum_1 : decode cX3_sum 1 = .ok (.istore 4, 2) := by decide +kernel
theorem dX3_sum_3 : decode cX3_sum 3 = .ok (.iload_n 2, 1) := by decide +kernel
theorem dX3_sum_4 : decode cX3_sum 4 = .ok (.istore 5, 2) := by decide +kernel
theorem dX3_sum_6 : decode cX3_sum 6 = .ok (.iload 5, 2) := by decide +kernel
theorem dX3_sum_8 : decode cX3_sum 8 = .ok (.iload_n 3, 1) := by decide +kernel
theorem dX3_sum_9 : decode cX3_sum 9 = .ok (.if_icmp .ge 20, 3) := by decide +kernel
theorem dX3_sum_12 : decode cX3_sum 12 = .ok (.iload 4, 2) := by decide +kernel
theorem dX3_sum_14 : decode cX3_sum 14 = .ok (.lload_n 0, 1) := by decide +kernel
theorem dX3_sum_15 : decode cX3_sum 15 = .ok (.iload 5, 2) := by decide +kernel
theorem dX3_sum_17 : decode cX3_sum 17 = .ok (.invokestatic 21, 3) := by decide +kernel
theorem dX3_sum_20 : decode cX3_sum 20 = .ok (.iadd, 1) := by decide +kernel
theorem dX3_sum_21 : decode cX3_sum 21 = .ok (.istore 4, 2) := by decide +kernel
theorem dX3_sum_23 : decode cX3_sum 23 = .ok (.iinc 5 1, 3) := by decide +kernel
theorem dX3_sum_26 : decode cX3_sum 26 = .ok (.goto (-20), 3) := by decide +kernel
theorem dX3_sum_29 : decode cX3_sum 29 = .ok (.iload 4, 2) := by decide +kernel
theorem dX3_sum_31 : decode cX3_sum 31 = .ok (.ireturn, 1) := by decide +kernel
set_option maxRecDepth 20000 in
theorem ggX3_stretches_X3_sum : GoodIn wsX3_stretches wsX3_sum := goodIn_r _ [4, 5, 6, 3, 7, 8] (by decide +kernel) (by decide +kernel)
set_option maxRecDepth 20000 in
theorem gX3_stretches_X3_sum : GoodIn wsX3_stretches (va_wsS RX3 25 yX3_sum wsX3_sum) := goodIn_app (goodIn_of _ (by decide +kernel)) ggX3_stretches_X3_sum
theorem dX3_stretches_0 : decode cX3_stretches 0 = .ok (.iconst 0, 1) := by decide +kernel
theorem dX3_stretches_1 : decode cX3_stretches 1 = .ok (.istore 4, 2) := by decide +kernel
theorem dX3_stretches_3 : decode cX3_stretches 3 = .ok (.iconst 0, 1) := by decide +kernel
theorem dX3_stretches_4 : decode cX3_stretches 4 = .ok (.istore 5, 2) := by decide +kernel
theorem dX3_stretches_6 : decode cX3_stretches 6 = .ok (.iload 5, 2) := by decide +kernel
theorem dX3_stretches_8 : decode cX3_stretches 8 = .ok (.iload_n 2, 1) := by decide +kernel
theorem dX3_stretches_9 : decode cX3_stretches 9 = .ok (.if_icmp .ge 49, 3) := by decide +kernel
theorem dX3_stretches_12 : decode cX3_stretches 12 = .ok (.iload 5, 2) := by decide +kernel
theorem dX3_stretches_14 : decode cX3_stretches 14 = .ok (.iconst 1, 1) := by decide +kernel
theorem dX3_stretches_15 : decode cX3_stretches 15 = .ok (.iadd, 1) := by decide +kernel
theorem dX3_stretches_16 : decode cX3_stretches 16 = .ok (.istore 6, 2) := by decide +kernel
theorem dX3_stretches_18 : decode cX3_stretches 18 = .ok (.iload 6, 2) := by decide +kernel
theorem dX3_stretches_20 : decode cX3_stretches 20 = .ok (.iload_n 2, 1) := by decide +kernel
theorem dX3_stretches_21 : decode cX3_stretches 21 = .ok (.if_icmp .gt 31, 3) := by decide +kernel
theorem dX3_stretches_24 : decode cX3_stretches 24 = .ok (.iload 4, 2) := by decide +kernel
theorem dX3_stretches_26 : decode cX3_stretches 26 = .ok (.lload_n 0, 1) := by decide +kernel
theorem dX3_stretches_27 : decode cX3_stretches 27 = .ok (.iload 5, 2) := by decide +kernel
theorem dX3_stretches_29 : decode cX3_stretches 29 = .ok (.iload 6, 2) := by decide +kernel
theorem dX3_stretches_31 : decode cX3_stretches 31 = .ok (.invokestatic 25, 3) := by decide +kernel
theorem dX3_stretches_34 : decode cX3_stretches 34 = .ok (.iload_n 3, 1) := by decide +kernel
theorem dX3_stretches_35 : decode cX3_stretches 35 = .ok (.if_icmp .ne 7, 3) := by decide +kernel
theorem dX3_stretches_38 : decode cX3_stretches 38 = .ok (.iconst 1, 1) := by decide +kernel
theorem dX3_stretches_39 : decode cX3_stretches 39 = .ok (.goto 4, 3) := by decide +kernel
theorem dX3_stretches_42 : decode cX3_stretches 42 = .ok (.iconst 0, 1) := by decide +kernel
theorem dX3_stretches_43 : decode cX3_stretches 43 = .ok (.iadd, 1) := by decide +kernel
theorem dX3_stretches_44 : decode cX3_stretches 44 = .ok (.istore 4, 2) := by decide +kernel
theorem dX3_stretches_46 : decode cX3_stretches 46 = .ok (.iinc 6 1, 3) := by decide +kernel
theorem dX3_stretches_49 : decode cX3_stretches 49 = .ok (.goto (-31), 3) := by decide +kernel
theorem dX3_stretches_52 : decode cX3_stretches 52 = .ok (.iinc 5 1, 3) := by decide +kernel
theorem dX3_stretches_55 : decode cX3_stretches 55 = .ok (.goto (-49), 3) := by decide +kernel
theorem dX3_stretches_58 : decode cX3_stretches 58 = .ok (.iload 4, 2) := by decide +kernel
theorem dX3_stretches_60 : decode cX3_stretches 60 = .ok (.ireturn, 1) := by decide +kernel
set_option maxRecDepth 20000 in
theorem ggX3_firstStretch_X3_sum : GoodIn wsX3_firstStretch wsX3_sum := goodIn_r _ [4, 5, 6, 3, 7, 8] (by decide +kernel) (by decide +kernel)
set_option maxRecDepth 20000 in
theorem gX3_firstStretch_X3_sum : GoodIn wsX3_firstStretch (va_wsS RX3 25 yX3_sum wsX3_sum) := goodIn_app (goodIn_of _ (by decide +kernel)) ggX3_firstStretch_X3_sum
theorem dX3_firstStretch_0 : decode cX3_firstStretch 0 = .ok (.iconst 0, 1) := by decide +kernel
theorem dX3_firstStretch_1 : decode cX3_firstStretch 1 = .ok (.istore 4, 2) := by decide +kernel
theorem dX3_firstStretch_3 : decode cX3_firstStretch 3 = .ok (.iload 4, 2) := by decide +kernel
theorem dX3_firstStretch_5 : decode cX3_firstStretch 5 = .ok (.iload_n 2, 1) := by decide +kernel
theorem dX3_firstStretch_6 : decode cX3_firstStretch 6 = .ok (.if_icmp .ge 42, 3) := by decide +kernel
theorem dX3_firstStretch_9 : decode cX3_firstStretch 9 = .ok (.iload 4, 2) := by decide +kernel
theorem dX3_firstStretch_11 : decode cX3_firstStretch 11 = .ok (.iconst 1, 1) := by decide +kernel
theorem dX3_firstStretch_12 : decode cX3_firstStretch 12 = .ok (.iadd, 1) := by decide +kernel
theorem dX3_firstStretch_13 : decode cX3_firstStretch 13 = .ok (.istore 5, 2) := by decide +kernel
theorem dX3_firstStretch_15 : decode cX3_firstStretch 15 = .ok (.iload 5, 2) := by decide +kernel
theorem dX3_firstStretch_17 : decode cX3_firstStretch 17 = .ok (.iload_n 2, 1) := by decide +kernel
theorem dX3_firstStretch_18 : decode cX3_firstStretch 18 = .ok (.if_icmp .gt 24, 3) := by decide +kernel
theorem dX3_firstStretch_21 : decode cX3_firstStretch 21 = .ok (.lload_n 0, 1) := by decide +kernel
theorem dX3_firstStretch_22 : decode cX3_firstStretch 22 = .ok (.iload 4, 2) := by decide +kernel
theorem dX3_firstStretch_24 : decode cX3_firstStretch 24 = .ok (.iload 5, 2) := by decide +kernel
theorem dX3_firstStretch_26 : decode cX3_firstStretch 26 = .ok (.invokestatic 25, 3) := by decide +kernel
theorem dX3_firstStretch_29 : decode cX3_firstStretch 29 = .ok (.iload_n 3, 1) := by decide +kernel
theorem dX3_firstStretch_30 : decode cX3_firstStretch 30 = .ok (.if_icmp .ne 6, 3) := by decide +kernel
theorem dX3_firstStretch_33 : decode cX3_firstStretch 33 = .ok (.iload 4, 2) := by decide +kernel
theorem dX3_firstStretch_35 : decode cX3_firstStretch 35 = .ok (.ireturn, 1) := by decide +kernel
theorem dX3_firstStretch_36 : decode cX3_firstStretch 36 = .ok (.iinc 5 1, 3) := by decide +kernel
theorem dX3_firstStretch_39 : decode cX3_firstStretch 39 = .ok (.goto (-24), 3) := by decide +kernel
theorem dX3_firstStretch_42 : decode cX3_firstStretch 42 = .ok (.iinc 4 1, 3) := by decide +kernel
theorem dX3_firstStretch_45 : decode cX3_firstStretch 45 = .ok (.goto (-42), 3) := by decide +kernel
theorem dX3_firstStretch_48 : decode cX3_firstStretch 48 = .ok (.bipush (-6), 2) := by decide +kernel
theorem dX3_firstStretch_50 : decode cX3_firstStretch 50 = .ok (.ireturn, 1) := by decide +kernel
set_option maxRecDepth 20000 in
theorem ggX3_shortestStretch_X3_sum : GoodIn wsX3_shortestStretch wsX3_sum := goodIn_r _ [4, 5, 6, 3, 7, 8] (by decide +kernel) (by decide +kernel)
set_option maxRecDepth 20000 in
theorem gX3_shortestStretch_X3_sum : GoodIn wsX3_shortestStretch (va_wsS RX3 25 yX3_sum wsX3_sum) := goodIn_app (goodIn_of _ (by decide +kernel)) ggX3_shortestStretch_X3_sum
theorem dX3_shortestStretch_0 : decode cX3_shortestStretch 0 = .ok (.iconst 1, 1) := by decide +kernel
theorem dX3_shortestStretch_1 : decode cX3_shortestStretch 1 = .ok (.istore 4, 2) := by decide +kernel
theorem dX3_shortestStretch_3 : decode cX3_shortestStretch 3 = .ok (.iload 4, 2) := by decide +kernel
theorem dX3_shortestStretch_5 : decode cX3_shortestStretch 5 = .ok (.iload_n 2, 1) := by decide +kernel
theorem dX3_shortestStretch_6 : decode cX3_shortestStretch 6 = .ok (.if_icmp .gt 45, 3) := by decide +kernel
theorem dX3_shortestStretch_9 : decode cX3_shortestStretch 9 = .ok (.iconst 0, 1) := by decide +kernel
theorem dX3_shortestStretch_10 : decode cX3_shortestStretch 10 = .ok (.istore 5, 2) := by decide +kernel
theorem dX3_shortestStretch_12 : decode cX3_shortestStretch 12 = .ok (.iload 5, 2) := by decide +kernel
theorem dX3_shortestStretch_14 : decode cX3_shortestStretch 14 = .ok (.iload 4, 2) := by decide +kernel
theorem dX3_shortestStretch_16 : decode cX3_shortestStretch 16 = .ok (.iadd, 1) := by decide +kernel
theorem dX3_shortestStretch_17 : decode cX3_shortestStretch 17 = .ok (.iload_n 2, 1) := by decide +kernel
theorem dX3_shortestStretch_18 : decode cX3_shortestStretch 18 = .ok (.if_icmp .gt 27, 3) := by decide +kernel
theorem dX3_shortestStretch_21 : decode cX3_shortestStretch 21 = .ok (.lload_n 0, 1) := by decide +kernel
theorem dX3_shortestStretch_22 : decode cX3_shortestStretch 22 = .ok (.iload 5, 2) := by decide +kernel
theorem dX3_shortestStretch_24 : decode cX3_shortestStretch 24 = .ok (.iload 5, 2) := by decide +kernel
theorem dX3_shortestStretch_26 : decode cX3_shortestStretch 26 = .ok (.iload 4, 2) := by decide +kernel
theorem dX3_shortestStretch_28 : decode cX3_shortestStretch 28 = .ok (.iadd, 1) := by decide +kernel
theorem dX3_shortestStretch_29 : decode cX3_shortestStretch 29 = .ok (.invokestatic 25, 3) := by decide +kernel
theorem dX3_shortestStretch_32 : decode cX3_shortestStretch 32 = .ok (.iload_n 3, 1) := by decide +kernel
theorem dX3_shortestStretch_33 : decode cX3_shortestStretch 33 = .ok (.if_icmp .ne 6, 3) := by decide +kernel
theorem dX3_shortestStretch_36 : decode cX3_shortestStretch 36 = .ok (.iload 4, 2) := by decide +kernel
theorem dX3_shortestStretch_38 : decode cX3_shortestStretch 38 = .ok (.ireturn, 1) := by decide +kernel
theorem dX3_shortestStretch_39 : decode cX3_shortestStretch 39 = .ok (.iinc 5 1, 3) := by decide +kernel
theorem dX3_shortestStretch_42 : decode cX3_shortestStretch 42 = .ok (.goto (-30), 3) := by decide +kernel
theorem dX3_shortestStretch_45 : decode cX3_shortestStretch 45 = .ok (.iinc 4 1, 3) := by decide +kernel
theorem dX3_shortestStretch_48 : decode cX3_shortestStretch 48 = .ok (.goto (-45), 3) := by decide +kernel
theorem dX3_shortestStretch_51 : decode cX3_shortestStretch 51 = .ok (.bipush (-6), 2) := by decide +kernel
theorem dX3_shortestStretch_53 : decode cX3_shortestStretch 53 = .ok (.ireturn, 1) := by decide +kernel
set_option maxRecDepth 20000 in
theorem ggX3_longestRise_X3_numberAt : GoodIn wsX3_longestRise wsX3_numberAt := goodIn_r _ [8, 9] (by decide +kernel) (by decide +kernel)
set_option maxRecDepth 20000 in
theorem gX3_longestRise_X3_numberAt : GoodIn wsX3_longestRise (va_wsS RX3 21 yX3_numberAt wsX3_numberAt) := goodIn_app (goodIn_of _ (by decide +kernel)) ggX3_longestRise_X3_numberAt
theorem dX3_longestRise_0 : decode cX3_longestRise 0 = .ok (.iconst 1, 1) := by decide +kernel
theorem dX3_longestRise_1 : decode cX3_longestRise 1 = .ok (.istore_n 3, 1) := by decide +kernel
theorem dX3_longestRise_2 : decode cX3_longestRise 2 = .ok (.iconst 1, 1) := by decide +kernel
theorem dX3_longestRise_3 : decode cX3_longestRise 3 = .ok (.istore 4, 2) := by decide +kernel
theorem dX3_longestRise_5 : decode cX3_longestRise 5 = .ok (.iconst 1, 1) := by decide +kernel
theorem dX3_longestRise_6 : decode cX3_longestRise 6 = .ok (.istore 5, 2) := by decide +kernel
theorem dX3_longestRise_8 : decode cX3_longestRise 8 = .ok (.iload 5, 2) := by decide +kernel
theorem dX3_longestRise_10 : decode cX3_longestRise 10 = .ok (.iload_n 2, 1) := by decide +kernel
theorem dX3_longestRise_11 : decode cX3_longestRise 11 = .ok (.if_icmp .ge 43, 3) := by decide +kernel
theorem dX3_longestRise_14 : decode cX3_longestRise 14 = .ok (.lload_n 0, 1) := by decide +kernel
theorem dX3_longestRise_15 : decode cX3_longestRise 15 = .ok (.iload 5, 2) := by decide +kernel
theorem dX3_longestRise_17 : decode cX3_longestRise 17 = .ok (.invokestatic 21, 3) := by decide +kernel
theorem dX3_longestRise_20 : decode cX3_longestRise 20 = .ok (.lload_n 0, 1) := by decide +kernel
theorem dX3_longestRise_21 : decode cX3_longestRise 21 = .ok (.iload 5, 2) := by decide +kernel
theorem dX3_longestRise_23 : decode cX3_longestRise 23 = .ok (.iconst 1, 1) := by decide +kernel
theorem dX3_longestRise_24 : decode cX3_longestRise 24 = .ok (.isub, 1) := by decide +kernel
theorem dX3_longestRise_25 : decode cX3_longestRise 25 = .ok (.invokestatic 21, 3) := by decide +kernel
theorem dX3_longestRise_28 : decode cX3_longestRise 28 = .ok (.if_icmp .le 10, 3) := by decide +kernel
theorem dX3_longestRise_31 : decode cX3_longestRise 31 = .ok (.iload 4, 2) := by decide +kernel
theorem dX3_longestRise_33 : decode cX3_longestRise 33 = .ok (.iconst 1, 1) := by decide +kernel
theorem dX3_longestRise_34 : decode cX3_longestRise 34 = .ok (.iadd, 1) := by decide +kernel
theorem dX3_longestRise_35 : decode cX3_longestRise 35 = .ok (.goto 4, 3) := by decide +kernel
theorem dX3_longestRise_38 : decode cX3_longestRise 38 = .ok (.iconst 1, 1) := by decide +kernel
theorem dX3_longestRise_39 : decode cX3_longestRise 39 = .ok (.istore 4, 2) := by decide +kernel
theorem dX3_longestRise_41 : decode cX3_longestRise 41 = .ok (.iload_n 3, 1) := by decide +kernel
theorem dX3_longestRise_42 : decode cX3_longestRise 42 = .ok (.iload 4, 2) := by decide +kernel
theorem dX3_longestRise_44 : decode cX3_longestRise 44 = .ok (.invokestatic 29, 3) := by decide +kernel
theorem dX3_longestRise_47 : decode cX3_longestRise 47 = .ok (.istore_n 3, 1) := by decide +kernel
theorem dX3_longestRise_48 : decode cX3_longestRise 48 = .ok (.iinc 5 1, 3) := by decide +kernel
theorem dX3_longestRise_51 : decode cX3_longestRise 51 = .ok (.goto (-43), 3) := by decide +kernel
theorem dX3_longestRise_54 : decode cX3_longestRise 54 = .ok (.iload_n 3, 1) := by decide +kernel
theorem dX3_longestRise_55 : decode cX3_longestRise 55 = .ok (.ireturn, 1) := by decide +kernel
set_option maxRecDepth 20000 in
theorem ggX3_lead_X3_leadByFirst : GoodIn wsX3_lead wsX3_leadByFirst := goodIn_r _ [10, 11, 12, 7, 13, 14, 15, 16, 0, 1, 2, 3, 4, 5, 6, 8, 9, 17] (by decide +kernel) (by decide +kernel)
set_option maxRecDepth 20000 in
theorem gX3_lead_X3_leadByFirst : GoodIn wsX3_lead (va_wsS RX3 34 yX3_leadByFirst wsX3_leadByFirst) := goodIn_app (goodIn_of _ (by decide +kernel)) ggX3_lead_X3_leadByFirst
set_option maxRecDepth 20000 in
theorem ggX3_lead_X3_leadByLast : GoodIn wsX3_lead wsX3_leadByLast := goodIn_r _ [17, 11, 12, 7, 13, 14, 15, 16, 0, 1, 2, 3, 4, 5, 6, 8, 9, 10] (by decide +kernel) (by decide +kernel)
set_option maxRecDepth 20000 in
theorem gX3_lead_X3_leadByLast : GoodIn wsX3_lead (va_wsS RX3 37 yX3_leadByLast wsX3_leadByLast) := goodIn_app (goodIn_of _ (by decide +kernel)) ggX3_lead_X3_leadByLast
theorem dX3_lead_0 : decode cX3_lead 0 = .ok (.iload_n 2, 1) := by decide +kernel
theorem dX3_lead_1 : decode cX3_lead 1 = .ok (.iconst 1, 1) := by decide +kernel
theorem dX3_lead_2 : decode cX3_lead 2 = .ok (.if_icmp .lt 9, 3) := by decide +kernel
theorem dX3_lead_5 : decode cX3_lead 5 = .ok (.iload_n 2, 1) := by decide +kernel
theorem dX3_lead_6 : decode cX3_lead 6 = .ok (.bipush 7, 2) := by decide +kernel
theorem dX3_lead_8 : decode cX3_lead 8 = .ok (.if_icmp .le 5, 3) := by decide +kernel
theorem dX3_lead_11 : decode cX3_lead 11 = .ok (.iconst 0, 1) := by decide +kernel
theorem dX3_lead_12 : decode cX3_lead 12 = .ok (.ireturn, 1) := by decide +kernel
theorem dX3_lead_13 : decode cX3_lead 13 = .ok (.lload_n 0, 1) := by decide +kernel
theorem dX3_lead_14 : decode cX3_lead 14 = .ok (.iload_n 2, 1) := by decide +kernel
theorem dX3_lead_15 : decode cX3_lead 15 = .ok (.invokestatic 34, 3) := by decide +kernel
theorem dX3_lead_18 : decode cX3_lead 18 = .ok (.lload_n 0, 1) := by decide +kernel
theorem dX3_lead_19 : decode cX3_lead 19 = .ok (.iload_n 2, 1) := by decide +kernel
theorem dX3_lead_20 : decode cX3_lead 20 = .ok (.invokestatic 37, 3) := by decide +kernel
theorem dX3_lead_23 : decode cX3_lead 23 = .ok (.invokestatic 29, 3) := by decide +kernel
theorem dX3_lead_26 : decode cX3_lead 26 = .ok (.ireturn, 1) := by decide +kernel
set_option maxRecDepth 20000 in
theorem ggX3_leadByFirst_X3_numberAt : GoodIn wsX3_leadByFirst wsX3_numberAt := goodIn_r _ [4, 5] (by decide +kernel) (by decide +kernel)
set_option maxRecDepth 20000 in
theorem gX3_leadByFirst_X3_numberAt : GoodIn wsX3_leadByFirst (va_wsS RX3 21 yX3_numberAt wsX3_numberAt) := goodIn_app (goodIn_of _ (by decide +kernel)) ggX3_leadByFirst_X3_numberAt
set_option maxRecDepth 20000 in
theorem ggX3_leadByFirst_X3_lead : GoodIn wsX3_leadByFirst wsX3_lead := goodIn_r _ [8, 9, 10, 11, 12, 13, 14, 3, 15, 16, 0, 1, 2, 4, 5, 6, 7, 17] (by decide +kernel) (by decide +kernel)
set_option maxRecDepth 20000 in
theorem gX3_leadByFirst_X3_lead : GoodIn wsX3_leadByFirst (va_wsS RX3 40 yX3_lead wsX3_lead) := goodIn_app (goodIn_of _ (by decide +kernel)) ggX3_leadByFirst_X3_lead
theorem dX3_leadByFirst_0 : decode cX3_leadByFirst 0 = .ok (.lload_n 0, 1) := by decide +kernel
theorem dX3_leadByFirst_1 : decode cX3_leadByFirst 1 = .ok (.iconst 0, 1) := by decide +kernel
theorem dX3_leadByFirst_2 : decode cX3_leadByFirst 2 = .ok (.invokestatic 21, 3) := by decide +kernel
theorem dX3_leadByFirst_5 : decode cX3_leadByFirst 5 = .ok (.lload_n 0, 1) := by decide +kernel
theorem dX3_leadByFirst_6 : decode cX3_leadByFirst 6 = .ok (.bipush 8, 2) := by decide +kernel
theorem dX3_leadByFirst_8 : decode cX3_leadByFirst 8 = .ok (.lshr, 1) := by decide +kernel
theorem dX3_leadByFirst_9 : decode cX3_leadByFirst 9 = .ok (.iload_n 2, 1) := by decide +kernel
theorem dX3_leadByFirst_10 : decode cX3_leadByFirst 10 = .ok (.iconst 1, 1) := by decide +kernel
theorem dX3_leadByFirst_11 : decode cX3_leadByFirst 11 = .ok (.isub, 1) := by decide +kernel
theorem dX3_leadByFirst_12 : decode cX3_leadByFirst 12 = .ok (.invokestatic 40, 3) := by decide +kernel
theorem dX3_leadByFirst_15 : decode cX3_leadByFirst 15 = .ok (.isub, 1) := by decide +kernel
theorem dX3_leadByFirst_16 : decode cX3_leadByFirst 16 = .ok (.ireturn, 1) := by decide +kernel
set_option maxRecDepth 20000 in
theorem ggX3_leadByLast_X3_numberAt : GoodIn wsX3_leadByLast wsX3_numberAt := goodIn_r _ [4, 5] (by decide +kernel) (by decide +kernel)
set_option maxRecDepth 20000 in
theorem gX3_leadByLast_X3_numberAt : GoodIn wsX3_leadByLast (va_wsS RX3 21 yX3_numberAt wsX3_numberAt) := goodIn_app (goodIn_of _ (by decide +kernel)) ggX3_leadByLast_X3_numberAt
set_option maxRecDepth 20000 in
theorem ggX3_leadByLast_X3_lead : GoodIn wsX3_leadByLast wsX3_lead := goodIn_r _ [8, 9, 10, 11, 12, 13, 14, 3, 15, 16, 17, 1, 2, 4, 5, 6, 7, 0] (by decide +kernel) (by decide +kernel)
set_option maxRecDepth 20000 in
theorem gX3_leadByLast_X3_lead : GoodIn wsX3_leadByLast (va_wsS RX3 40 yX3_lead wsX3_lead) := goodIn_app (goodIn_of _ (by decide +kernel)) ggX3_leadByLast_X3_lead
theorem dX3_leadByLast_0 : decode cX3_leadByLast 0 = .ok (.lload_n 0, 1) := by decide +kernel
theorem dX3_leadByLast_1 : decode cX3_leadByLast 1 = .ok (.iload_n 2, 1) := by decide +kernel
theorem dX3_leadByLast_2 : decode cX3_leadByLast 2 = .ok (.iconst 1, 1) := by decide +kernel
theorem dX3_leadByLast_3 : decode cX3_leadByLast 3 = .ok (.isub, 1) := by decide +kernel
theorem dX3_leadByLast_4 : decode cX3_leadByLast 4 = .ok (.invokestatic 21, 3) := by decide +kernel
theorem dX3_leadByLast_7 : decode cX3_leadByLast 7 = .ok (.lload_n 0, 1) := by decide +kernel
theorem dX3_leadByLast_8 : decode cX3_leadByLast 8 = .ok (.iload_n 2, 1) := by decide +kernel
theorem dX3_leadByLast_9 : decode cX3_leadByLast 9 = .ok (.iconst 1, 1) := by decide +kernel
theorem dX3_leadByLast_10 : decode cX3_leadByLast 10 = .ok (.isub, 1) := by decide +kernel
theorem dX3_leadByLast_11 : decode cX3_leadByLast 11 = .ok (.invokestatic 40, 3) := by decide +kernel
theorem dX3_leadByLast_14 : decode cX3_leadByLast 14 = .ok (.isub, 1) := by decide +kernel
theorem dX3_leadByLast_15 : decode cX3_leadByLast 15 = .ok (.ireturn, 1) := by decide +kernel
theorem dX4_init_0 : decode cX4_init 0 = .ok (.aload_n 0, 1) := by decide +kernel
theorem dX4_init_1 : decode cX4_init 1 = .ok (.invokespecial 3, 3) := by decide +kernel
theorem dX4_init_4 : decode cX4_init 4 = .ok (.aload_n 0, 1) := by decide +kernel
theorem dX4_init_5 : decode cX4_init 5 = .ok (.bipush 60, 2) := by decide +kernel
theorem dX4_init_7 : decode cX4_init 7 = .ok (.newarray .int, 2) := by decide +kernel
theorem dX4_init_9 : decode cX4_init 9 = .ok (.putfield 11, 3) := by decide +kernel
theorem dX4_init_12 : decode cX4_init 12 = .ok (.aload_n 0, 1) := by decide +kernel
theorem dX4_init_13 : decode cX4_init 13 = .ok (.iconst 0, 1) := by decide +kernel
theorem dX4_init_14 : decode cX4_init 14 = .ok (.putfield 15, 3) := by decide +kernel
theorem dX4_init_17 : decode cX4_init 17 = .ok (.aload_n 0, 1) := by decide +kernel
theorem dX4_init_18 : decode cX4_init 18 = .ok (.iconst 0, 1) := by decide +kernel
theorem dX4_init_19 : decode cX4_init 19 = .ok (.putfield 19, 3) := by decide +kernel
theorem dX4_init_22 : decode cX4_init 22 = .ok (.aload_n 0, 1) := by decide +kernel
theorem dX4_init_23 : decode cX4_init 23 = .ok (.iconst 0, 1) := by decide +kernel
theorem dX4_init_24 : decode cX4_init 24 = .ok (.putfield 22, 3) := by decide +kernel
theorem dX4_init_27 : decode cX4_init 27 = .ok (.return_, 1) := by decide +kernel
theorem dX4_add_0 : decode cX4_add 0 = .ok (.aload_n 0, 1) := by decide +kernel
theorem dX4_add_1 : decode cX4_add 1 = .ok (.getfield 15, 3) := by decide +kernel
theorem dX4_add_4 : decode cX4_add 4 = .ok (.ifCond .lt 15, 3) := by decide +kernel
theorem dX4_add_7 : decode cX4_add 7 = .ok (.aload_n 0, 1) := by decide +kernel
theorem dX4_add_8 : decode cX4_add 8 = .ok (.getfield 15, 3) := by decide +kernel
theorem dX4_add_11 : decode cX4_add 11 = .ok (.aload_n 0, 1) := by decide +kernel
theorem dX4_add_12 : decode cX4_add 12 = .ok (.getfield 11, 3) := by decide +kernel
theorem dX4_add_15 : decode cX4_add 15 = .ok (.arraylength, 1) := by decide +kernel
theorem dX4_add_16 : decode cX4_add 16 = .ok (.if_icmp .lt 5, 3) := by decide +kernel
theorem dX4_add_19 : decode cX4_add 19 = .ok (.iconst 0, 1) := by decide +kernel
theorem dX4_add_20 : decode cX4_add 20 = .ok (.ireturn, 1) := by decide +kernel
theorem dX4_add_21 : decode cX4_add 21 = .ok (.aload_n 0, 1) := by decide +kernel
theorem dX4_add_22 : decode cX4_add 22 = .ok (.getfield 11, 3) := by decide +kernel
theorem dX4_add_25 : decode cX4_add 25 = .ok (.aload_n 0, 1) := by decide +kernel
theorem dX4_add_26 : decode cX4_add 26 = .ok (.getfield 15, 3) := by decide +kernel
theorem dX4_add_29 : decode cX4_add 29 = .ok (.iload_n 1, 1) := by decide +kernel
theorem dX4_add_30 : decode cX4_add 30 = .ok (.iastore, 1) := by decide +kernel
theorem dX4_add_31 : decode cX4_add 31 = .ok (.aload_n 0, 1) := by decide +kernel
theorem dX4_add_32 : decode cX4_add 32 = .ok (.dup, 1) := by decide +kernel
theorem dX4_add_33 : decode cX4_add 33 = .ok (.getfield 15, 3) := by decide +kernel
theorem dX4_add_36 : decode cX4_add 36 = .ok (.iconst 1, 1) := by decide +kernel
theorem dX4_add_37 : decode cX4_add 37 = .ok (.iadd, 1) := by decide +kernel
theorem dX4_add_38 : decode cX4_add 38 = .ok (.putfield 15, 3) := by decide +kernel
theorem dX4_add_41 : decode cX4_add 41 = .ok (.iconst 1, 1) := by decide +kernel
theorem dX4_add_42 : decode cX4_add 42 = .ok (.ireturn, 1) := by decide +kernel
theorem dX4_signAt_0 : decode cX4_signAt 0 = .ok (.iload_n 1, 1) := by decide +kernel
theorem dX4_signAt_1 : decode cX4_signAt 1 = .ok (.ifCond .lt 29, 3) := by decide +kernel
theorem dX4_signAt_4 : decode cX4_signAt 4 = .ok (.iload_n 1, 1) := by decide +kernel
theorem dX4_signAt_5 : decode cX4_signAt 5 = .ok (.aload_n 0, 1) := by decide +kernel
theorem dX4_signAt_6 : decode cX4_signAt 6 = .ok (.getfield 15, 3) := by decide +kernel
theorem dX4_signAt_9 : decode cX4_signAt 9 = .ok (.if_icmp .ge 21, 3) := by decide +kernel
theorem dX4_signAt_12 : decode cX4_signAt 12 = .ok (.iload_n 1, 1) := by decide +kernel
theorem dX4_signAt_13 : decode cX4_signAt 13 = .ok (.aload_n 0, 1) := by decide +kernel
theorem dX4_signAt_14 : decode cX4_signAt 14 = .ok (.getfield 11, 3) := by decide +kernel
theorem dX4_signAt_17 : decode cX4_signAt 17 = .ok (.arraylength, 1) := by decide +kernel
theorem dX4_signAt_18 : decode cX4_signAt 18 = .ok (.if_icmp .ge 12, 3) := by decide +kernel
theorem dX4_signAt_21 : decode cX4_signAt 21 = .ok (.aload_n 0, 1) := by decide +kernel
theorem dX4_signAt_22 : decode cX4_signAt 22 = .ok (.getfield 11, 3) := by decide +kernel
theorem dX4_signAt_25 : decode cX4_signAt 25 = .ok (.iload_n 1, 1) := by decide +kernel
theorem dX4_signAt_26 : decode cX4_signAt 26 = .ok (.iaload, 1) := by decide +kernel
theorem dX4_signAt_27 : decode cX4_signAt 27 = .ok (.goto 4, 3) := by decide +kernel
theorem dX4_signAt_30 : decode cX4_signAt 30 = .ok (.iconst 0, 1) := by decide +kernel
theorem dX4_signAt_31 : decode cX4_signAt 31 = .ok (.ireturn, 1) := by decide +kernel
set_option maxRecDepth 20000 in
theorem ggX4_firstFault_X4_signAt : GoodIn wsX4_firstFault wsX4_signAt := goodIn_r _ [6, 1, 7, 12, 13, 14, 15] (by decide +kernel) (by decide +kernel)
set_option maxRecDepth 20000 in
theorem gX4_firstFault_X4_signAt : GoodIn wsX4_firstFault (wsV RX4 27 RX4 yX4_signAt wsX4_signAt) := goodIn_app (goodIn_of _ (by decide +kernel)) ggX4_firstFault_X4_signAt
set_option maxRecDepth 20000 in
theorem ggX4_firstFault_X7_ofSign : GoodIn wsX4_firstFault wsX7_ofSign := goodIn_r _ [11] (by decide +kernel) (by decide +kernel)
set_option maxRecDepth 20000 in
theorem gX4_firstFault_X7_ofSign : GoodIn wsX4_firstFault (va_wsS RX4 31 yX7_ofSign wsX7_ofSign) := goodIn_app (goodIn_of _ (by decide +kernel)) ggX4_firstFault_X7_ofSign
theorem dX4_firstFault_0 : decode cX4_firstFault 0 = .ok (.iconst 0, 1) := by decide +kernel
theorem dX4_firstFault_1 : decode cX4_firstFault 1 = .ok (.istore_n 1, 1) := by decide +kernel
theorem dX4_firstFault_2 : decode cX4_firstFault 2 = .ok (.iconst (-1), 1) := by decide +kernel
theorem dX4_firstFault_3 : decode cX4_firstFault 3 = .ok (.istore_n 2, 1) := by decide +kernel
theorem dX4_firstFault_4 : decode cX4_firstFault 4 = .ok (.iconst 0, 1) := by decide +kernel
theorem dX4_firstFault_5 : decode cX4_firstFault 5 = .ok (.istore_n 3, 1) := by decide +kernel
theorem dX4_firstFault_6 : decode cX4_firstFault 6 = .ok (.iload_n 3, 1) := by decide +kernel
theorem dX4_firstFault_7 : decode cX4_firstFault 7 = .ok (.aload_n 0, 1) := by decide +kernel
theorem dX4_firstFault_8 : decode cX4_firstFault 8 = .ok (.getfield 15, 3) := by decide +kernel
theorem dX4_firstFault_11 : decode cX4_firstFault 11 = .ok (.if_icmp .ge 110, 3) := by decide +kernel
theorem dX4_firstFault_14 : decode cX4_firstFault 14 = .ok (.aload_n 0, 1) := by decide +kernel
theorem dX4_firstFault_15 : decode cX4_firstFault 15 = .ok (.iload_n 3, 1) := by decide +kernel
theorem dX4_firstFault_16 : decode cX4_firstFault 16 = .ok (.invokevirtual 27, 3) := by decide +kernel
theorem dX4_firstFault_19 : decode cX4_firstFault 19 = .ok (.istore 4, 2) := by decide +kernel
theorem dX4_firstFault_21 : decode cX4_firstFault 21 = .ok (.iload_n 2, 1) := by decide +kernel
theorem dX4_firstFault_22 : decode cX4_firstFault 22 = .ok (.iconst (-1), 1) := by decide +kernel
theorem dX4_firstFault_23 : decode cX4_firstFault 23 = .ok (.if_icmp .ne 30, 3) := by decide +kernel
theorem dX4_firstFault_26 : decode cX4_firstFault 26 = .ok (.iload 4, 2) := by decide +kernel
theorem dX4_firstFault_28 : decode cX4_firstFault 28 = .ok (.invokestatic 31, 3) := by decide +kernel
theorem dX4_firstFault_31 : decode cX4_firstFault 31 = .ok (.istore_n 2, 1) := by decide +kernel
theorem dX4_firstFault_32 : decode cX4_firstFault 32 = .ok (.iload_n 2, 1) := by decide +kernel
theorem dX4_firstFault_33 : decode cX4_firstFault 33 = .ok (.iconst (-1), 1) := by decide +kernel
theorem dX4_firstFault_34 : decode cX4_firstFault 34 = .ok (.if_icmp .ne 5, 3) := by decide +kernel
theorem dX4_firstFault_37 : decode cX4_firstFault 37 = .ok (.iload_n 3, 1) := by decide +kernel
theorem dX4_firstFault_38 : decode cX4_firstFault 38 = .ok (.ireturn, 1) := by decide +kernel
theorem dX4_firstFault_39 : decode cX4_firstFault 39 = .ok (.iload_n 2, 1) := by decide +kernel
theorem dX4_firstFault_40 : decode cX4_firstFault 40 = .ok (.iconst 2, 1) := by decide +kernel
theorem dX4_firstFault_41 : decode cX4_firstFault 41 = .ok (.if_icmp .ne 7, 3) := by decide +kernel
theorem dX4_firstFault_44 : decode cX4_firstFault 44 = .ok (.iconst (-1), 1) := by decide +kernel
theorem dX4_firstFault_45 : decode cX4_firstFault 45 = .ok (.goto 4, 3) := by decide +kernel
theorem dX4_firstFault_48 : decode cX4_firstFault 48 = .ok (.iload_n 2, 1) := by decide +kernel
theorem dX4_firstFault_49 : decode cX4_firstFault 49 = .ok (.istore_n 2, 1) := by decide +kernel
theorem dX4_firstFault_50 : decode cX4_firstFault 50 = .ok (.goto 65, 3) := by decide +kernel
theorem dX4_firstFault_53 : decode cX4_firstFault 53 = .ok (.iload_n 1, 1) := by decide +kernel
theorem dX4_firstFault_54 : decode cX4_firstFault 54 = .ok (.iload 4, 2) := by decide +kernel
theorem dX4_firstFault_56 : decode cX4_firstFault 56 = .ok (.bipush 63, 2) := by decide +kernel
theorem dX4_firstFault_58 : decode cX4_firstFault 58 = .ok (.if_icmp .ne 7, 3) := by decide +kernel
theorem dX4_firstFault_61 : decode cX4_firstFault 61 = .ok (.iconst 1, 1) := by decide +kernel
theorem dX4_firstFault_62 : decode cX4_firstFault 62 = .ok (.goto 4, 3) := by decide +kernel
theorem dX4_firstFault_65 : decode cX4_firstFault 65 = .ok (.iconst 0, 1) := by decide +kernel
theorem dX4_firstFault_66 : decode cX4_firstFault 66 = .ok (.iadd, 1) := by decide +kernel
theorem dX4_firstFault_67 : decode cX4_firstFault 67 = .ok (.istore_n 1, 1) := by decide +kernel
theorem dX4_firstFault_68 : decode cX4_firstFault 68 = .ok (.iload 4, 2) := by decide +kernel
theorem dX4_firstFault_70 : decode cX4_firstFault 70 = .ok (.bipush 63, 2) := by decide +kernel
theorem dX4_firstFault_72 : decode cX4_firstFault 72 = .ok (.if_icmp .ne 17, 3) := by decide +kernel
theorem dX4_firstFault_75 : decode cX4_firstFault 75 = .ok (.iload_n 2, 1) := by decide +kernel
theorem dX4_firstFault_76 : decode cX4_firstFault 76 = .ok (.iconst 4, 1) := by decide +kernel
theorem dX4_firstFault_77 : decode cX4_firstFault 77 = .ok (.if_icmp .eq 12, 3) := by decide +kernel
theorem dX4_firstFault_80 : decode cX4_firstFault 80 = .ok (.iload_n 1, 1) := by decide +kernel
theorem dX4_firstFault_81 : decode cX4_firstFault 81 = .ok (.iconst 3, 1) := by decide +kernel
theorem dX4_firstFault_82 : decode cX4_firstFault 82 = .ok (.if_icmp .gt 7, 3) := by decide +kernel
theorem dX4_firstFault_85 : decode cX4_firstFault 85 = .ok (.iconst 1, 1) := by decide +kernel
theorem dX4_firstFault_86 : decode cX4_firstFault 86 = .ok (.goto 4, 3) := by decide +kernel
theorem dX4_firstFault_89 : decode cX4_firstFault 89 = .ok (.iconst 0, 1) := by decide +kernel
theorem dX4_firstFault_90 : decode cX4_firstFault 90 = .ok (.istore 5, 2) := by decide +kernel
theorem dX4_firstFault_92 : decode cX4_firstFault 92 = .ok (.iload 5, 2) := by decide +kernel
theorem dX4_firstFault_94 : decode cX4_firstFault 94 = .ok (.ifCond .ne 19, 3) := by decide +kernel
theorem dX4_firstFault_97 : decode cX4_firstFault 97 = .ok (.iload 4, 2) := by decide +kernel
theorem dX4_firstFault_99 : decode cX4_firstFault 99 = .ok (.bipush 48, 2) := by decide +kernel
theorem dX4_firstFault_101 : decode cX4_firstFault 101 = .ok (.if_icmp .lt 10, 3) := by decide +kernel
theorem dX4_firstFault_104 : decode cX4_firstFault 104 = .ok (.iload 4, 2) := by decide +kernel
theorem dX4_firstFault_106 : decode cX4_firstFault 106 = .ok (.bipush 57, 2) := by decide +kernel
theorem dX4_firstFault_108 : decode cX4_firstFault 108 = .ok (.if_icmp .le 5, 3) := by decide +kernel
theorem dX4_firstFault_111 : decode cX4_firstFault 111 = .ok (.iload_n 3, 1) := by decide +kernel
theorem dX4_firstFault_112 : decode cX4_firstFault 112 = .ok (.ireturn, 1) := by decide +kernel
theorem dX4_firstFault_113 : decode cX4_firstFault 113 = .ok (.iconst (-1), 1) := by decide +kernel
theorem dX4_firstFault_114 : decode cX4_firstFault 114 = .ok (.istore_n 2, 1) := by decide +kernel
theorem dX4_firstFault_115 : decode cX4_firstFault 115 = .ok (.iinc 3 1, 3) := by decide +kernel
theorem dX4_firstFault_118 : decode cX4_firstFault 118 = .ok (.goto (-112), 3) := by decide +kernel
theorem dX4_firstFault_121 : decode cX4_firstFault 121 = .ok (.iload_n 2, 1) := by decide +kernel
theorem dX4_firstFault_122 : decode cX4_firstFault 122 = .ok (.iconst (-1), 1) := by decide +kernel
theorem dX4_firstFault_123 : decode cX4_firstFault 123 = .ok (.if_icmp .ne 8, 3) := by decide +kernel
theorem dX4_firstFault_126 : decode cX4_firstFault 126 = .ok (.bipush (-6), 2) := by decide +kernel
theorem dX4_firstFault_128 : decode cX4_firstFault 128 = .ok (.goto 7, 3) := by decide +kernel
theorem dX4_firstFault_131 : decode cX4_firstFault 131 = .ok (.aload_n 0, 1) := by decide +kernel
theorem dX4_firstFault_132 : decode cX4_firstFault 132 = .ok (.getfield 15, 3) := by decide +kernel
theorem dX4_firstFault_135 : decode cX4_firstFault 135 = .ok (.ireturn, 1) := by decide +kernel
set_option maxRecDepth 20000 in
theorem ggX4_gaps_X4_signAt : GoodIn wsX4_gaps wsX4_signAt := goodIn_r _ [6, 1, 7, 8, 9, 10, 11] (by decide +kernel) (by decide +kernel)
set_option maxRecDepth 20000 in
theorem gX4_gaps_X4_signAt : GoodIn wsX4_gaps (wsV RX4 27 RX4 yX4_signAt wsX4_signAt) := goodIn_app (goodIn_of _ (by decide +kernel)) ggX4_gaps_X4_signAt
theorem dX4_gaps_0 : decode cX4_gaps 0 = .ok (.iconst 0, 1) := by decide +kernel
theorem dX4_gaps_1 : decode cX4_gaps 1 = .ok (.istore_n 1, 1) := by decide +kernel
theorem dX4_gaps_2 : decode cX4_gaps 2 = .ok (.iconst 0, 1) := by decide +kernel
theorem dX4_gaps_3 : decode cX4_gaps 3 = .ok (.istore_n 2, 1) := by decide +kernel
theorem dX4_gaps_4 : decode cX4_gaps 4 = .ok (.iload_n 2, 1) := by decide +kernel
theorem dX4_gaps_5 : decode cX4_gaps 5 = .ok (.aload_n 0, 1) := by decide +kernel
theorem dX4_gaps_6 : decode cX4_gaps 6 = .ok (.getfield 15, 3) := by decide +kernel
theorem dX4_gaps_9 : decode cX4_gaps 9 = .ok (.if_icmp .ge 27, 3) := by decide +kernel
theorem dX4_gaps_12 : decode cX4_gaps 12 = .ok (.iload_n 1, 1) := by decide +kernel
theorem dX4_gaps_13 : decode cX4_gaps 13 = .ok (.aload_n 0, 1) := by decide +kernel
theorem dX4_gaps_14 : decode cX4_gaps 14 = .ok (.iload_n 2, 1) := by decide +kernel
theorem dX4_gaps_15 : decode cX4_gaps 15 = .ok (.invokevirtual 27, 3) := by decide +kernel
theorem dX4_gaps_18 : decode cX4_gaps 18 = .ok (.bipush 63, 2) := by decide +kernel
theorem dX4_gaps_20 : decode cX4_gaps 20 = .ok (.if_icmp .ne 7, 3) := by decide +kernel
theorem dX4_gaps_23 : decode cX4_gaps 23 = .ok (.iconst 1, 1) := by decide +kernel
theorem dX4_gaps_24 : decode cX4_gaps 24 = .ok (.goto 4, 3) := by decide +kernel
theorem dX4_gaps_27 : decode cX4_gaps 27 = .ok (.iconst 0, 1) := by decide +kernel
theorem dX4_gaps_28 : decode cX4_gaps 28 = .ok (.iadd, 1) := by decide +kernel
theorem dX4_gaps_29 : decode cX4_gaps 29 = .ok (.istore_n 1, 1) := by decide +kernel
theorem dX4_gaps_30 : decode cX4_gaps 30 = .ok (.iinc 2 1, 3) := by decide +kernel
theorem dX4_gaps_33 : decode cX4_gaps 33 = .ok (.goto (-29), 3) := by decide +kernel
theorem dX4_gaps_36 : decode cX4_gaps 36 = .ok (.iload_n 1, 1) := by decide +kernel
theorem dX4_gaps_37 : decode cX4_gaps 37 = .ok (.ireturn, 1) := by decide +kernel
set_option maxRecDepth 20000 in
theorem ggX4_events_X4_signAt : GoodIn wsX4_events wsX4_signAt := goodIn_r _ [6, 1, 7, 12, 13, 14, 15] (by decide +kernel) (by decide +kernel)
set_option maxRecDepth 20000 in
theorem gX4_events_X4_signAt : GoodIn wsX4_events (wsV RX4 27 RX4 yX4_signAt wsX4_signAt) := goodIn_app (goodIn_of _ (by decide +kernel)) ggX4_events_X4_signAt
set_option maxRecDepth 20000 in
theorem ggX4_events_X7_ofSign : GoodIn wsX4_events wsX7_ofSign := goodIn_r _ [11] (by decide +kernel) (by decide +kernel)
set_option maxRecDepth 20000 in
theorem gX4_events_X7_ofSign : GoodIn wsX4_events (va_wsS RX4 31 yX7_ofSign wsX7_ofSign) := goodIn_app (goodIn_of _ (by decide +kernel)) ggX4_events_X7_ofSign
theorem dX4_events_0 : decode cX4_events 0 = .ok (.iconst 0, 1) := by decide +kernel
theorem dX4_events_1 : decode cX4_events 1 = .ok (.istore_n 1, 1) := by decide +kernel
theorem dX4_events_2 : decode cX4_events 2 = .ok (.iconst 0, 1) := by decide +kernel
theorem dX4_events_3 : decode cX4_events 3 = .ok (.istore_n 2, 1) := by decide +kernel
theorem dX4_events_4 : decode cX4_events 4 = .ok (.iload_n 2, 1) := by decide +kernel
theorem dX4_events_5 : decode cX4_events 5 = .ok (.aload_n 0, 1) := by decide +kernel
theorem dX4_events_6 : decode cX4_events 6 = .ok (.getfield 15, 3) := by decide +kernel
theorem dX4_events_9 : decode cX4_events 9 = .ok (.if_icmp .ge 29, 3) := by decide +kernel
theorem dX4_events_12 : decode cX4_events 12 = .ok (.iload_n 1, 1) := by decide +kernel
theorem dX4_events_13 : decode cX4_events 13 = .ok (.aload_n 0, 1) := by decide +kernel
theorem dX4_events_14 : decode cX4_events 14 = .ok (.iload_n 2, 1) := by decide +kernel
theorem dX4_events_15 : decode cX4_events 15 = .ok (.invokevirtual 27, 3) := by decide +kernel
theorem dX4_events_18 : decode cX4_events 18 = .ok (.invokestatic 31, 3) := by decide +kernel
theorem dX4_events_21 : decode cX4_events 21 = .ok (.iconst (-1), 1) := by decide +kernel
theorem dX4_events_22 : decode cX4_events 22 = .ok (.if_icmp .eq 7, 3) := by decide +kernel
theorem dX4_events_25 : decode cX4_events 25 = .ok (.iconst 1, 1) := by decide +kernel
theorem dX4_events_26 : decode cX4_events 26 = .ok (.goto 4, 3) := by decide +kernel
theorem dX4_events_29 : decode cX4_events 29 = .ok (.iconst 0, 1) := by decide +kernel
theorem dX4_events_30 : decode cX4_events 30 = .ok (.iadd, 1) := by decide +kernel
theorem dX4_events_31 : decode cX4_events 31 = .ok (.istore_n 1, 1) := by decide +kernel
theorem dX4_events_32 : decode cX4_events 32 = .ok (.iinc 2 1, 3) := by decide +kernel
theorem dX4_events_35 : decode cX4_events 35 = .ok (.goto (-31), 3) := by decide +kernel
theorem dX4_events_38 : decode cX4_events 38 = .ok (.iload_n 1, 1) := by decide +kernel
theorem dX4_events_39 : decode cX4_events 39 = .ok (.ireturn, 1) := by decide +kernel
set_option maxRecDepth 20000 in
theorem ggX4_pass_X4_gaps : GoodIn wsX4_pass wsX4_gaps := goodIn_r _ [8, 3, 9, 10, 11, 7, 12, 13, 51, 52, 53, 54] (by decide +kernel) (by decide +kernel)
set_option maxRecDepth 20000 in
theorem gX4_pass_X4_gaps : GoodIn wsX4_pass (wsV RX4 34 RX4 yX4_gaps wsX4_gaps) := goodIn_app (goodIn_of _ (by decide +kernel)) ggX4_pass_X4_gaps
set_option maxRecDepth 20000 in
theorem ggX4_pass_X4_signAt : GoodIn wsX4_pass wsX4_signAt := goodIn_r _ [12, 3, 13, 51, 52, 53, 54] (by decide +kernel) (by decide +kernel)
set_option maxRecDepth 20000 in
theorem gX4_pass_X4_signAt : GoodIn wsX4_pass (wsV RX4 27 RX4 yX4_signAt wsX4_signAt) := goodIn_app (goodIn_of _ (by decide +kernel)) ggX4_pass_X4_signAt
set_option maxRecDepth 20000 in
theorem ggX4_pass_X7_ofSign : GoodIn wsX4_pass wsX7_ofSign := goodIn_r _ [17] (by decide +kernel) (by decide +kernel)
set_option maxRecDepth 20000 in
theorem gX4_pass_X7_ofSign : GoodIn wsX4_pass (va_wsS RX4 31 yX7_ofSign wsX7_ofSign) := goodIn_app (goodIn_of _ (by decide +kernel)) ggX4_pass_X7_ofSign
set_option maxRecDepth 20000 in
theorem ggX4_pass_X0_digit : GoodIn wsX4_pass wsX0_digit := goodIn_r _ [21] (by decide +kernel) (by decide +kernel)
set_option maxRecDepth 20000 in
theorem gX4_pass_X0_digit : GoodIn wsX4_pass (va_wsS RX4 38 yX0_digit wsX0_digit) := goodIn_app (goodIn_of _ (by decide +kernel)) ggX4_pass_X0_digit
set_option maxRecDepth 20000 in
theorem ggX4_pass_X4_couldBe : GoodIn wsX4_pass wsX4_couldBe := goodIn_r _ [25, 2, 1, 26, 27, 16, 28, 29, 30, 31, 32, 33, 34, 35, 36, 37, 38, 39, 40, 41, 42, 43, 44, 45, 46, 47, 48, 49, 50, 51, 52, 53, 54] (by decide +kernel) (by decide +kernel)
set_option maxRecDepth 20000 in
theorem gX4_pass_X4_couldBe : GoodIn wsX4_pass (wsV RX4 44 RX4 yX4_couldBe wsX4_couldBe) := goodIn_app (goodIn_of _ (by decide +kernel)) ggX4_pass_X4_couldBe
theorem dX4_pass_0 : decode cX4_pass 0 = .ok (.aload_n 0, 1) := by decide +kernel
theorem dX4_pass_1 : decode cX4_pass 1 = .ok (.iload_n 1, 1) := by decide +kernel
theorem dX4_pass_2 : decode cX4_pass 2 = .ok (.putfield 19, 3) := by decide +kernel
theorem dX4_pass_5 : decode cX4_pass 5 = .ok (.aload_n 0, 1) := by decide +kernel
theorem dX4_pass_6 : decode cX4_pass 6 = .ok (.iload_n 2, 1) := by decide +kernel
theorem dX4_pass_7 : decode cX4_pass 7 = .ok (.putfield 22, 3) := by decide +kernel
theorem dX4_pass_10 : decode cX4_pass 10 = .ok (.aload_n 0, 1) := by decide +kernel
theorem dX4_pass_11 : decode cX4_pass 11 = .ok (.invokevirtual 34, 3) := by decide +kernel
theorem dX4_pass_14 : decode cX4_pass 14 = .ok (.istore 4, 2) := by decide +kernel
theorem dX4_pass_16 : decode cX4_pass 16 = .ok (.iconst 0, 1) := by decide +kernel
theorem dX4_pass_17 : decode cX4_pass 17 = .ok (.istore 5, 2) := by decide +kernel
theorem dX4_pass_19 : decode cX4_pass 19 = .ok (.iconst 0, 1) := by decide +kernel
theorem dX4_pass_20 : decode cX4_pass 20 = .ok (.istore 6, 2) := by decide +kernel
theorem dX4_pass_22 : decode cX4_pass 22 = .ok (.iload 6, 2) := by decide +kernel
theorem dX4_pass_24 : decode cX4_pass 24 = .ok (.aload_n 0, 1) := by decide +kernel
theorem dX4_pass_25 : decode cX4_pass 25 = .ok (.getfield 15, 3) := by decide +kernel
theorem dX4_pass_28 : decode cX4_pass 28 = .ok (.if_icmp .ge 83, 3) := by decide +kernel
theorem dX4_pass_31 : decode cX4_pass 31 = .ok (.aload_n 0, 1) := by decide +kernel
theorem dX4_pass_32 : decode cX4_pass 32 = .ok (.iload 6, 2) := by decide +kernel
theorem dX4_pass_34 : decode cX4_pass 34 = .ok (.invokevirtual 27, 3) := by decide +kernel
theorem dX4_pass_37 : decode cX4_pass 37 = .ok (.invokestatic 31, 3) := by decide +kernel
theorem dX4_pass_40 : decode cX4_pass 40 = .ok (.istore 7, 2) := by decide +kernel
theorem dX4_pass_42 : decode cX4_pass 42 = .ok (.iconst 0, 1) := by decide +kernel
theorem dX4_pass_43 : decode cX4_pass 43 = .ok (.istore 8, 2) := by decide +kernel
theorem dX4_pass_45 : decode cX4_pass 45 = .ok (.iload 7, 2) := by decide +kernel
theorem dX4_pass_47 : decode cX4_pass 47 = .ok (.iconst 2, 1) := by decide +kernel
theorem dX4_pass_48 : decode cX4_pass 48 = .ok (.if_icmp .eq 40, 3) := by decide +kernel
theorem dX4_pass_51 : decode cX4_pass 51 = .ok (.iinc 6 1, 3) := by decide +kernel
theorem dX4_pass_54 : decode cX4_pass 54 = .ok (.aload_n 0, 1) := by decide +kernel
theorem dX4_pass_55 : decode cX4_pass 55 = .ok (.iload 6, 2) := by decide +kernel
theorem dX4_pass_57 : decode cX4_pass 57 = .ok (.invokevirtual 27, 3) := by decide +kernel
theorem dX4_pass_60 : decode cX4_pass 60 = .ok (.bipush 48, 2) := by decide +kernel
theorem dX4_pass_62 : decode cX4_pass 62 = .ok (.isub, 1) := by decide +kernel
theorem dX4_pass_63 : decode cX4_pass 63 = .ok (.istore 8, 2) := by decide +kernel
theorem dX4_pass_65 : decode cX4_pass 65 = .ok (.aload_n 0, 1) := by decide +kernel
theorem dX4_pass_66 : decode cX4_pass 66 = .ok (.iload 6, 2) := by decide +kernel
theorem dX4_pass_68 : decode cX4_pass 68 = .ok (.invokevirtual 27, 3) := by decide +kernel
theorem dX4_pass_71 : decode cX4_pass 71 = .ok (.bipush 63, 2) := by decide +kernel
theorem dX4_pass_73 : decode cX4_pass 73 = .ok (.if_icmp .ne 15, 3) := by decide +kernel
theorem dX4_pass_76 : decode cX4_pass 76 = .ok (.iinc 4 (-1), 3) := by decide +kernel
theorem dX4_pass_79 : decode cX4_pass 79 = .ok (.iload_n 3, 1) := by decide +kernel
theorem dX4_pass_80 : decode cX4_pass 80 = .ok (.iload_n 2, 1) := by decide +kernel
theorem dX4_pass_81 : decode cX4_pass 81 = .ok (.iload 4, 2) := by decide +kernel
theorem dX4_pass_83 : decode cX4_pass 83 = .ok (.invokestatic 38, 3) := by decide +kernel
theorem dX4_pass_86 : decode cX4_pass 86 = .ok (.istore 8, 2) := by decide +kernel
theorem dX4_pass_88 : decode cX4_pass 88 = .ok (.aload_n 0, 1) := by decide +kernel
theorem dX4_pass_89 : decode cX4_pass 89 = .ok (.iload 7, 2) := by decide +kernel
theorem dX4_pass_91 : decode cX4_pass 91 = .ok (.iload 8, 2) := by decide +kernel
theorem dX4_pass_93 : decode cX4_pass 93 = .ok (.invokevirtual 44, 3) := by decide +kernel
theorem dX4_pass_96 : decode cX4_pass 96 = .ok (.ifCond .ne 6, 3) := by decide +kernel
theorem dX4_pass_99 : decode cX4_pass 99 = .ok (.iload 5, 2) := by decide +kernel
theorem dX4_pass_101 : decode cX4_pass 101 = .ok (.ireturn, 1) := by decide +kernel
theorem dX4_pass_102 : decode cX4_pass 102 = .ok (.iinc 5 1, 3) := by decide +kernel
theorem dX4_pass_105 : decode cX4_pass 105 = .ok (.iinc 6 1, 3) := by decide +kernel
theorem dX4_pass_108 : decode cX4_pass 108 = .ok (.goto (-86), 3) := by decide +kernel
theorem dX4_pass_111 : decode cX4_pass 111 = .ok (.bipush (-6), 2) := by decide +kernel
theorem dX4_pass_113 : decode cX4_pass 113 = .ok (.ireturn, 1) := by decide +kernel
set_option maxRecDepth 20000 in
theorem ggX4_couldBe_X7_places : GoodIn wsX4_couldBe wsX7_places := goodIn_r _ [6] (by decide +kernel) (by decide +kernel)
set_option maxRecDepth 20000 in
theorem gX4_couldBe_X7_places : GoodIn wsX4_couldBe (va_wsS RX4 48 yX7_places wsX7_places) := goodIn_app (goodIn_of _ (by decide +kernel)) ggX4_couldBe_X7_places
set_option maxRecDepth 20000 in
theorem ggX4_couldBe_X6_behindEvent : GoodIn wsX4_couldBe wsX6_behindEvent := goodIn_r _ [10, 11, 12, 9, 13, 14, 15, 16, 17, 18, 19, 20, 21, 22, 23, 24, 25, 26, 27, 28] (by decide +kernel) (by decide +kernel)
set_option maxRecDepth 20000 in
theorem gX4_couldBe_X6_behindEvent : GoodIn wsX4_couldBe (va_wsS RX4 52 yX6_behindEvent wsX6_behindEvent) := goodIn_app (goodIn_of _ (by decide +kernel)) ggX4_couldBe_X6_behindEvent
theorem dX4_couldBe_0 : decode cX4_couldBe 0 = .ok (.iload_n 2, 1) := by decide +kernel
theorem dX4_couldBe_1 : decode cX4_couldBe 1 = .ok (.ifCond .lt 15, 3) := by decide +kernel
theorem dX4_couldBe_4 : decode cX4_couldBe 4 = .ok (.iload_n 2, 1) := by decide +kernel
theorem dX4_couldBe_5 : decode cX4_couldBe 5 = .ok (.iload_n 1, 1) := by decide +kernel
theorem dX4_couldBe_6 : decode cX4_couldBe 6 = .ok (.aload_n 0, 1) := by decide +kernel
theorem dX4_couldBe_7 : decode cX4_couldBe 7 = .ok (.getfield 22, 3) := by decide +kernel
theorem dX4_couldBe_10 : decode cX4_couldBe 10 = .ok (.invokestatic 48, 3) := by decide +kernel
theorem dX4_couldBe_13 : decode cX4_couldBe 13 = .ok (.if_icmp .lt 5, 3) := by decide +kernel
theorem dX4_couldBe_16 : decode cX4_couldBe 16 = .ok (.iconst 0, 1) := by decide +kernel
theorem dX4_couldBe_17 : decode cX4_couldBe 17 = .ok (.ireturn, 1) := by decide +kernel
theorem dX4_couldBe_18 : decode cX4_couldBe 18 = .ok (.aload_n 0, 1) := by decide +kernel
theorem dX4_couldBe_19 : decode cX4_couldBe 19 = .ok (.aload_n 0, 1) := by decide +kernel
theorem dX4_couldBe_20 : decode cX4_couldBe 20 = .ok (.getfield 19, 3) := by decide +kernel
theorem dX4_couldBe_23 : decode cX4_couldBe 23 = .ok (.aload_n 0, 1) := by decide +kernel
theorem dX4_couldBe_24 : decode cX4_couldBe 24 = .ok (.getfield 22, 3) := by decide +kernel
theorem dX4_couldBe_27 : decode cX4_couldBe 27 = .ok (.iload_n 1, 1) := by decide +kernel
theorem dX4_couldBe_28 : decode cX4_couldBe 28 = .ok (.iload_n 2, 1) := by decide +kernel
theorem dX4_couldBe_29 : decode cX4_couldBe 29 = .ok (.invokestatic 52, 3) := by decide +kernel
theorem dX4_couldBe_32 : decode cX4_couldBe 32 = .ok (.putfield 19, 3) := by decide +kernel
theorem dX4_couldBe_35 : decode cX4_couldBe 35 = .ok (.aload_n 0, 1) := by decide +kernel
theorem dX4_couldBe_36 : decode cX4_couldBe 36 = .ok (.dup, 1) := by decide +kernel
theorem dX4_couldBe_37 : decode cX4_couldBe 37 = .ok (.getfield 22, 3) := by decide +kernel
theorem dX4_couldBe_40 : decode cX4_couldBe 40 = .ok (.iload_n 1, 1) := by decide +kernel
theorem dX4_couldBe_41 : decode cX4_couldBe 41 = .ok (.iconst 4, 1) := by decide +kernel
theorem dX4_couldBe_42 : decode cX4_couldBe 42 = .ok (.if_icmp .ne 7, 3) := by decide +kernel
theorem dX4_couldBe_45 : decode cX4_couldBe 45 = .ok (.iconst 1, 1) := by decide +kernel
theorem dX4_couldBe_46 : decode cX4_couldBe 46 = .ok (.goto 4, 3) := by decide +kernel
theorem dX4_couldBe_49 : decode cX4_couldBe 49 = .ok (.iconst 0, 1) := by decide +kernel
theorem dX4_couldBe_50 : decode cX4_couldBe 50 = .ok (.isub, 1) := by decide +kernel
theorem dX4_couldBe_51 : decode cX4_couldBe 51 = .ok (.putfield 22, 3) := by decide +kernel
theorem dX4_couldBe_54 : decode cX4_couldBe 54 = .ok (.iconst 1, 1) := by decide +kernel
theorem dX4_couldBe_55 : decode cX4_couldBe 55 = .ok (.ireturn, 1) := by decide +kernel
