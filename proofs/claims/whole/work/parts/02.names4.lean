theorem dX8_as_54 : decode cX8_as 54 = .ok (.aload_n 0, 1) := by decide +kernel
theorem dX8_as_55 : decode cX8_as 55 = .ok (.iconst 1, 1) := by decide +kernel
theorem dX8_as_56 : decode cX8_as 56 = .ok (.invokevirtual 64, 3) := by decide +kernel
theorem dX8_as_59 : decode cX8_as 59 = .ok (.ireturn, 1) := by decide +kernel
theorem dX8_trace_0 : decode cX8_trace 0 = .ok (.aload_n 0, 1) := by decide +kernel
theorem dX8_trace_1 : decode cX8_trace 1 = .ok (.getfield 52, 3) := by decide +kernel
theorem dX8_trace_4 : decode cX8_trace 4 = .ok (.ireturn, 1) := by decide +kernel
theorem dX8_fault_0 : decode cX8_fault 0 = .ok (.aload_n 0, 1) := by decide +kernel
theorem dX8_fault_1 : decode cX8_fault 1 = .ok (.getfield 56, 3) := by decide +kernel
theorem dX8_fault_4 : decode cX8_fault 4 = .ok (.ireturn, 1) := by decide +kernel
set_option maxRecDepth 20000 in
theorem ggX8_many_J13_bitCount_95d88 : GoodIn wsX8_many wsJ13_bitCount_95d88 := goodIn_r _ [10, 11, 12, 13] (by decide +kernel) (by decide +kernel)
set_option maxRecDepth 20000 in
theorem gX8_many_J13_bitCount_95d88 : GoodIn wsX8_many (va_wsS RX8 253 yJ13_bitCount_95d88 wsJ13_bitCount_95d88) := goodIn_app (goodIn_of _ (by decide +kernel)) ggX8_many_J13_bitCount_95d88
theorem dX8_many_0 : decode cX8_many 0 = .ok (.iload_n 1, 1) := by decide +kernel
theorem dX8_many_1 : decode cX8_many 1 = .ok (.tableswitch 66 0 3 #[31, 39, 47, 58], 31) := by decide +kernel
theorem dX8_many_32 : decode cX8_many 32 = .ok (.aload_n 0, 1) := by decide +kernel
theorem dX8_many_33 : decode cX8_many 33 = .ok (.getfield 12, 3) := by decide +kernel
theorem dX8_many_36 : decode cX8_many 36 = .ok (.getfield 98, 3) := by decide +kernel
theorem dX8_many_39 : decode cX8_many 39 = .ok (.ireturn, 1) := by decide +kernel
theorem dX8_many_40 : decode cX8_many 40 = .ok (.aload_n 0, 1) := by decide +kernel
theorem dX8_many_41 : decode cX8_many 41 = .ok (.getfield 12, 3) := by decide +kernel
theorem dX8_many_44 : decode cX8_many 44 = .ok (.getfield 250, 3) := by decide +kernel
theorem dX8_many_47 : decode cX8_many 47 = .ok (.ireturn, 1) := by decide +kernel
theorem dX8_many_48 : decode cX8_many 48 = .ok (.aload_n 0, 1) := by decide +kernel
theorem dX8_many_49 : decode cX8_many 49 = .ok (.getfield 12, 3) := by decide +kernel
theorem dX8_many_52 : decode cX8_many 52 = .ok (.getfield 121, 3) := by decide +kernel
theorem dX8_many_55 : decode cX8_many 55 = .ok (.invokestatic 253, 3) := by decide +kernel
theorem dX8_many_58 : decode cX8_many 58 = .ok (.ireturn, 1) := by decide +kernel
theorem dX8_many_59 : decode cX8_many 59 = .ok (.aload_n 0, 1) := by decide +kernel
theorem dX8_many_60 : decode cX8_many 60 = .ok (.getfield 42, 3) := by decide +kernel
theorem dX8_many_63 : decode cX8_many 63 = .ok (.getfield 95, 3) := by decide +kernel
theorem dX8_many_66 : decode cX8_many 66 = .ok (.ireturn, 1) := by decide +kernel
theorem dX8_many_67 : decode cX8_many 67 = .ok (.bipush (-2), 2) := by decide +kernel
theorem dX8_many_69 : decode cX8_many 69 = .ok (.ireturn, 1) := by decide +kernel
set_option maxRecDepth 20000 in
theorem ggX8_personTells_X8_leave : GoodIn wsX8_personTells wsX8_leave := goodIn_r _ [7, 8, 9, 10, 11, 12, 13, 14, 15, 16] (by decide +kernel) (by decide +kernel)
set_option maxRecDepth 20000 in
theorem gX8_personTells_X8_leave : GoodIn wsX8_personTells (wsV RX8 246 RX8 yX8_leave wsX8_leave) := goodIn_app (goodIn_of _ (by decide +kernel)) ggX8_personTells_X8_leave
theorem dX8_personTells_0 : decode cX8_personTells 0 = .ok (.aload_n 0, 1) := by decide +kernel
theorem dX8_personTells_1 : decode cX8_personTells 1 = .ok (.iconst 1, 1) := by decide +kernel
theorem dX8_personTells_2 : decode cX8_personTells 2 = .ok (.invokevirtual 246, 3) := by decide +kernel
theorem dX8_personTells_5 : decode cX8_personTells 5 = .ok (.aload_n 0, 1) := by decide +kernel
theorem dX8_personTells_6 : decode cX8_personTells 6 = .ok (.getfield 12, 3) := by decide +kernel
theorem dX8_personTells_9 : decode cX8_personTells 9 = .ok (.getfield 109, 3) := by decide +kernel
theorem dX8_personTells_12 : decode cX8_personTells 12 = .ok (.iload_n 1, 1) := by decide +kernel
theorem dX8_personTells_13 : decode cX8_personTells 13 = .ok (.iaload, 1) := by decide +kernel
theorem dX8_personTells_14 : decode cX8_personTells 14 = .ok (.ireturn, 1) := by decide +kernel
set_option maxRecDepth 20000 in
theorem ggX8_motherTells_X8_leave : GoodIn wsX8_motherTells wsX8_leave := goodIn_r _ [5, 6, 13, 14, 15, 16, 17, 18, 19, 20] (by decide +kernel) (by decide +kernel)
set_option maxRecDepth 20000 in
theorem gX8_motherTells_X8_leave : GoodIn wsX8_motherTells (wsV RX8 246 RX8 yX8_leave wsX8_leave) := goodIn_app (goodIn_of _ (by decide +kernel)) ggX8_motherTells_X8_leave
set_option maxRecDepth 20000 in
theorem ggX8_motherTells_X8_personTells : GoodIn wsX8_motherTells wsX8_personTells := goodIn_r _ [10, 11, 12, 1, 2, 3, 4, 5, 6, 13, 14, 15, 16, 17, 18, 19, 20, 21, 22, 23, 24, 25, 26, 27] (by decide +kernel) (by decide +kernel)
set_option maxRecDepth 20000 in
theorem gX8_motherTells_X8_personTells : GoodIn wsX8_motherTells (wsV RX8 243 RX8 yX8_personTells wsX8_personTells) := goodIn_app (goodIn_of _ (by decide +kernel)) ggX8_motherTells_X8_personTells
theorem dX8_motherTells_0 : decode cX8_motherTells 0 = .ok (.aload_n 0, 1) := by decide +kernel
theorem dX8_motherTells_1 : decode cX8_motherTells 1 = .ok (.iconst 2, 1) := by decide +kernel
theorem dX8_motherTells_2 : decode cX8_motherTells 2 = .ok (.invokevirtual 246, 3) := by decide +kernel
theorem dX8_motherTells_5 : decode cX8_motherTells 5 = .ok (.aload_n 0, 1) := by decide +kernel
theorem dX8_motherTells_6 : decode cX8_motherTells 6 = .ok (.iload_n 1, 1) := by decide +kernel
theorem dX8_motherTells_7 : decode cX8_motherTells 7 = .ok (.invokevirtual 243, 3) := by decide +kernel
theorem dX8_motherTells_10 : decode cX8_motherTells 10 = .ok (.bipush 100, 2) := by decide +kernel
theorem dX8_motherTells_12 : decode cX8_motherTells 12 = .ok (.iadd, 1) := by decide +kernel
theorem dX8_motherTells_13 : decode cX8_motherTells 13 = .ok (.ireturn, 1) := by decide +kernel
set_option maxRecDepth 20000 in
theorem ggX8_cousinTells_X8_leave : GoodIn wsX8_cousinTells wsX8_leave := goodIn_r _ [5, 6, 17, 18, 19, 20, 21, 22, 23, 24] (by decide +kernel) (by decide +kernel)
set_option maxRecDepth 20000 in
theorem gX8_cousinTells_X8_leave : GoodIn wsX8_cousinTells (wsV RX8 246 RX8 yX8_leave wsX8_leave) := goodIn_app (goodIn_of _ (by decide +kernel)) ggX8_cousinTells_X8_leave
set_option maxRecDepth 20000 in
theorem ggX8_cousinTells_X8_motherTells : GoodIn wsX8_cousinTells wsX8_motherTells := goodIn_r _ [10, 1, 2, 3, 4, 5, 6, 11, 12, 13, 14, 15, 16, 17, 18, 19, 20, 21, 22, 23, 24, 25, 26, 27, 28, 29, 30, 31] (by decide +kernel) (by decide +kernel)
set_option maxRecDepth 20000 in
theorem gX8_cousinTells_X8_motherTells : GoodIn wsX8_cousinTells (wsV RX8 240 RX8 yX8_motherTells wsX8_motherTells) := goodIn_app (goodIn_of _ (by decide +kernel)) ggX8_cousinTells_X8_motherTells
set_option maxRecDepth 20000 in
theorem ggX8_cousinTells_X8_personTells : GoodIn wsX8_cousinTells wsX8_personTells := goodIn_r _ [14, 15, 16, 1, 2, 3, 4, 5, 6, 17, 18, 19, 20, 21, 22, 23, 24, 25, 26, 27, 28, 29, 30, 31] (by decide +kernel) (by decide +kernel)
set_option maxRecDepth 20000 in
theorem gX8_cousinTells_X8_personTells : GoodIn wsX8_cousinTells (wsV RX8 243 RX8 yX8_personTells wsX8_personTells) := goodIn_app (goodIn_of _ (by decide +kernel)) ggX8_cousinTells_X8_personTells
theorem dX8_cousinTells_0 : decode cX8_cousinTells 0 = .ok (.aload_n 0, 1) := by decide +kernel
theorem dX8_cousinTells_1 : decode cX8_cousinTells 1 = .ok (.iconst 3, 1) := by decide +kernel
theorem dX8_cousinTells_2 : decode cX8_cousinTells 2 = .ok (.invokevirtual 246, 3) := by decide +kernel
theorem dX8_cousinTells_5 : decode cX8_cousinTells 5 = .ok (.aload_n 0, 1) := by decide +kernel
theorem dX8_cousinTells_6 : decode cX8_cousinTells 6 = .ok (.iload_n 1, 1) := by decide +kernel
theorem dX8_cousinTells_7 : decode cX8_cousinTells 7 = .ok (.invokevirtual 240, 3) := by decide +kernel
theorem dX8_cousinTells_10 : decode cX8_cousinTells 10 = .ok (.istore_n 2, 1) := by decide +kernel
theorem dX8_cousinTells_11 : decode cX8_cousinTells 11 = .ok (.iload_n 2, 1) := by decide +kernel
theorem dX8_cousinTells_12 : decode cX8_cousinTells 12 = .ok (.aload_n 0, 1) := by decide +kernel
theorem dX8_cousinTells_13 : decode cX8_cousinTells 13 = .ok (.iload_n 1, 1) := by decide +kernel
theorem dX8_cousinTells_14 : decode cX8_cousinTells 14 = .ok (.invokevirtual 243, 3) := by decide +kernel
theorem dX8_cousinTells_17 : decode cX8_cousinTells 17 = .ok (.iadd, 1) := by decide +kernel
theorem dX8_cousinTells_18 : decode cX8_cousinTells 18 = .ok (.ireturn, 1) := by decide +kernel
theorem dX8_leave_0 : decode cX8_leave 0 = .ok (.aload_n 0, 1) := by decide +kernel
theorem dX8_leave_1 : decode cX8_leave 1 = .ok (.bipush 31, 2) := by decide +kernel
theorem dX8_leave_3 : decode cX8_leave 3 = .ok (.aload_n 0, 1) := by decide +kernel
theorem dX8_leave_4 : decode cX8_leave 4 = .ok (.getfield 52, 3) := by decide +kernel
theorem dX8_leave_7 : decode cX8_leave 7 = .ok (.imul, 1) := by decide +kernel
theorem dX8_leave_8 : decode cX8_leave 8 = .ok (.iload_n 1, 1) := by decide +kernel
theorem dX8_leave_9 : decode cX8_leave 9 = .ok (.iadd, 1) := by decide +kernel
theorem dX8_leave_10 : decode cX8_leave 10 = .ok (.putfield 52, 3) := by decide +kernel
theorem dX8_leave_13 : decode cX8_leave 13 = .ok (.return_, 1) := by decide +kernel
theorem dX8_faultless_0 : decode cX8_faultless 0 = .ok (.aload_n 0, 1) := by decide +kernel
theorem dX8_faultless_1 : decode cX8_faultless 1 = .ok (.iconst 0, 1) := by decide +kernel
theorem dX8_faultless_2 : decode cX8_faultless 2 = .ok (.putfield 56, 3) := by decide +kernel
theorem dX8_faultless_5 : decode cX8_faultless 5 = .ok (.iload_n 1, 1) := by decide +kernel
theorem dX8_faultless_6 : decode cX8_faultless 6 = .ok (.ireturn, 1) := by decide +kernel
theorem dX8_faulted_0 : decode cX8_faulted 0 = .ok (.aload_n 0, 1) := by decide +kernel
theorem dX8_faulted_1 : decode cX8_faulted 1 = .ok (.iload_n 1, 1) := by decide +kernel
theorem dX8_faulted_2 : decode cX8_faulted 2 = .ok (.putfield 56, 3) := by decide +kernel
theorem dX8_faulted_5 : decode cX8_faulted 5 = .ok (.bipush (-10), 2) := by decide +kernel
theorem dX8_faulted_7 : decode cX8_faulted 7 = .ok (.iload_n 1, 1) := by decide +kernel
theorem dX8_faulted_8 : decode cX8_faulted 8 = .ok (.isub, 1) := by decide +kernel
theorem dX8_faulted_9 : decode cX8_faulted 9 = .ok (.ireturn, 1) := by decide +kernel
theorem dX8_lostBy_0 : decode cX8_lostBy 0 = .ok (.aload_n 0, 1) := by decide +kernel
theorem dX8_lostBy_1 : decode cX8_lostBy 1 = .ok (.iload_n 1, 1) := by decide +kernel
theorem dX8_lostBy_2 : decode cX8_lostBy 2 = .ok (.putfield 56, 3) := by decide +kernel
theorem dX8_lostBy_5 : decode cX8_lostBy 5 = .ok (.ldc2_w 149, 3) := by decide +kernel
theorem dX8_lostBy_8 : decode cX8_lostBy 8 = .ok (.lreturn, 1) := by decide +kernel
theorem dX8_isSheet_0 : decode cX8_isSheet 0 = .ok (.iload_n 0, 1) := by decide +kernel
theorem dX8_isSheet_1 : decode cX8_isSheet 1 = .ok (.ifCond .lt 12, 3) := by decide +kernel
theorem dX8_isSheet_4 : decode cX8_isSheet 4 = .ok (.iload_n 0, 1) := by decide +kernel
theorem dX8_isSheet_5 : decode cX8_isSheet 5 = .ok (.iconst 4, 1) := by decide +kernel
theorem dX8_isSheet_6 : decode cX8_isSheet 6 = .ok (.if_icmp .ge 7, 3) := by decide +kernel
theorem dX8_isSheet_9 : decode cX8_isSheet 9 = .ok (.iconst 1, 1) := by decide +kernel
theorem dX8_isSheet_10 : decode cX8_isSheet 10 = .ok (.goto 4, 3) := by decide +kernel
theorem dX8_isSheet_13 : decode cX8_isSheet 13 = .ok (.iconst 0, 1) := by decide +kernel
theorem dX8_isSheet_14 : decode cX8_isSheet 14 = .ok (.ireturn, 1) := by decide +kernel
theorem dX8_isLane_0 : decode cX8_isLane 0 = .ok (.iload_n 0, 1) := by decide +kernel
theorem dX8_isLane_1 : decode cX8_isLane 1 = .ok (.ifCond .lt 12, 3) := by decide +kernel
theorem dX8_isLane_4 : decode cX8_isLane 4 = .ok (.iload_n 0, 1) := by decide +kernel
theorem dX8_isLane_5 : decode cX8_isLane 5 = .ok (.iconst 2, 1) := by decide +kernel
theorem dX8_isLane_6 : decode cX8_isLane 6 = .ok (.if_icmp .gt 7, 3) := by decide +kernel
theorem dX8_isLane_9 : decode cX8_isLane 9 = .ok (.iconst 1, 1) := by decide +kernel
theorem dX8_isLane_10 : decode cX8_isLane 10 = .ok (.goto 4, 3) := by decide +kernel
theorem dX8_isLane_13 : decode cX8_isLane 13 = .ok (.iconst 0, 1) := by decide +kernel
theorem dX8_isLane_14 : decode cX8_isLane 14 = .ok (.ireturn, 1) := by decide +kernel
theorem dX8_isMinute_0 : decode cX8_isMinute 0 = .ok (.iload_n 0, 1) := by decide +kernel
theorem dX8_isMinute_1 : decode cX8_isMinute 1 = .ok (.ifCond .lt 13, 3) := by decide +kernel
theorem dX8_isMinute_4 : decode cX8_isMinute 4 = .ok (.iload_n 0, 1) := by decide +kernel
theorem dX8_isMinute_5 : decode cX8_isMinute 5 = .ok (.bipush 60, 2) := by decide +kernel
theorem dX8_isMinute_7 : decode cX8_isMinute 7 = .ok (.if_icmp .ge 7, 3) := by decide +kernel
theorem dX8_isMinute_10 : decode cX8_isMinute 10 = .ok (.iconst 1, 1) := by decide +kernel
theorem dX8_isMinute_11 : decode cX8_isMinute 11 = .ok (.goto 4, 3) := by decide +kernel
theorem dX8_isMinute_14 : decode cX8_isMinute 14 = .ok (.iconst 0, 1) := by decide +kernel
theorem dX8_isMinute_15 : decode cX8_isMinute 15 = .ok (.ireturn, 1) := by decide +kernel
set_option maxRecDepth 20000 in
theorem ggX8_hasMinute_X8_isMinute : GoodIn wsX8_hasMinute wsX8_isMinute := goodIn_r _ [4] (by decide +kernel) (by decide +kernel)
set_option maxRecDepth 20000 in
theorem gX8_hasMinute_X8_isMinute : GoodIn wsX8_hasMinute (va_wsS RX8 115 yX8_isMinute wsX8_isMinute) := goodIn_app (goodIn_of _ (by decide +kernel)) ggX8_hasMinute_X8_isMinute
theorem dX8_hasMinute_0 : decode cX8_hasMinute 0 = .ok (.iload_n 2, 1) := by decide +kernel
theorem dX8_hasMinute_1 : decode cX8_hasMinute 1 = .ok (.invokestatic 115, 3) := by decide +kernel
theorem dX8_hasMinute_4 : decode cX8_hasMinute 4 = .ok (.ifCond .eq 17, 3) := by decide +kernel
theorem dX8_hasMinute_7 : decode cX8_hasMinute 7 = .ok (.lload_n 0, 1) := by decide +kernel
theorem dX8_hasMinute_8 : decode cX8_hasMinute 8 = .ok (.iload_n 2, 1) := by decide +kernel
theorem dX8_hasMinute_9 : decode cX8_hasMinute 9 = .ok (.lushr, 1) := by decide +kernel
theorem dX8_hasMinute_10 : decode cX8_hasMinute 10 = .ok (.lconst 1, 1) := by decide +kernel
theorem dX8_hasMinute_11 : decode cX8_hasMinute 11 = .ok (.land, 1) := by decide +kernel
theorem dX8_hasMinute_12 : decode cX8_hasMinute 12 = .ok (.lconst 0, 1) := by decide +kernel
theorem dX8_hasMinute_13 : decode cX8_hasMinute 13 = .ok (.lcmp, 1) := by decide +kernel
theorem dX8_hasMinute_14 : decode cX8_hasMinute 14 = .ok (.ifCond .eq 7, 3) := by decide +kernel
theorem dX8_hasMinute_17 : decode cX8_hasMinute 17 = .ok (.iconst 1, 1) := by decide +kernel
theorem dX8_hasMinute_18 : decode cX8_hasMinute 18 = .ok (.goto 4, 3) := by decide +kernel
theorem dX8_hasMinute_21 : decode cX8_hasMinute 21 = .ok (.iconst 0, 1) := by decide +kernel
theorem dX8_hasMinute_22 : decode cX8_hasMinute 22 = .ok (.ireturn, 1) := by decide +kernel
theorem dX8_hasPerson_0 : decode cX8_hasPerson 0 = .ok (.iload_n 0, 1) := by decide +kernel
theorem dX8_hasPerson_1 : decode cX8_hasPerson 1 = .ok (.iload_n 1, 1) := by decide +kernel
theorem dX8_hasPerson_2 : decode cX8_hasPerson 2 = .ok (.iushr, 1) := by decide +kernel
theorem dX8_hasPerson_3 : decode cX8_hasPerson 3 = .ok (.iconst 1, 1) := by decide +kernel
theorem dX8_hasPerson_4 : decode cX8_hasPerson 4 = .ok (.iand, 1) := by decide +kernel
theorem dX8_hasPerson_5 : decode cX8_hasPerson 5 = .ok (.ifCond .eq 7, 3) := by decide +kernel
theorem dX8_hasPerson_8 : decode cX8_hasPerson 8 = .ok (.iconst 1, 1) := by decide +kernel
theorem dX8_hasPerson_9 : decode cX8_hasPerson 9 = .ok (.goto 4, 3) := by decide +kernel
theorem dX8_hasPerson_12 : decode cX8_hasPerson 12 = .ok (.iconst 0, 1) := by decide +kernel
theorem dX8_hasPerson_13 : decode cX8_hasPerson 13 = .ok (.ireturn, 1) := by decide +kernel
theorem dX8_commonDivisor_0 : decode cX8_commonDivisor 0 = .ok (.iload_n 1, 1) := by decide +kernel
theorem dX8_commonDivisor_1 : decode cX8_commonDivisor 1 = .ok (.istore_n 2, 1) := by decide +kernel
theorem dX8_commonDivisor_2 : decode cX8_commonDivisor 2 = .ok (.iload_n 2, 1) := by decide +kernel
theorem dX8_commonDivisor_3 : decode cX8_commonDivisor 3 = .ok (.iconst 1, 1) := by decide +kernel
theorem dX8_commonDivisor_4 : decode cX8_commonDivisor 4 = .ok (.if_icmp .le 23, 3) := by decide +kernel
theorem dX8_commonDivisor_7 : decode cX8_commonDivisor 7 = .ok (.iload_n 0, 1) := by decide +kernel
theorem dX8_commonDivisor_8 : decode cX8_commonDivisor 8 = .ok (.iload_n 2, 1) := by decide +kernel
theorem dX8_commonDivisor_9 : decode cX8_commonDivisor 9 = .ok (.irem, 1) := by decide +kernel
theorem dX8_commonDivisor_10 : decode cX8_commonDivisor 10 = .ok (.ifCond .ne 11, 3) := by decide +kernel
theorem dX8_commonDivisor_13 : decode cX8_commonDivisor 13 = .ok (.iload_n 1, 1) := by decide +kernel
theorem dX8_commonDivisor_14 : decode cX8_commonDivisor 14 = .ok (.iload_n 2, 1) := by decide +kernel
theorem dX8_commonDivisor_15 : decode cX8_commonDivisor 15 = .ok (.irem, 1) := by decide +kernel
theorem dX8_commonDivisor_16 : decode cX8_commonDivisor 16 = .ok (.ifCond .ne 5, 3) := by decide +kernel
theorem dX8_commonDivisor_19 : decode cX8_commonDivisor 19 = .ok (.iload_n 2, 1) := by decide +kernel
theorem dX8_commonDivisor_20 : decode cX8_commonDivisor 20 = .ok (.ireturn, 1) := by decide +kernel
theorem dX8_commonDivisor_21 : decode cX8_commonDivisor 21 = .ok (.iinc 2 (-1), 3) := by decide +kernel
theorem dX8_commonDivisor_24 : decode cX8_commonDivisor 24 = .ok (.goto (-22), 3) := by decide +kernel
theorem dX8_commonDivisor_27 : decode cX8_commonDivisor 27 = .ok (.iconst 1, 1) := by decide +kernel
theorem dX8_commonDivisor_28 : decode cX8_commonDivisor 28 = .ok (.ireturn, 1) := by decide +kernel
theorem dX9_init_0 : decode cX9_init 0 = .ok (.aload_n 0, 1) := by decide +kernel
theorem dX9_init_1 : decode cX9_init 1 = .ok (.invokespecial 1, 3) := by decide +kernel
theorem dX9_init_4 : decode cX9_init 4 = .ok (.aload_n 0, 1) := by decide +kernel
theorem dX9_init_5 : decode cX9_init 5 = .ok (.bipush 7, 2) := by decide +kernel
theorem dX9_init_7 : decode cX9_init 7 = .ok (.newarray .int, 2) := by decide +kernel
theorem dX9_init_9 : decode cX9_init 9 = .ok (.putfield 7, 3) := by decide +kernel
theorem dX9_init_12 : decode cX9_init 12 = .ok (.aload_n 0, 1) := by decide +kernel
theorem dX9_init_13 : decode cX9_init 13 = .ok (.bipush 7, 2) := by decide +kernel
theorem dX9_init_15 : decode cX9_init 15 = .ok (.newarray .int, 2) := by decide +kernel
theorem dX9_init_17 : decode cX9_init 17 = .ok (.putfield 13, 3) := by decide +kernel
theorem dX9_init_20 : decode cX9_init 20 = .ok (.aload_n 0, 1) := by decide +kernel
theorem dX9_init_21 : decode cX9_init 21 = .ok (.bipush 7, 2) := by decide +kernel
theorem dX9_init_23 : decode cX9_init 23 = .ok (.newarray .int, 2) := by decide +kernel
theorem dX9_init_25 : decode cX9_init 25 = .ok (.putfield 16, 3) := by decide +kernel
theorem dX9_init_28 : decode cX9_init 28 = .ok (.aload_n 0, 1) := by decide +kernel
theorem dX9_init_29 : decode cX9_init 29 = .ok (.bipush 7, 2) := by decide +kernel
theorem dX9_init_31 : decode cX9_init 31 = .ok (.newarray .int, 2) := by decide +kernel
theorem dX9_init_33 : decode cX9_init 33 = .ok (.putfield 19, 3) := by decide +kernel
theorem dX9_init_36 : decode cX9_init 36 = .ok (.aload_n 0, 1) := by decide +kernel
theorem dX9_init_37 : decode cX9_init 37 = .ok (.bipush 7, 2) := by decide +kernel
theorem dX9_init_39 : decode cX9_init 39 = .ok (.newarray .int, 2) := by decide +kernel
theorem dX9_init_41 : decode cX9_init 41 = .ok (.putfield 22, 3) := by decide +kernel
theorem dX9_init_44 : decode cX9_init 44 = .ok (.aload_n 0, 1) := by decide +kernel
theorem dX9_init_45 : decode cX9_init 45 = .ok (.bipush 7, 2) := by decide +kernel
theorem dX9_init_47 : decode cX9_init 47 = .ok (.newarray .int, 2) := by decide +kernel
theorem dX9_init_49 : decode cX9_init 49 = .ok (.putfield 25, 3) := by decide +kernel
theorem dX9_init_52 : decode cX9_init 52 = .ok (.aload_n 0, 1) := by decide +kernel
theorem dX9_init_53 : decode cX9_init 53 = .ok (.bipush 7, 2) := by decide +kernel
theorem dX9_init_55 : decode cX9_init 55 = .ok (.newarray .int, 2) := by decide +kernel
theorem dX9_init_57 : decode cX9_init 57 = .ok (.putfield 28, 3) := by decide +kernel
theorem dX9_init_60 : decode cX9_init 60 = .ok (.aload_n 0, 1) := by decide +kernel
theorem dX9_init_61 : decode cX9_init 61 = .ok (.bipush 7, 2) := by decide +kernel
theorem dX9_init_63 : decode cX9_init 63 = .ok (.newarray .int, 2) := by decide +kernel
theorem dX9_init_65 : decode cX9_init 65 = .ok (.putfield 31, 3) := by decide +kernel
theorem dX9_init_68 : decode cX9_init 68 = .ok (.aload_n 0, 1) := by decide +kernel
theorem dX9_init_69 : decode cX9_init 69 = .ok (.bipush 7, 2) := by decide +kernel
theorem dX9_init_71 : decode cX9_init 71 = .ok (.newarray .int, 2) := by decide +kernel
theorem dX9_init_73 : decode cX9_init 73 = .ok (.putfield 34, 3) := by decide +kernel
theorem dX9_init_76 : decode cX9_init 76 = .ok (.aload_n 0, 1) := by decide +kernel
theorem dX9_init_77 : decode cX9_init 77 = .ok (.bipush 7, 2) := by decide +kernel
theorem dX9_init_79 : decode cX9_init 79 = .ok (.newarray .int, 2) := by decide +kernel
theorem dX9_init_81 : decode cX9_init 81 = .ok (.putfield 37, 3) := by decide +kernel
theorem dX9_init_84 : decode cX9_init 84 = .ok (.aload_n 0, 1) := by decide +kernel
theorem dX9_init_85 : decode cX9_init 85 = .ok (.bipush 8, 2) := by decide +kernel
theorem dX9_init_87 : decode cX9_init 87 = .ok (.newarray .int, 2) := by decide +kernel
theorem dX9_init_89 : decode cX9_init 89 = .ok (.putfield 40, 3) := by decide +kernel
theorem dX9_init_92 : decode cX9_init 92 = .ok (.aload_n 0, 1) := by decide +kernel
theorem dX9_init_93 : decode cX9_init 93 = .ok (.bipush 8, 2) := by decide +kernel
theorem dX9_init_95 : decode cX9_init 95 = .ok (.newarray .int, 2) := by decide +kernel
theorem dX9_init_97 : decode cX9_init 97 = .ok (.putfield 43, 3) := by decide +kernel
theorem dX9_init_100 : decode cX9_init 100 = .ok (.aload_n 0, 1) := by decide +kernel
theorem dX9_init_101 : decode cX9_init 101 = .ok (.iconst 4, 1) := by decide +kernel
theorem dX9_init_102 : decode cX9_init 102 = .ok (.newarray .int, 2) := by decide +kernel
theorem dX9_init_104 : decode cX9_init 104 = .ok (.putfield 46, 3) := by decide +kernel
theorem dX9_init_107 : decode cX9_init 107 = .ok (.aload_n 0, 1) := by decide +kernel
theorem dX9_init_108 : decode cX9_init 108 = .ok (.iconst 4, 1) := by decide +kernel
theorem dX9_init_109 : decode cX9_init 109 = .ok (.newarray .int, 2) := by decide +kernel
theorem dX9_init_111 : decode cX9_init 111 = .ok (.putfield 49, 3) := by decide +kernel
theorem dX9_init_114 : decode cX9_init 114 = .ok (.aload_n 0, 1) := by decide +kernel
theorem dX9_init_115 : decode cX9_init 115 = .ok (.sipush 240, 3) := by decide +kernel
theorem dX9_init_118 : decode cX9_init 118 = .ok (.newarray .int, 2) := by decide +kernel
theorem dX9_init_120 : decode cX9_init 120 = .ok (.putfield 52, 3) := by decide +kernel
theorem dX9_init_123 : decode cX9_init 123 = .ok (.aload_n 0, 1) := by decide +kernel
theorem dX9_init_124 : decode cX9_init 124 = .ok (.bipush 60, 2) := by decide +kernel
theorem dX9_init_126 : decode cX9_init 126 = .ok (.newarray .int, 2) := by decide +kernel
theorem dX9_init_128 : decode cX9_init 128 = .ok (.putfield 55, 3) := by decide +kernel
theorem dX9_init_131 : decode cX9_init 131 = .ok (.iconst 0, 1) := by decide +kernel
theorem dX9_init_132 : decode cX9_init 132 = .ok (.istore_n 1, 1) := by decide +kernel
theorem dX9_init_133 : decode cX9_init 133 = .ok (.iload_n 1, 1) := by decide +kernel
theorem dX9_init_134 : decode cX9_init 134 = .ok (.iconst 4, 1) := by decide +kernel
theorem dX9_init_135 : decode cX9_init 135 = .ok (.if_icmp .ge 16, 3) := by decide +kernel
theorem dX9_init_138 : decode cX9_init 138 = .ok (.aload_n 0, 1) := by decide +kernel
theorem dX9_init_139 : decode cX9_init 139 = .ok (.getfield 46, 3) := by decide +kernel
theorem dX9_init_142 : decode cX9_init 142 = .ok (.iload_n 1, 1) := by decide +kernel
theorem dX9_init_143 : decode cX9_init 143 = .ok (.iconst (-1), 1) := by decide +kernel
theorem dX9_init_144 : decode cX9_init 144 = .ok (.iastore, 1) := by decide +kernel
theorem dX9_init_145 : decode cX9_init 145 = .ok (.iinc 1 1, 3) := by decide +kernel
theorem dX9_init_148 : decode cX9_init 148 = .ok (.goto (-15), 3) := by decide +kernel
theorem dX9_init_151 : decode cX9_init 151 = .ok (.return_, 1) := by decide +kernel
theorem dX9_in_0 : decode cX9_in 0 = .ok (.lload_n 0, 1) := by decide +kernel
theorem dX9_in_1 : decode cX9_in 1 = .ok (.lload_n 2, 1) := by decide +kernel
theorem dX9_in_2 : decode cX9_in 2 = .ok (.lcmp, 1) := by decide +kernel
theorem dX9_in_3 : decode cX9_in 3 = .ok (.ifCond .lt 14, 3) := by decide +kernel
theorem dX9_in_6 : decode cX9_in 6 = .ok (.lload_n 0, 1) := by decide +kernel
theorem dX9_in_7 : decode cX9_in 7 = .ok (.lload 4, 2) := by decide +kernel
theorem dX9_in_9 : decode cX9_in 9 = .ok (.lcmp, 1) := by decide +kernel
theorem dX9_in_10 : decode cX9_in 10 = .ok (.ifCond .gt 7, 3) := by decide +kernel
theorem dX9_in_13 : decode cX9_in 13 = .ok (.iconst 1, 1) := by decide +kernel
theorem dX9_in_14 : decode cX9_in 14 = .ok (.goto 4, 3) := by decide +kernel
theorem dX9_in_17 : decode cX9_in 17 = .ok (.iconst 0, 1) := by decide +kernel
theorem dX9_in_18 : decode cX9_in 18 = .ok (.ireturn, 1) := by decide +kernel
theorem dX9_lost_0 : decode cX9_lost 0 = .ok (.ldc2_w 58, 3) := by decide +kernel
theorem dX9_lost_3 : decode cX9_lost 3 = .ok (.lreturn, 1) := by decide +kernel
theorem dX9_told_0 : decode cX9_told 0 = .ok (.lload_n 0, 1) := by decide +kernel
theorem dX9_told_1 : decode cX9_told 1 = .ok (.lstore 5, 2) := by decide +kernel
theorem dX9_told_3 : decode cX9_told 3 = .ok (.lload_n 2, 1) := by decide +kernel
theorem dX9_told_4 : decode cX9_told 4 = .ok (.lstore 7, 2) := by decide +kernel
theorem dX9_told_6 : decode cX9_told 6 = .ok (.lload 7, 2) := by decide +kernel
theorem dX9_told_8 : decode cX9_told 8 = .ok (.lconst 0, 1) := by decide +kernel
theorem dX9_told_9 : decode cX9_told 9 = .ok (.lcmp, 1) := by decide +kernel
theorem dX9_told_10 : decode cX9_told 10 = .ok (.ifCond .eq 21, 3) := by decide +kernel
theorem dX9_told_13 : decode cX9_told 13 = .ok (.lload 5, 2) := by decide +kernel
theorem dX9_told_15 : decode cX9_told 15 = .ok (.lload 7, 2) := by decide +kernel
theorem dX9_told_17 : decode cX9_told 17 = .ok (.lrem, 1) := by decide +kernel
theorem dX9_told_18 : decode cX9_told 18 = .ok (.lstore 9, 2) := by decide +kernel
theorem dX9_told_20 : decode cX9_told 20 = .ok (.lload 7, 2) := by decide +kernel
theorem dX9_told_22 : decode cX9_told 22 = .ok (.lstore 5, 2) := by decide +kernel
theorem dX9_told_24 : decode cX9_told 24 = .ok (.lload 9, 2) := by decide +kernel
theorem dX9_told_26 : decode cX9_told 26 = .ok (.lstore 7, 2) := by decide +kernel
theorem dX9_told_28 : decode cX9_told 28 = .ok (.goto (-22), 3) := by decide +kernel
theorem dX9_told_31 : decode cX9_told 31 = .ok (.iload 4, 2) := by decide +kernel
theorem dX9_told_33 : decode cX9_told 33 = .ok (.ifCond .ne 7, 3) := by decide +kernel
theorem dX9_told_36 : decode cX9_told 36 = .ok (.lload_n 0, 1) := by decide +kernel
theorem dX9_told_37 : decode cX9_told 37 = .ok (.goto 4, 3) := by decide +kernel
theorem dX9_told_40 : decode cX9_told 40 = .ok (.lload_n 2, 1) := by decide +kernel
theorem dX9_told_41 : decode cX9_told 41 = .ok (.lload 5, 2) := by decide +kernel
theorem dX9_told_43 : decode cX9_told 43 = .ok (.ldiv, 1) := by decide +kernel
theorem dX9_told_44 : decode cX9_told 44 = .ok (.lreturn, 1) := by decide +kernel
theorem dX9_refused_0 : decode cX9_refused 0 = .ok (.aload_n 0, 1) := by decide +kernel
theorem dX9_refused_1 : decode cX9_refused 1 = .ok (.iconst 0, 1) := by decide +kernel
theorem dX9_refused_2 : decode cX9_refused 2 = .ok (.putfield 60, 3) := by decide +kernel
theorem dX9_refused_5 : decode cX9_refused 5 = .ok (.iload_n 1, 1) := by decide +kernel
theorem dX9_refused_6 : decode cX9_refused 6 = .ok (.ireturn, 1) := by decide +kernel
theorem dX9_failed_0 : decode cX9_failed 0 = .ok (.aload_n 0, 1) := by decide +kernel
theorem dX9_failed_1 : decode cX9_failed 1 = .ok (.iload_n 1, 1) := by decide +kernel
theorem dX9_failed_2 : decode cX9_failed 2 = .ok (.putfield 60, 3) := by decide +kernel
theorem dX9_failed_5 : decode cX9_failed 5 = .ok (.bipush (-10), 2) := by decide +kernel
theorem dX9_failed_7 : decode cX9_failed 7 = .ok (.iload_n 1, 1) := by decide +kernel
theorem dX9_failed_8 : decode cX9_failed 8 = .ok (.isub, 1) := by decide +kernel
theorem dX9_failed_9 : decode cX9_failed 9 = .ok (.ireturn, 1) := by decide +kernel
set_option maxRecDepth 20000 in
theorem ggX9_failedLong_X9_lost : GoodIn wsX9_failedLong wsX9_lost := goodIn_r _ [5, 6] (by decide +kernel) (by decide +kernel)
set_option maxRecDepth 20000 in
theorem gX9_failedLong_X9_lost : GoodIn wsX9_failedLong (va_wsS RX9 64 yX9_lost wsX9_lost) := goodIn_app (goodIn_of _ (by decide +kernel)) ggX9_failedLong_X9_lost
theorem dX9_failedLong_0 : decode cX9_failedLong 0 = .ok (.aload_n 0, 1) := by decide +kernel
theorem dX9_failedLong_1 : decode cX9_failedLong 1 = .ok (.iload_n 1, 1) := by decide +kernel
theorem dX9_failedLong_2 : decode cX9_failedLong 2 = .ok (.putfield 60, 3) := by decide +kernel
theorem dX9_failedLong_5 : decode cX9_failedLong 5 = .ok (.invokestatic 64, 3) := by decide +kernel
theorem dX9_failedLong_8 : decode cX9_failedLong 8 = .ok (.lreturn, 1) := by decide +kernel
set_option maxRecDepth 20000 in
theorem ggX9_noPerson_X9_in : GoodIn wsX9_noPerson wsX9_in := goodIn_r _ [5] (by decide +kernel) (by decide +kernel)
set_option maxRecDepth 20000 in
theorem gX9_noPerson_X9_in : GoodIn wsX9_noPerson (va_wsS RX9 71 yX9_in wsX9_in) := goodIn_app (goodIn_of _ (by decide +kernel)) ggX9_noPerson_X9_in
theorem dX9_noPerson_0 : decode cX9_noPerson 0 = .ok (.iload_n 1, 1) := by decide +kernel
theorem dX9_noPerson_1 : decode cX9_noPerson 1 = .ok (.i2l, 1) := by decide +kernel
theorem dX9_noPerson_2 : decode cX9_noPerson 2 = .ok (.lconst 0, 1) := by decide +kernel
theorem dX9_noPerson_3 : decode cX9_noPerson 3 = .ok (.aload_n 0, 1) := by decide +kernel
theorem dX9_noPerson_4 : decode cX9_noPerson 4 = .ok (.getfield 68, 3) := by decide +kernel
theorem dX9_noPerson_7 : decode cX9_noPerson 7 = .ok (.i2l, 1) := by decide +kernel
theorem dX9_noPerson_8 : decode cX9_noPerson 8 = .ok (.lconst 1, 1) := by decide +kernel
theorem dX9_noPerson_9 : decode cX9_noPerson 9 = .ok (.lsub, 1) := by decide +kernel
theorem dX9_noPerson_10 : decode cX9_noPerson 10 = .ok (.invokestatic 71, 3) := by decide +kernel
theorem dX9_noPerson_13 : decode cX9_noPerson 13 = .ok (.ifCond .ne 7, 3) := by decide +kernel
theorem dX9_noPerson_16 : decode cX9_noPerson 16 = .ok (.iconst 1, 1) := by decide +kernel
theorem dX9_noPerson_17 : decode cX9_noPerson 17 = .ok (.goto 4, 3) := by decide +kernel
theorem dX9_noPerson_20 : decode cX9_noPerson 20 = .ok (.iconst 0, 1) := by decide +kernel
theorem dX9_noPerson_21 : decode cX9_noPerson 21 = .ok (.ireturn, 1) := by decide +kernel
set_option maxRecDepth 20000 in
theorem ggX9_isMinute_X9_in : GoodIn wsX9_isMinute wsX9_in := goodIn_r _ [5] (by decide +kernel) (by decide +kernel)
set_option maxRecDepth 20000 in
theorem gX9_isMinute_X9_in : GoodIn wsX9_isMinute (va_wsS RX9 71 yX9_in wsX9_in) := goodIn_app (goodIn_of _ (by decide +kernel)) ggX9_isMinute_X9_in
theorem dX9_isMinute_0 : decode cX9_isMinute 0 = .ok (.iload_n 0, 1) := by decide +kernel
theorem dX9_isMinute_1 : decode cX9_isMinute 1 = .ok (.i2l, 1) := by decide +kernel
theorem dX9_isMinute_2 : decode cX9_isMinute 2 = .ok (.lconst 0, 1) := by decide +kernel
theorem dX9_isMinute_3 : decode cX9_isMinute 3 = .ok (.ldc2_w 75, 3) := by decide +kernel
theorem dX9_isMinute_6 : decode cX9_isMinute 6 = .ok (.invokestatic 71, 3) := by decide +kernel
theorem dX9_isMinute_9 : decode cX9_isMinute 9 = .ok (.ireturn, 1) := by decide +kernel
theorem dX9_codeAt_0 : decode cX9_codeAt 0 = .ok (.aload_n 0, 1) := by decide +kernel
theorem dX9_codeAt_1 : decode cX9_codeAt 1 = .ok (.getfield 77, 3) := by decide +kernel
theorem dX9_codeAt_4 : decode cX9_codeAt 4 = .ok (.iload_n 2, 1) := by decide +kernel
theorem dX9_codeAt_5 : decode cX9_codeAt 5 = .ok (.if_icmp .ge 17, 3) := by decide +kernel
theorem dX9_codeAt_8 : decode cX9_codeAt 8 = .ok (.aload_n 0, 1) := by decide +kernel
theorem dX9_codeAt_9 : decode cX9_codeAt 9 = .ok (.getfield 52, 3) := by decide +kernel
theorem dX9_codeAt_12 : decode cX9_codeAt 12 = .ok (.iload_n 1, 1) := by decide +kernel
theorem dX9_codeAt_13 : decode cX9_codeAt 13 = .ok (.aload_n 0, 1) := by decide +kernel
theorem dX9_codeAt_14 : decode cX9_codeAt 14 = .ok (.getfield 77, 3) := by decide +kernel
theorem dX9_codeAt_17 : decode cX9_codeAt 17 = .ok (.iadd, 1) := by decide +kernel
theorem dX9_codeAt_18 : decode cX9_codeAt 18 = .ok (.iaload, 1) := by decide +kernel
theorem dX9_codeAt_19 : decode cX9_codeAt 19 = .ok (.goto 5, 3) := by decide +kernel
theorem dX9_codeAt_22 : decode cX9_codeAt 22 = .ok (.bipush (-9), 2) := by decide +kernel
theorem dX9_codeAt_24 : decode cX9_codeAt 24 = .ok (.ireturn, 1) := by decide +kernel
set_option maxRecDepth 20000 in
theorem ggX9_figure_X9_codeAt : GoodIn wsX9_figure wsX9_codeAt := goodIn_r _ [6, 1, 7, 11, 12, 13, 14, 15, 16, 17, 18, 19, 20, 21, 22, 23, 24, 25, 26, 27, 28, 29, 30, 31, 32, 33, 34, 35, 36, 37, 38, 39, 40, 41] (by decide +kernel) (by decide +kernel)
set_option maxRecDepth 20000 in
theorem gX9_figure_X9_codeAt : GoodIn wsX9_figure (wsV RX9 80 RX9 yX9_codeAt wsX9_codeAt) := goodIn_app (goodIn_of _ (by decide +kernel)) ggX9_figure_X9_codeAt
set_option maxRecDepth 20000 in
theorem ggX9_figure_X9_in : GoodIn wsX9_figure wsX9_in := goodIn_r _ [10] (by decide +kernel) (by decide +kernel)
set_option maxRecDepth 20000 in
theorem gX9_figure_X9_in : GoodIn wsX9_figure (va_wsS RX9 71 yX9_in wsX9_in) := goodIn_app (goodIn_of _ (by decide +kernel)) ggX9_figure_X9_in
theorem dX9_figure_0 : decode cX9_figure 0 = .ok (.aload_n 0, 1) := by decide +kernel
theorem dX9_figure_1 : decode cX9_figure 1 = .ok (.iload_n 1, 1) := by decide +kernel
theorem dX9_figure_2 : decode cX9_figure 2 = .ok (.iload_n 2, 1) := by decide +kernel
theorem dX9_figure_3 : decode cX9_figure 3 = .ok (.invokevirtual 80, 3) := by decide +kernel
theorem dX9_figure_6 : decode cX9_figure 6 = .ok (.bipush 48, 2) := by decide +kernel
theorem dX9_figure_8 : decode cX9_figure 8 = .ok (.isub, 1) := by decide +kernel
theorem dX9_figure_9 : decode cX9_figure 9 = .ok (.istore 5, 2) := by decide +kernel
theorem dX9_figure_11 : decode cX9_figure 11 = .ok (.iload 5, 2) := by decide +kernel
theorem dX9_figure_13 : decode cX9_figure 13 = .ok (.i2l, 1) := by decide +kernel
theorem dX9_figure_14 : decode cX9_figure 14 = .ok (.iload_n 3, 1) := by decide +kernel
theorem dX9_figure_15 : decode cX9_figure 15 = .ok (.i2l, 1) := by decide +kernel
theorem dX9_figure_16 : decode cX9_figure 16 = .ok (.iload 4, 2) := by decide +kernel
theorem dX9_figure_18 : decode cX9_figure 18 = .ok (.i2l, 1) := by decide +kernel
theorem dX9_figure_19 : decode cX9_figure 19 = .ok (.invokestatic 71, 3) := by decide +kernel
theorem dX9_figure_22 : decode cX9_figure 22 = .ok (.istore 6, 2) := by decide +kernel
theorem dX9_figure_24 : decode cX9_figure 24 = .ok (.aload_n 0, 1) := by decide +kernel
theorem dX9_figure_25 : decode cX9_figure 25 = .ok (.dup, 1) := by decide +kernel
theorem dX9_figure_26 : decode cX9_figure 26 = .ok (.getfield 77, 3) := by decide +kernel
theorem dX9_figure_29 : decode cX9_figure 29 = .ok (.iload 6, 2) := by decide +kernel
theorem dX9_figure_31 : decode cX9_figure 31 = .ok (.ifCond .eq 7, 3) := by decide +kernel
theorem dX9_figure_34 : decode cX9_figure 34 = .ok (.iconst 1, 1) := by decide +kernel
theorem dX9_figure_35 : decode cX9_figure 35 = .ok (.goto 4, 3) := by decide +kernel
theorem dX9_figure_38 : decode cX9_figure 38 = .ok (.iconst 0, 1) := by decide +kernel
theorem dX9_figure_39 : decode cX9_figure 39 = .ok (.iadd, 1) := by decide +kernel
theorem dX9_figure_40 : decode cX9_figure 40 = .ok (.putfield 77, 3) := by decide +kernel
theorem dX9_figure_43 : decode cX9_figure 43 = .ok (.iload 6, 2) := by decide +kernel
theorem dX9_figure_45 : decode cX9_figure 45 = .ok (.ifCond .eq 8, 3) := by decide +kernel
theorem dX9_figure_48 : decode cX9_figure 48 = .ok (.iload 5, 2) := by decide +kernel
theorem dX9_figure_50 : decode cX9_figure 50 = .ok (.goto 5, 3) := by decide +kernel
theorem dX9_figure_53 : decode cX9_figure 53 = .ok (.bipush (-9), 2) := by decide +kernel
theorem dX9_figure_55 : decode cX9_figure 55 = .ok (.ireturn, 1) := by decide +kernel
set_option maxRecDepth 20000 in
theorem ggX9_readsOne_X9_codeAt : GoodIn wsX9_readsOne wsX9_codeAt := goodIn_r _ [10, 2, 11, 19, 20, 21, 22, 23, 24, 25, 26, 27, 28, 29, 30, 31, 32, 33, 34, 35, 36, 37, 38, 39, 40, 41, 42, 43, 44, 45, 46, 47, 48, 49] (by decide +kernel) (by decide +kernel)
set_option maxRecDepth 20000 in
theorem gX9_readsOne_X9_codeAt : GoodIn wsX9_readsOne (wsV RX9 80 RX9 yX9_codeAt wsX9_codeAt) := goodIn_app (goodIn_of _ (by decide +kernel)) ggX9_readsOne_X9_codeAt
set_option maxRecDepth 20000 in
theorem ggX9_readsOne_X9_figure : GoodIn wsX9_readsOne wsX9_figure := goodIn_r _ [15, 2, 6, 7, 8, 9, 10, 11, 16, 17, 18, 19, 20, 21, 22, 23, 24, 25, 26, 27, 28, 29, 30, 31, 32, 33, 34, 35, 36, 37, 38, 39, 40, 41, 42, 43, 44, 45, 46, 47, 48, 49] (by decide +kernel) (by decide +kernel)
set_option maxRecDepth 20000 in
theorem gX9_readsOne_X9_figure : GoodIn wsX9_readsOne (wsV RX9 87 RX9 yX9_figure wsX9_figure) := goodIn_app (goodIn_of _ (by decide +kernel)) ggX9_readsOne_X9_figure
theorem dX9_readsOne_0 : decode cX9_readsOne 0 = .ok (.aload_n 0, 1) := by decide +kernel
theorem dX9_readsOne_1 : decode cX9_readsOne 1 = .ok (.getfield 84, 3) := by decide +kernel
theorem dX9_readsOne_4 : decode cX9_readsOne 4 = .ok (.bipush 7, 2) := by decide +kernel
theorem dX9_readsOne_6 : decode cX9_readsOne 6 = .ok (.if_icmp .eq 14, 3) := by decide +kernel
theorem dX9_readsOne_9 : decode cX9_readsOne 9 = .ok (.aload_n 0, 1) := by decide +kernel
theorem dX9_readsOne_10 : decode cX9_readsOne 10 = .ok (.iload_n 1, 1) := by decide +kernel
theorem dX9_readsOne_11 : decode cX9_readsOne 11 = .ok (.iload_n 2, 1) := by decide +kernel
theorem dX9_readsOne_12 : decode cX9_readsOne 12 = .ok (.invokevirtual 80, 3) := by decide +kernel
theorem dX9_readsOne_15 : decode cX9_readsOne 15 = .ok (.bipush 59, 2) := by decide +kernel
theorem dX9_readsOne_17 : decode cX9_readsOne 17 = .ok (.if_icmp .eq 5, 3) := by decide +kernel
theorem dX9_readsOne_20 : decode cX9_readsOne 20 = .ok (.iconst 0, 1) := by decide +kernel
theorem dX9_readsOne_21 : decode cX9_readsOne 21 = .ok (.ireturn, 1) := by decide +kernel
theorem dX9_readsOne_22 : decode cX9_readsOne 22 = .ok (.aload_n 0, 1) := by decide +kernel
theorem dX9_readsOne_23 : decode cX9_readsOne 23 = .ok (.dup, 1) := by decide +kernel
theorem dX9_readsOne_24 : decode cX9_readsOne 24 = .ok (.getfield 77, 3) := by decide +kernel
theorem dX9_readsOne_27 : decode cX9_readsOne 27 = .ok (.iconst 1, 1) := by decide +kernel
theorem dX9_readsOne_28 : decode cX9_readsOne 28 = .ok (.iadd, 1) := by decide +kernel
theorem dX9_readsOne_29 : decode cX9_readsOne 29 = .ok (.putfield 77, 3) := by decide +kernel
theorem dX9_readsOne_32 : decode cX9_readsOne 32 = .ok (.aload_n 0, 1) := by decide +kernel
theorem dX9_readsOne_33 : decode cX9_readsOne 33 = .ok (.iload_n 1, 1) := by decide +kernel
theorem dX9_readsOne_34 : decode cX9_readsOne 34 = .ok (.iload_n 2, 1) := by decide +kernel
theorem dX9_readsOne_35 : decode cX9_readsOne 35 = .ok (.invokevirtual 80, 3) := by decide +kernel
theorem dX9_readsOne_38 : decode cX9_readsOne 38 = .ok (.istore_n 3, 1) := by decide +kernel
theorem dX9_readsOne_39 : decode cX9_readsOne 39 = .ok (.iload_n 3, 1) := by decide +kernel
theorem dX9_readsOne_40 : decode cX9_readsOne 40 = .ok (.bipush 112, 2) := by decide +kernel
theorem dX9_readsOne_42 : decode cX9_readsOne 42 = .ok (.if_icmp .eq 17, 3) := by decide +kernel
theorem dX9_readsOne_45 : decode cX9_readsOne 45 = .ok (.iload_n 3, 1) := by decide +kernel
theorem dX9_readsOne_46 : decode cX9_readsOne 46 = .ok (.bipush 109, 2) := by decide +kernel
theorem dX9_readsOne_48 : decode cX9_readsOne 48 = .ok (.if_icmp .eq 11, 3) := by decide +kernel
theorem dX9_readsOne_51 : decode cX9_readsOne 51 = .ok (.iload_n 3, 1) := by decide +kernel
theorem dX9_readsOne_52 : decode cX9_readsOne 52 = .ok (.bipush 99, 2) := by decide +kernel
theorem dX9_readsOne_54 : decode cX9_readsOne 54 = .ok (.if_icmp .eq 5, 3) := by decide +kernel
theorem dX9_readsOne_57 : decode cX9_readsOne 57 = .ok (.iconst 0, 1) := by decide +kernel
theorem dX9_readsOne_58 : decode cX9_readsOne 58 = .ok (.ireturn, 1) := by decide +kernel
theorem dX9_readsOne_59 : decode cX9_readsOne 59 = .ok (.aload_n 0, 1) := by decide +kernel
theorem dX9_readsOne_60 : decode cX9_readsOne 60 = .ok (.dup, 1) := by decide +kernel
theorem dX9_readsOne_61 : decode cX9_readsOne 61 = .ok (.getfield 77, 3) := by decide +kernel
theorem dX9_readsOne_64 : decode cX9_readsOne 64 = .ok (.iconst 1, 1) := by decide +kernel
theorem dX9_readsOne_65 : decode cX9_readsOne 65 = .ok (.iadd, 1) := by decide +kernel
theorem dX9_readsOne_66 : decode cX9_readsOne 66 = .ok (.putfield 77, 3) := by decide +kernel
theorem dX9_readsOne_69 : decode cX9_readsOne 69 = .ok (.aload_n 0, 1) := by decide +kernel
theorem dX9_readsOne_70 : decode cX9_readsOne 70 = .ok (.iload_n 1, 1) := by decide +kernel
theorem dX9_readsOne_71 : decode cX9_readsOne 71 = .ok (.iload_n 2, 1) := by decide +kernel
theorem dX9_readsOne_72 : decode cX9_readsOne 72 = .ok (.iconst 0, 1) := by decide +kernel
theorem dX9_readsOne_73 : decode cX9_readsOne 73 = .ok (.iconst 5, 1) := by decide +kernel
theorem dX9_readsOne_74 : decode cX9_readsOne 74 = .ok (.invokevirtual 87, 3) := by decide +kernel
theorem dX9_readsOne_77 : decode cX9_readsOne 77 = .ok (.istore 4, 2) := by decide +kernel
theorem dX9_readsOne_79 : decode cX9_readsOne 79 = .ok (.iload 4, 2) := by decide +kernel
theorem dX9_readsOne_81 : decode cX9_readsOne 81 = .ok (.ifCond .ge 8, 3) := by decide +kernel
theorem dX9_readsOne_84 : decode cX9_readsOne 84 = .ok (.bipush (-9), 2) := by decide +kernel
theorem dX9_readsOne_86 : decode cX9_readsOne 86 = .ok (.goto 12, 3) := by decide +kernel
theorem dX9_readsOne_89 : decode cX9_readsOne 89 = .ok (.aload_n 0, 1) := by decide +kernel
theorem dX9_readsOne_90 : decode cX9_readsOne 90 = .ok (.iload_n 1, 1) := by decide +kernel
theorem dX9_readsOne_91 : decode cX9_readsOne 91 = .ok (.iload_n 2, 1) := by decide +kernel
theorem dX9_readsOne_92 : decode cX9_readsOne 92 = .ok (.iconst 0, 1) := by decide +kernel
theorem dX9_readsOne_93 : decode cX9_readsOne 93 = .ok (.bipush 9, 2) := by decide +kernel
theorem dX9_readsOne_95 : decode cX9_readsOne 95 = .ok (.invokevirtual 87, 3) := by decide +kernel
theorem dX9_readsOne_98 : decode cX9_readsOne 98 = .ok (.istore 5, 2) := by decide +kernel
theorem dX9_readsOne_100 : decode cX9_readsOne 100 = .ok (.iload 5, 2) := by decide +kernel
theorem dX9_readsOne_102 : decode cX9_readsOne 102 = .ok (.ifCond .ge 8, 3) := by decide +kernel
theorem dX9_readsOne_105 : decode cX9_readsOne 105 = .ok (.bipush (-9), 2) := by decide +kernel
theorem dX9_readsOne_107 : decode cX9_readsOne 107 = .ok (.goto 12, 3) := by decide +kernel
theorem dX9_readsOne_110 : decode cX9_readsOne 110 = .ok (.aload_n 0, 1) := by decide +kernel
theorem dX9_readsOne_111 : decode cX9_readsOne 111 = .ok (.iload_n 1, 1) := by decide +kernel
theorem dX9_readsOne_112 : decode cX9_readsOne 112 = .ok (.iload_n 2, 1) := by decide +kernel
theorem dX9_readsOne_113 : decode cX9_readsOne 113 = .ok (.iconst 1, 1) := by decide +kernel
theorem dX9_readsOne_114 : decode cX9_readsOne 114 = .ok (.bipush 9, 2) := by decide +kernel
theorem dX9_readsOne_116 : decode cX9_readsOne 116 = .ok (.invokevirtual 87, 3) := by decide +kernel
theorem dX9_readsOne_119 : decode cX9_readsOne 119 = .ok (.istore 6, 2) := by decide +kernel
theorem dX9_readsOne_121 : decode cX9_readsOne 121 = .ok (.iload 6, 2) := by decide +kernel
theorem dX9_readsOne_123 : decode cX9_readsOne 123 = .ok (.ifCond .ge 5, 3) := by decide +kernel
theorem dX9_readsOne_126 : decode cX9_readsOne 126 = .ok (.iconst 0, 1) := by decide +kernel
theorem dX9_readsOne_127 : decode cX9_readsOne 127 = .ok (.ireturn, 1) := by decide +kernel
theorem dX9_readsOne_128 : decode cX9_readsOne 128 = .ok (.aload_n 0, 1) := by decide +kernel
theorem dX9_readsOne_129 : decode cX9_readsOne 129 = .ok (.getfield 22, 3) := by decide +kernel
theorem dX9_readsOne_132 : decode cX9_readsOne 132 = .ok (.aload_n 0, 1) := by decide +kernel
theorem dX9_readsOne_133 : decode cX9_readsOne 133 = .ok (.getfield 84, 3) := by decide +kernel
theorem dX9_readsOne_136 : decode cX9_readsOne 136 = .ok (.iload_n 3, 1) := by decide +kernel
theorem dX9_readsOne_137 : decode cX9_readsOne 137 = .ok (.bipush 112, 2) := by decide +kernel
theorem dX9_readsOne_139 : decode cX9_readsOne 139 = .ok (.if_icmp .ne 7, 3) := by decide +kernel
theorem dX9_readsOne_142 : decode cX9_readsOne 142 = .ok (.iconst 0, 1) := by decide +kernel
theorem dX9_readsOne_143 : decode cX9_readsOne 143 = .ok (.goto 14, 3) := by decide +kernel
theorem dX9_readsOne_146 : decode cX9_readsOne 146 = .ok (.iload_n 3, 1) := by decide +kernel
theorem dX9_readsOne_147 : decode cX9_readsOne 147 = .ok (.bipush 109, 2) := by decide +kernel
theorem dX9_readsOne_149 : decode cX9_readsOne 149 = .ok (.if_icmp .ne 7, 3) := by decide +kernel
theorem dX9_readsOne_152 : decode cX9_readsOne 152 = .ok (.iconst 1, 1) := by decide +kernel
theorem dX9_readsOne_153 : decode cX9_readsOne 153 = .ok (.goto 4, 3) := by decide +kernel
theorem dX9_readsOne_156 : decode cX9_readsOne 156 = .ok (.iconst 2, 1) := by decide +kernel
theorem dX9_readsOne_157 : decode cX9_readsOne 157 = .ok (.iastore, 1) := by decide +kernel
theorem dX9_readsOne_158 : decode cX9_readsOne 158 = .ok (.aload_n 0, 1) := by decide +kernel
theorem dX9_readsOne_159 : decode cX9_readsOne 159 = .ok (.getfield 25, 3) := by decide +kernel
theorem dX9_readsOne_162 : decode cX9_readsOne 162 = .ok (.aload_n 0, 1) := by decide +kernel
theorem dX9_readsOne_163 : decode cX9_readsOne 163 = .ok (.getfield 84, 3) := by decide +kernel
theorem dX9_readsOne_166 : decode cX9_readsOne 166 = .ok (.bipush 10, 2) := by decide +kernel
theorem dX9_readsOne_168 : decode cX9_readsOne 168 = .ok (.iload 4, 2) := by decide +kernel
theorem dX9_readsOne_170 : decode cX9_readsOne 170 = .ok (.imul, 1) := by decide +kernel
theorem dX9_readsOne_171 : decode cX9_readsOne 171 = .ok (.iload 5, 2) := by decide +kernel
theorem dX9_readsOne_173 : decode cX9_readsOne 173 = .ok (.iadd, 1) := by decide +kernel
theorem dX9_readsOne_174 : decode cX9_readsOne 174 = .ok (.iastore, 1) := by decide +kernel
theorem dX9_readsOne_175 : decode cX9_readsOne 175 = .ok (.aload_n 0, 1) := by decide +kernel
theorem dX9_readsOne_176 : decode cX9_readsOne 176 = .ok (.getfield 28, 3) := by decide +kernel
theorem dX9_readsOne_179 : decode cX9_readsOne 179 = .ok (.aload_n 0, 1) := by decide +kernel
theorem dX9_readsOne_180 : decode cX9_readsOne 180 = .ok (.getfield 84, 3) := by decide +kernel
theorem dX9_readsOne_183 : decode cX9_readsOne 183 = .ok (.iload 6, 2) := by decide +kernel
theorem dX9_readsOne_185 : decode cX9_readsOne 185 = .ok (.iastore, 1) := by decide +kernel
theorem dX9_readsOne_186 : decode cX9_readsOne 186 = .ok (.aload_n 0, 1) := by decide +kernel
theorem dX9_readsOne_187 : decode cX9_readsOne 187 = .ok (.dup, 1) := by decide +kernel
theorem dX9_readsOne_188 : decode cX9_readsOne 188 = .ok (.getfield 84, 3) := by decide +kernel
theorem dX9_readsOne_191 : decode cX9_readsOne 191 = .ok (.iconst 1, 1) := by decide +kernel
theorem dX9_readsOne_192 : decode cX9_readsOne 192 = .ok (.iadd, 1) := by decide +kernel
theorem dX9_readsOne_193 : decode cX9_readsOne 193 = .ok (.putfield 84, 3) := by decide +kernel
theorem dX9_readsOne_196 : decode cX9_readsOne 196 = .ok (.iconst 1, 1) := by decide +kernel
theorem dX9_readsOne_197 : decode cX9_readsOne 197 = .ok (.ireturn, 1) := by decide +kernel
set_option maxRecDepth 20000 in
theorem ggX9_readsDay_X9_codeAt : GoodIn wsX9_readsDay wsX9_codeAt := goodIn_r _ [8, 1, 9, 24, 25, 26, 27, 28, 29, 30, 31, 32, 33, 34, 35, 36, 37, 38, 39, 40, 41, 42, 43, 44, 45, 46, 47, 48, 49, 50, 51, 52, 53, 54] (by decide +kernel) (by decide +kernel)
set_option maxRecDepth 20000 in
theorem gX9_readsDay_X9_codeAt : GoodIn wsX9_readsDay (wsV RX9 80 RX9 yX9_codeAt wsX9_codeAt) := goodIn_app (goodIn_of _ (by decide +kernel)) ggX9_readsDay_X9_codeAt
set_option maxRecDepth 20000 in
theorem ggX9_readsDay_X9_figure : GoodIn wsX9_readsDay wsX9_figure := goodIn_r _ [13, 1, 4, 5, 6, 7, 8, 9, 14, 15, 16, 24, 25, 26, 27, 28, 29, 30, 31, 32, 33, 34, 35, 36, 37, 38, 39, 40, 41, 42, 43, 44, 45, 46, 47, 48, 49, 50, 51, 52, 53, 54] (by decide +kernel) (by decide +kernel)
set_option maxRecDepth 20000 in
theorem gX9_readsDay_X9_figure : GoodIn wsX9_readsDay (wsV RX9 87 RX9 yX9_figure wsX9_figure) := goodIn_app (goodIn_of _ (by decide +kernel)) ggX9_readsDay_X9_figure
set_option maxRecDepth 20000 in
theorem ggX9_readsDay_X9_readsOne : GoodIn wsX9_readsDay wsX9_readsOne := goodIn_r _ [20, 2, 1, 21, 22, 23, 4, 5, 6, 7, 8, 9, 10, 11, 12, 13, 14, 15, 16, 24, 25, 26, 27, 28, 29, 30, 31, 32, 33, 34, 35, 36, 37, 38, 39, 40, 41, 42, 43, 44, 45, 46, 47, 48, 49, 50, 51, 52, 53, 54] (by decide +kernel) (by decide +kernel)
set_option maxRecDepth 20000 in
theorem gX9_readsDay_X9_readsOne : GoodIn wsX9_readsDay (wsV RX9 94 RX9 yX9_readsOne wsX9_readsOne) := goodIn_app (goodIn_of _ (by decide +kernel)) ggX9_readsDay_X9_readsOne
theorem dX9_readsDay_0 : decode cX9_readsDay 0 = .ok (.aload_n 0, 1) := by decide +kernel
theorem dX9_readsDay_1 : decode cX9_readsDay 1 = .ok (.iconst 0, 1) := by decide +kernel
theorem dX9_readsDay_2 : decode cX9_readsDay 2 = .ok (.putfield 77, 3) := by decide +kernel
theorem dX9_readsDay_5 : decode cX9_readsDay 5 = .ok (.aload_n 0, 1) := by decide +kernel
theorem dX9_readsDay_6 : decode cX9_readsDay 6 = .ok (.iconst 0, 1) := by decide +kernel
theorem dX9_readsDay_7 : decode cX9_readsDay 7 = .ok (.putfield 84, 3) := by decide +kernel
theorem dX9_readsDay_10 : decode cX9_readsDay 10 = .ok (.aload_n 0, 1) := by decide +kernel
theorem dX9_readsDay_11 : decode cX9_readsDay 11 = .ok (.iload_n 1, 1) := by decide +kernel
theorem dX9_readsDay_12 : decode cX9_readsDay 12 = .ok (.iload_n 2, 1) := by decide +kernel
theorem dX9_readsDay_13 : decode cX9_readsDay 13 = .ok (.invokevirtual 80, 3) := by decide +kernel
theorem dX9_readsDay_16 : decode cX9_readsDay 16 = .ok (.bipush 100, 2) := by decide +kernel
theorem dX9_readsDay_18 : decode cX9_readsDay 18 = .ok (.if_icmp .ne 7, 3) := by decide +kernel
theorem dX9_readsDay_21 : decode cX9_readsDay 21 = .ok (.iconst 1, 1) := by decide +kernel
theorem dX9_readsDay_22 : decode cX9_readsDay 22 = .ok (.goto 4, 3) := by decide +kernel
theorem dX9_readsDay_25 : decode cX9_readsDay 25 = .ok (.iconst 0, 1) := by decide +kernel
theorem dX9_readsDay_26 : decode cX9_readsDay 26 = .ok (.istore_n 3, 1) := by decide +kernel
theorem dX9_readsDay_27 : decode cX9_readsDay 27 = .ok (.aload_n 0, 1) := by decide +kernel
theorem dX9_readsDay_28 : decode cX9_readsDay 28 = .ok (.dup, 1) := by decide +kernel
theorem dX9_readsDay_29 : decode cX9_readsDay 29 = .ok (.getfield 77, 3) := by decide +kernel
theorem dX9_readsDay_32 : decode cX9_readsDay 32 = .ok (.iload_n 3, 1) := by decide +kernel
theorem dX9_readsDay_33 : decode cX9_readsDay 33 = .ok (.ifCond .eq 7, 3) := by decide +kernel
theorem dX9_readsDay_36 : decode cX9_readsDay 36 = .ok (.iconst 1, 1) := by decide +kernel
theorem dX9_readsDay_37 : decode cX9_readsDay 37 = .ok (.goto 4, 3) := by decide +kernel
theorem dX9_readsDay_40 : decode cX9_readsDay 40 = .ok (.iconst 0, 1) := by decide +kernel
theorem dX9_readsDay_41 : decode cX9_readsDay 41 = .ok (.iadd, 1) := by decide +kernel
theorem dX9_readsDay_42 : decode cX9_readsDay 42 = .ok (.putfield 77, 3) := by decide +kernel
theorem dX9_readsDay_45 : decode cX9_readsDay 45 = .ok (.aload_n 0, 1) := by decide +kernel
theorem dX9_readsDay_46 : decode cX9_readsDay 46 = .ok (.iload_n 3, 1) := by decide +kernel
theorem dX9_readsDay_47 : decode cX9_readsDay 47 = .ok (.ifCond .eq 14, 3) := by decide +kernel
theorem dX9_readsDay_50 : decode cX9_readsDay 50 = .ok (.aload_n 0, 1) := by decide +kernel
theorem dX9_readsDay_51 : decode cX9_readsDay 51 = .ok (.iload_n 1, 1) := by decide +kernel
theorem dX9_readsDay_52 : decode cX9_readsDay 52 = .ok (.iload_n 2, 1) := by decide +kernel
theorem dX9_readsDay_53 : decode cX9_readsDay 53 = .ok (.iconst 0, 1) := by decide +kernel
theorem dX9_readsDay_54 : decode cX9_readsDay 54 = .ok (.iconst 2, 1) := by decide +kernel
theorem dX9_readsDay_55 : decode cX9_readsDay 55 = .ok (.invokevirtual 87, 3) := by decide +kernel
theorem dX9_readsDay_58 : decode cX9_readsDay 58 = .ok (.goto 5, 3) := by decide +kernel
theorem dX9_readsDay_61 : decode cX9_readsDay 61 = .ok (.bipush (-9), 2) := by decide +kernel
theorem dX9_readsDay_63 : decode cX9_readsDay 63 = .ok (.putfield 91, 3) := by decide +kernel

theorem dX9_readsDay_66 : decode cX9_readsDay 66 = .ok (.aload_n 0, 1) := by decide +kernel
theorem dX9_readsDay_67 : decode cX9_readsDay 67 = .ok (.getfield 91, 3) := by decide +kernel
theorem dX9_readsDay_70 : decode cX9_readsDay 70 = .ok (.ifCond .lt 7, 3) := by decide +kernel
theorem dX9_readsDay_73 : decode cX9_readsDay 73 = .ok (.iconst 1, 1) := by decide +kernel
theorem dX9_readsDay_74 : decode cX9_readsDay 74 = .ok (.goto 4, 3) := by decide +kernel
theorem dX9_readsDay_77 : decode cX9_readsDay 77 = .ok (.iconst 0, 1) := by decide +kernel
theorem dX9_readsDay_78 : decode cX9_readsDay 78 = .ok (.istore_n 3, 1) := by decide +kernel
theorem dX9_readsDay_79 : decode cX9_readsDay 79 = .ok (.iload_n 3, 1) := by decide +kernel
theorem dX9_readsDay_80 : decode cX9_readsDay 80 = .ok (.ifCond .eq 29, 3) := by decide +kernel
theorem dX9_readsDay_83 : decode cX9_readsDay 83 = .ok (.aload_n 0, 1) := by decide +kernel
theorem dX9_readsDay_84 : decode cX9_readsDay 84 = .ok (.getfield 84, 3) := by decide +kernel
theorem dX9_readsDay_87 : decode cX9_readsDay 87 = .ok (.iconst 1, 1) := by decide +kernel
theorem dX9_readsDay_88 : decode cX9_readsDay 88 = .ok (.if_icmp .lt 11, 3) := by decide +kernel
theorem dX9_readsDay_91 : decode cX9_readsDay 91 = .ok (.aload_n 0, 1) := by decide +kernel
theorem dX9_readsDay_92 : decode cX9_readsDay 92 = .ok (.getfield 77, 3) := by decide +kernel
theorem dX9_readsDay_95 : decode cX9_readsDay 95 = .ok (.iload_n 2, 1) := by decide +kernel
theorem dX9_readsDay_96 : decode cX9_readsDay 96 = .ok (.if_icmp .ge 13, 3) := by decide +kernel
theorem dX9_readsDay_99 : decode cX9_readsDay 99 = .ok (.aload_n 0, 1) := by decide +kernel
theorem dX9_readsDay_100 : decode cX9_readsDay 100 = .ok (.iload_n 1, 1) := by decide +kernel
theorem dX9_readsDay_101 : decode cX9_readsDay 101 = .ok (.iload_n 2, 1) := by decide +kernel
theorem dX9_readsDay_102 : decode cX9_readsDay 102 = .ok (.invokevirtual 94, 3) := by decide +kernel
theorem dX9_readsDay_105 : decode cX9_readsDay 105 = .ok (.istore_n 3, 1) := by decide +kernel
theorem dX9_readsDay_106 : decode cX9_readsDay 106 = .ok (.goto (-27), 3) := by decide +kernel
theorem dX9_readsDay_109 : decode cX9_readsDay 109 = .ok (.iload_n 3, 1) := by decide +kernel
theorem dX9_readsDay_110 : decode cX9_readsDay 110 = .ok (.ireturn, 1) := by decide +kernel
set_option maxRecDepth 20000 in
theorem ggX9_day_X9_noSheet : GoodIn wsX9_day wsX9_noSheet := goodIn_r _ [21, 22, 23, 24, 20, 25] (by decide +kernel) (by decide +kernel)
set_option maxRecDepth 20000 in
theorem gX9_day_X9_noSheet : GoodIn wsX9_day (va_wsS RX9 98 yX9_noSheet wsX9_noSheet) := goodIn_app (goodIn_of _ (by decide +kernel)) ggX9_day_X9_noSheet
set_option maxRecDepth 20000 in
theorem ggX9_day_X9_refused : GoodIn wsX9_day wsX9_refused := goodIn_r _ [29, 30, 55, 56, 57, 58, 59, 60, 61, 62, 63, 64, 65, 66, 67, 68, 69, 70, 71, 72, 73, 74, 75, 76, 77, 78, 79, 80, 81, 82, 83, 84, 85] (by decide +kernel) (by decide +kernel)
set_option maxRecDepth 20000 in
theorem gX9_day_X9_refused : GoodIn wsX9_day (wsV RX9 102 RX9 yX9_refused wsX9_refused) := goodIn_app (goodIn_of _ (by decide +kernel)) ggX9_day_X9_refused
set_option maxRecDepth 20000 in
theorem ggX9_day_X9_in : GoodIn wsX9_day wsX9_in := goodIn_r _ [25] (by decide +kernel) (by decide +kernel)
set_option maxRecDepth 20000 in
theorem gX9_day_X9_in : GoodIn wsX9_day (va_wsS RX9 71 yX9_in wsX9_in) := goodIn_app (goodIn_of _ (by decide +kernel)) ggX9_day_X9_in
set_option maxRecDepth 20000 in
theorem ggX9_day_X9_failed : GoodIn wsX9_day wsX9_failed := goodIn_r _ [34, 30, 55, 56, 57, 58, 59, 60, 61, 62, 63, 64, 65, 66, 67, 68, 69, 70, 71, 72, 73, 74, 75, 76, 77, 78, 79, 80, 81, 82, 83, 84, 85] (by decide +kernel) (by decide +kernel)
set_option maxRecDepth 20000 in
theorem gX9_day_X9_failed : GoodIn wsX9_day (wsV RX9 108 RX9 yX9_failed wsX9_failed) := goodIn_app (goodIn_of _ (by decide +kernel)) ggX9_day_X9_failed
set_option maxRecDepth 20000 in
theorem ggX9_day_X9_isBeyond : GoodIn wsX9_day wsX9_isBeyond := goodIn_r _ [37] (by decide +kernel) (by decide +kernel)
set_option maxRecDepth 20000 in
theorem gX9_day_X9_isBeyond : GoodIn wsX9_day (va_wsS RX9 111 yX9_isBeyond wsX9_isBeyond) := goodIn_app (goodIn_of _ (by decide +kernel)) ggX9_day_X9_isBeyond
set_option maxRecDepth 20000 in
theorem ggX9_day_X9_readsDay : GoodIn wsX9_day wsX9_readsDay := goodIn_r _ [41, 4, 7, 5, 42, 43, 44, 20, 45, 46, 47, 48, 49, 50, 23, 24, 25, 51, 52, 53, 54, 10, 12, 14, 55, 56, 57, 58, 59, 60, 61, 62, 63, 64, 65, 66, 67, 68, 69, 70, 71, 72, 73, 74, 75, 76, 77, 78, 79, 80, 81, 82, 83, 84, 85] (by decide +kernel) (by decide +kernel)
set_option maxRecDepth 20000 in
theorem gX9_day_X9_readsDay : GoodIn wsX9_day (wsV RX9 115 RX9 yX9_readsDay wsX9_readsDay) := goodIn_app (goodIn_of _ (by decide +kernel)) ggX9_day_X9_readsDay
theorem dX9_day_0 : decode cX9_day 0 = .ok (.iload_n 1, 1) := by decide +kernel
theorem dX9_day_1 : decode cX9_day 1 = .ok (.invokestatic 98, 3) := by decide +kernel
theorem dX9_day_4 : decode cX9_day 4 = .ok (.ifCond .eq 9, 3) := by decide +kernel
theorem dX9_day_7 : decode cX9_day 7 = .ok (.aload_n 0, 1) := by decide +kernel
theorem dX9_day_8 : decode cX9_day 8 = .ok (.iconst (-1), 1) := by decide +kernel
theorem dX9_day_9 : decode cX9_day 9 = .ok (.invokevirtual 102, 3) := by decide +kernel
theorem dX9_day_12 : decode cX9_day 12 = .ok (.ireturn, 1) := by decide +kernel
theorem dX9_day_13 : decode cX9_day 13 = .ok (.iload_n 2, 1) := by decide +kernel
theorem dX9_day_14 : decode cX9_day 14 = .ok (.i2l, 1) := by decide +kernel
theorem dX9_day_15 : decode cX9_day 15 = .ok (.lconst 0, 1) := by decide +kernel
theorem dX9_day_16 : decode cX9_day 16 = .ok (.ldc2_w 106, 3) := by decide +kernel
theorem dX9_day_19 : decode cX9_day 19 = .ok (.invokestatic 71, 3) := by decide +kernel
theorem dX9_day_22 : decode cX9_day 22 = .ok (.ifCond .ne 10, 3) := by decide +kernel
theorem dX9_day_25 : decode cX9_day 25 = .ok (.aload_n 0, 1) := by decide +kernel
theorem dX9_day_26 : decode cX9_day 26 = .ok (.bipush (-2), 2) := by decide +kernel
theorem dX9_day_28 : decode cX9_day 28 = .ok (.invokevirtual 102, 3) := by decide +kernel
theorem dX9_day_31 : decode cX9_day 31 = .ok (.ireturn, 1) := by decide +kernel
theorem dX9_day_32 : decode cX9_day 32 = .ok (.aload_n 0, 1) := by decide +kernel
theorem dX9_day_33 : decode cX9_day 33 = .ok (.getfield 46, 3) := by decide +kernel
theorem dX9_day_36 : decode cX9_day 36 = .ok (.iload_n 1, 1) := by decide +kernel
theorem dX9_day_37 : decode cX9_day 37 = .ok (.iaload, 1) := by decide +kernel
theorem dX9_day_38 : decode cX9_day 38 = .ok (.ifCond .lt 19, 3) := by decide +kernel
theorem dX9_day_41 : decode cX9_day 41 = .ok (.aload_n 0, 1) := by decide +kernel
theorem dX9_day_42 : decode cX9_day 42 = .ok (.getfield 49, 3) := by decide +kernel
theorem dX9_day_45 : decode cX9_day 45 = .ok (.iload_n 1, 1) := by decide +kernel
theorem dX9_day_46 : decode cX9_day 46 = .ok (.iaload, 1) := by decide +kernel
theorem dX9_day_47 : decode cX9_day 47 = .ok (.iload_n 2, 1) := by decide +kernel
theorem dX9_day_48 : decode cX9_day 48 = .ok (.if_icmp .eq 9, 3) := by decide +kernel
theorem dX9_day_51 : decode cX9_day 51 = .ok (.aload_n 0, 1) := by decide +kernel
theorem dX9_day_52 : decode cX9_day 52 = .ok (.iconst 2, 1) := by decide +kernel
theorem dX9_day_53 : decode cX9_day 53 = .ok (.invokevirtual 108, 3) := by decide +kernel
theorem dX9_day_56 : decode cX9_day 56 = .ok (.ireturn, 1) := by decide +kernel
theorem dX9_day_57 : decode cX9_day 57 = .ok (.aload_n 0, 1) := by decide +kernel
theorem dX9_day_58 : decode cX9_day 58 = .ok (.getfield 46, 3) := by decide +kernel
theorem dX9_day_61 : decode cX9_day 61 = .ok (.iload_n 1, 1) := by decide +kernel
theorem dX9_day_62 : decode cX9_day 62 = .ok (.iaload, 1) := by decide +kernel
theorem dX9_day_63 : decode cX9_day 63 = .ok (.ifCond .ge 9, 3) := by decide +kernel
theorem dX9_day_66 : decode cX9_day 66 = .ok (.aload_n 0, 1) := by decide +kernel
theorem dX9_day_67 : decode cX9_day 67 = .ok (.iconst 1, 1) := by decide +kernel
theorem dX9_day_68 : decode cX9_day 68 = .ok (.invokevirtual 108, 3) := by decide +kernel
theorem dX9_day_71 : decode cX9_day 71 = .ok (.ireturn, 1) := by decide +kernel
theorem dX9_day_72 : decode cX9_day 72 = .ok (.iload 4, 2) := by decide +kernel
theorem dX9_day_74 : decode cX9_day 74 = .ok (.ifCond .ge 9, 3) := by decide +kernel
theorem dX9_day_77 : decode cX9_day 77 = .ok (.aload_n 0, 1) := by decide +kernel
theorem dX9_day_78 : decode cX9_day 78 = .ok (.iconst 4, 1) := by decide +kernel
theorem dX9_day_79 : decode cX9_day 79 = .ok (.invokevirtual 108, 3) := by decide +kernel
theorem dX9_day_82 : decode cX9_day 82 = .ok (.ireturn, 1) := by decide +kernel
theorem dX9_day_83 : decode cX9_day 83 = .ok (.iload_n 3, 1) := by decide +kernel
theorem dX9_day_84 : decode cX9_day 84 = .ok (.iload 4, 2) := by decide +kernel
theorem dX9_day_86 : decode cX9_day 86 = .ok (.i2l, 1) := by decide +kernel
theorem dX9_day_87 : decode cX9_day 87 = .ok (.aload_n 0, 1) := by decide +kernel
theorem dX9_day_88 : decode cX9_day 88 = .ok (.getfield 46, 3) := by decide +kernel
theorem dX9_day_91 : decode cX9_day 91 = .ok (.iload_n 1, 1) := by decide +kernel
theorem dX9_day_92 : decode cX9_day 92 = .ok (.iaload, 1) := by decide +kernel
theorem dX9_day_93 : decode cX9_day 93 = .ok (.invokestatic 111, 3) := by decide +kernel
theorem dX9_day_96 : decode cX9_day 96 = .ok (.ifCond .eq 9, 3) := by decide +kernel
theorem dX9_day_99 : decode cX9_day 99 = .ok (.aload_n 0, 1) := by decide +kernel
theorem dX9_day_100 : decode cX9_day 100 = .ok (.iconst 3, 1) := by decide +kernel
theorem dX9_day_101 : decode cX9_day 101 = .ok (.invokevirtual 108, 3) := by decide +kernel
theorem dX9_day_104 : decode cX9_day 104 = .ok (.ireturn, 1) := by decide +kernel
theorem dX9_day_105 : decode cX9_day 105 = .ok (.aload_n 0, 1) := by decide +kernel
theorem dX9_day_106 : decode cX9_day 106 = .ok (.bipush 60, 2) := by decide +kernel
theorem dX9_day_108 : decode cX9_day 108 = .ok (.iload_n 1, 1) := by decide +kernel
theorem dX9_day_109 : decode cX9_day 109 = .ok (.imul, 1) := by decide +kernel
theorem dX9_day_110 : decode cX9_day 110 = .ok (.iload_n 3, 1) := by decide +kernel
theorem dX9_day_111 : decode cX9_day 111 = .ok (.iadd, 1) := by decide +kernel
theorem dX9_day_112 : decode cX9_day 112 = .ok (.iload 4, 2) := by decide +kernel
theorem dX9_day_114 : decode cX9_day 114 = .ok (.invokevirtual 115, 3) := by decide +kernel
theorem dX9_day_117 : decode cX9_day 117 = .ok (.ifCond .ne 15, 3) := by decide +kernel
theorem dX9_day_120 : decode cX9_day 120 = .ok (.aload_n 0, 1) := by decide +kernel
theorem dX9_day_121 : decode cX9_day 121 = .ok (.bipush (-100), 2) := by decide +kernel
theorem dX9_day_123 : decode cX9_day 123 = .ok (.aload_n 0, 1) := by decide +kernel
theorem dX9_day_124 : decode cX9_day 124 = .ok (.getfield 77, 3) := by decide +kernel
theorem dX9_day_127 : decode cX9_day 127 = .ok (.isub, 1) := by decide +kernel
theorem dX9_day_128 : decode cX9_day 128 = .ok (.invokevirtual 102, 3) := by decide +kernel
theorem dX9_day_131 : decode cX9_day 131 = .ok (.ireturn, 1) := by decide +kernel
theorem dX9_day_132 : decode cX9_day 132 = .ok (.aload_n 0, 1) := by decide +kernel
theorem dX9_day_133 : decode cX9_day 133 = .ok (.aload_n 0, 1) := by decide +kernel
theorem dX9_day_134 : decode cX9_day 134 = .ok (.getfield 91, 3) := by decide +kernel
theorem dX9_day_137 : decode cX9_day 137 = .ok (.putfield 118, 3) := by decide +kernel
theorem dX9_day_140 : decode cX9_day 140 = .ok (.aload_n 0, 1) := by decide +kernel
theorem dX9_day_141 : decode cX9_day 141 = .ok (.aload_n 0, 1) := by decide +kernel
theorem dX9_day_142 : decode cX9_day 142 = .ok (.getfield 84, 3) := by decide +kernel
theorem dX9_day_145 : decode cX9_day 145 = .ok (.putfield 68, 3) := by decide +kernel
theorem dX9_day_148 : decode cX9_day 148 = .ok (.iconst 0, 1) := by decide +kernel
theorem dX9_day_149 : decode cX9_day 149 = .ok (.istore 5, 2) := by decide +kernel
theorem dX9_day_151 : decode cX9_day 151 = .ok (.iload 5, 2) := by decide +kernel
theorem dX9_day_153 : decode cX9_day 153 = .ok (.aload_n 0, 1) := by decide +kernel
theorem dX9_day_154 : decode cX9_day 154 = .ok (.getfield 68, 3) := by decide +kernel
theorem dX9_day_157 : decode cX9_day 157 = .ok (.if_icmp .ge 60, 3) := by decide +kernel
theorem dX9_day_160 : decode cX9_day 160 = .ok (.aload_n 0, 1) := by decide +kernel
theorem dX9_day_161 : decode cX9_day 161 = .ok (.getfield 7, 3) := by decide +kernel
theorem dX9_day_164 : decode cX9_day 164 = .ok (.iload 5, 2) := by decide +kernel
theorem dX9_day_166 : decode cX9_day 166 = .ok (.aload_n 0, 1) := by decide +kernel
theorem dX9_day_167 : decode cX9_day 167 = .ok (.getfield 22, 3) := by decide +kernel
theorem dX9_day_170 : decode cX9_day 170 = .ok (.iload 5, 2) := by decide +kernel
theorem dX9_day_172 : decode cX9_day 172 = .ok (.iaload, 1) := by decide +kernel
theorem dX9_day_173 : decode cX9_day 173 = .ok (.iastore, 1) := by decide +kernel
theorem dX9_day_174 : decode cX9_day 174 = .ok (.aload_n 0, 1) := by decide +kernel
theorem dX9_day_175 : decode cX9_day 175 = .ok (.getfield 13, 3) := by decide +kernel
theorem dX9_day_178 : decode cX9_day 178 = .ok (.iload 5, 2) := by decide +kernel
theorem dX9_day_180 : decode cX9_day 180 = .ok (.aload_n 0, 1) := by decide +kernel
theorem dX9_day_181 : decode cX9_day 181 = .ok (.getfield 25, 3) := by decide +kernel
theorem dX9_day_184 : decode cX9_day 184 = .ok (.iload 5, 2) := by decide +kernel
theorem dX9_day_186 : decode cX9_day 186 = .ok (.iaload, 1) := by decide +kernel
theorem dX9_day_187 : decode cX9_day 187 = .ok (.iastore, 1) := by decide +kernel
theorem dX9_day_188 : decode cX9_day 188 = .ok (.aload_n 0, 1) := by decide +kernel
theorem dX9_day_189 : decode cX9_day 189 = .ok (.getfield 16, 3) := by decide +kernel
theorem dX9_day_192 : decode cX9_day 192 = .ok (.iload 5, 2) := by decide +kernel
theorem dX9_day_194 : decode cX9_day 194 = .ok (.aload_n 0, 1) := by decide +kernel
theorem dX9_day_195 : decode cX9_day 195 = .ok (.getfield 28, 3) := by decide +kernel
theorem dX9_day_198 : decode cX9_day 198 = .ok (.iload 5, 2) := by decide +kernel
theorem dX9_day_200 : decode cX9_day 200 = .ok (.iaload, 1) := by decide +kernel
theorem dX9_day_201 : decode cX9_day 201 = .ok (.iastore, 1) := by decide +kernel
theorem dX9_day_202 : decode cX9_day 202 = .ok (.aload_n 0, 1) := by decide +kernel
theorem dX9_day_203 : decode cX9_day 203 = .ok (.getfield 19, 3) := by decide +kernel
theorem dX9_day_206 : decode cX9_day 206 = .ok (.iload 5, 2) := by decide +kernel
theorem dX9_day_208 : decode cX9_day 208 = .ok (.bipush (-9), 2) := by decide +kernel
theorem dX9_day_210 : decode cX9_day 210 = .ok (.iastore, 1) := by decide +kernel
theorem dX9_day_211 : decode cX9_day 211 = .ok (.iinc 5 1, 3) := by decide +kernel
theorem dX9_day_214 : decode cX9_day 214 = .ok (.goto (-63), 3) := by decide +kernel
theorem dX9_day_217 : decode cX9_day 217 = .ok (.aload_n 0, 1) := by decide +kernel
theorem dX9_day_218 : decode cX9_day 218 = .ok (.lconst 0, 1) := by decide +kernel
theorem dX9_day_219 : decode cX9_day 219 = .ok (.putfield 121, 3) := by decide +kernel
theorem dX9_day_222 : decode cX9_day 222 = .ok (.aload_n 0, 1) := by decide +kernel
theorem dX9_day_223 : decode cX9_day 223 = .ok (.iconst 0, 1) := by decide +kernel
theorem dX9_day_224 : decode cX9_day 224 = .ok (.putfield 125, 3) := by decide +kernel
theorem dX9_day_227 : decode cX9_day 227 = .ok (.aload_n 0, 1) := by decide +kernel
theorem dX9_day_228 : decode cX9_day 228 = .ok (.aload_n 0, 1) := by decide +kernel
theorem dX9_day_229 : decode cX9_day 229 = .ok (.getfield 68, 3) := by decide +kernel
theorem dX9_day_232 : decode cX9_day 232 = .ok (.invokevirtual 102, 3) := by decide +kernel
theorem dX9_day_235 : decode cX9_day 235 = .ok (.ireturn, 1) := by decide +kernel
set_option maxRecDepth 20000 in
theorem ggX9_ofPerson_X9_noPerson : GoodIn wsX9_ofPerson wsX9_noPerson := goodIn_r _ [9, 10, 11, 12, 8, 13, 14, 15, 16, 17, 18, 19, 20, 21, 22, 23, 24, 25, 26, 27, 28, 29, 30, 31, 32, 33, 34, 35, 36, 37, 38, 39, 40, 41, 42, 43, 44] (by decide +kernel) (by decide +kernel)
set_option maxRecDepth 20000 in
theorem gX9_ofPerson_X9_noPerson : GoodIn wsX9_ofPerson (wsV RX9 128 RX9 yX9_noPerson wsX9_noPerson) := goodIn_app (goodIn_of _ (by decide +kernel)) ggX9_ofPerson_X9_noPerson
theorem dX9_ofPerson_0 : decode cX9_ofPerson 0 = .ok (.aload_n 0, 1) := by decide +kernel
theorem dX9_ofPerson_1 : decode cX9_ofPerson 1 = .ok (.iload_n 1, 1) := by decide +kernel
theorem dX9_ofPerson_2 : decode cX9_ofPerson 2 = .ok (.invokevirtual 128, 3) := by decide +kernel
theorem dX9_ofPerson_5 : decode cX9_ofPerson 5 = .ok (.ifCond .eq 5, 3) := by decide +kernel
theorem dX9_ofPerson_8 : decode cX9_ofPerson 8 = .ok (.iconst (-1), 1) := by decide +kernel
theorem dX9_ofPerson_9 : decode cX9_ofPerson 9 = .ok (.ireturn, 1) := by decide +kernel
theorem dX9_ofPerson_10 : decode cX9_ofPerson 10 = .ok (.iload_n 2, 1) := by decide +kernel
theorem dX9_ofPerson_11 : decode cX9_ofPerson 11 = .ok (.tableswitch 57 0 3 #[29, 36, 43, 50], 29) := by decide +kernel
theorem dX9_ofPerson_40 : decode cX9_ofPerson 40 = .ok (.aload_n 0, 1) := by decide +kernel
theorem dX9_ofPerson_41 : decode cX9_ofPerson 41 = .ok (.getfield 7, 3) := by decide +kernel
theorem dX9_ofPerson_44 : decode cX9_ofPerson 44 = .ok (.iload_n 1, 1) := by decide +kernel
theorem dX9_ofPerson_45 : decode cX9_ofPerson 45 = .ok (.iaload, 1) := by decide +kernel
theorem dX9_ofPerson_46 : decode cX9_ofPerson 46 = .ok (.ireturn, 1) := by decide +kernel
theorem dX9_ofPerson_47 : decode cX9_ofPerson 47 = .ok (.aload_n 0, 1) := by decide +kernel
theorem dX9_ofPerson_48 : decode cX9_ofPerson 48 = .ok (.getfield 13, 3) := by decide +kernel
theorem dX9_ofPerson_51 : decode cX9_ofPerson 51 = .ok (.iload_n 1, 1) := by decide +kernel
theorem dX9_ofPerson_52 : decode cX9_ofPerson 52 = .ok (.iaload, 1) := by decide +kernel
theorem dX9_ofPerson_53 : decode cX9_ofPerson 53 = .ok (.ireturn, 1) := by decide +kernel
theorem dX9_ofPerson_54 : decode cX9_ofPerson 54 = .ok (.aload_n 0, 1) := by decide +kernel
theorem dX9_ofPerson_55 : decode cX9_ofPerson 55 = .ok (.getfield 16, 3) := by decide +kernel
theorem dX9_ofPerson_58 : decode cX9_ofPerson 58 = .ok (.iload_n 1, 1) := by decide +kernel
theorem dX9_ofPerson_59 : decode cX9_ofPerson 59 = .ok (.iaload, 1) := by decide +kernel
theorem dX9_ofPerson_60 : decode cX9_ofPerson 60 = .ok (.ireturn, 1) := by decide +kernel
theorem dX9_ofPerson_61 : decode cX9_ofPerson 61 = .ok (.aload_n 0, 1) := by decide +kernel
theorem dX9_ofPerson_62 : decode cX9_ofPerson 62 = .ok (.getfield 19, 3) := by decide +kernel
theorem dX9_ofPerson_65 : decode cX9_ofPerson 65 = .ok (.iload_n 1, 1) := by decide +kernel
theorem dX9_ofPerson_66 : decode cX9_ofPerson 66 = .ok (.iaload, 1) := by decide +kernel
theorem dX9_ofPerson_67 : decode cX9_ofPerson 67 = .ok (.ireturn, 1) := by decide +kernel
theorem dX9_ofPerson_68 : decode cX9_ofPerson 68 = .ok (.bipush (-2), 2) := by decide +kernel
theorem dX9_ofPerson_70 : decode cX9_ofPerson 70 = .ok (.ireturn, 1) := by decide +kernel
set_option maxRecDepth 20000 in
theorem ggX9_come_X9_noPerson : GoodIn wsX9_come wsX9_noPerson := goodIn_r _ [6, 7, 8, 9, 5, 10, 15, 16, 17, 18, 19, 20, 21, 22, 23, 24, 25, 26, 27, 28, 29, 30, 31, 32, 33, 34, 35, 36, 37, 38, 39, 40, 41, 42, 43, 44, 45] (by decide +kernel) (by decide +kernel)
set_option maxRecDepth 20000 in
theorem gX9_come_X9_noPerson : GoodIn wsX9_come (wsV RX9 128 RX9 yX9_noPerson wsX9_noPerson) := goodIn_app (goodIn_of _ (by decide +kernel)) ggX9_come_X9_noPerson
set_option maxRecDepth 20000 in
theorem ggX9_come_X9_isMinute : GoodIn wsX9_come wsX9_isMinute := goodIn_r _ [13, 14, 8, 9, 5, 10] (by decide +kernel) (by decide +kernel)
set_option maxRecDepth 20000 in
theorem gX9_come_X9_isMinute : GoodIn wsX9_come (va_wsS RX9 131 yX9_isMinute wsX9_isMinute) := goodIn_app (goodIn_of _ (by decide +kernel)) ggX9_come_X9_isMinute
theorem dX9_come_0 : decode cX9_come 0 = .ok (.aload_n 0, 1) := by decide +kernel
theorem dX9_come_1 : decode cX9_come 1 = .ok (.iload_n 1, 1) := by decide +kernel
theorem dX9_come_2 : decode cX9_come 2 = .ok (.invokevirtual 128, 3) := by decide +kernel
theorem dX9_come_5 : decode cX9_come 5 = .ok (.ifCond .eq 5, 3) := by decide +kernel
theorem dX9_come_8 : decode cX9_come 8 = .ok (.iconst (-1), 1) := by decide +kernel
theorem dX9_come_9 : decode cX9_come 9 = .ok (.ireturn, 1) := by decide +kernel
theorem dX9_come_10 : decode cX9_come 10 = .ok (.iload_n 2, 1) := by decide +kernel
theorem dX9_come_11 : decode cX9_come 11 = .ok (.invokestatic 131, 3) := by decide +kernel
theorem dX9_come_14 : decode cX9_come 14 = .ok (.ifCond .ne 6, 3) := by decide +kernel
theorem dX9_come_17 : decode cX9_come 17 = .ok (.bipush (-2), 2) := by decide +kernel
theorem dX9_come_19 : decode cX9_come 19 = .ok (.ireturn, 1) := by decide +kernel
theorem dX9_come_20 : decode cX9_come 20 = .ok (.aload_n 0, 1) := by decide +kernel
theorem dX9_come_21 : decode cX9_come 21 = .ok (.getfield 13, 3) := by decide +kernel
theorem dX9_come_24 : decode cX9_come 24 = .ok (.iload_n 1, 1) := by decide +kernel
theorem dX9_come_25 : decode cX9_come 25 = .ok (.iaload, 1) := by decide +kernel
theorem dX9_come_26 : decode cX9_come 26 = .ok (.istore_n 3, 1) := by decide +kernel
theorem dX9_come_27 : decode cX9_come 27 = .ok (.aload_n 0, 1) := by decide +kernel
theorem dX9_come_28 : decode cX9_come 28 = .ok (.getfield 13, 3) := by decide +kernel
theorem dX9_come_31 : decode cX9_come 31 = .ok (.iload_n 1, 1) := by decide +kernel
theorem dX9_come_32 : decode cX9_come 32 = .ok (.iload_n 2, 1) := by decide +kernel
theorem dX9_come_33 : decode cX9_come 33 = .ok (.iastore, 1) := by decide +kernel
theorem dX9_come_34 : decode cX9_come 34 = .ok (.iload_n 3, 1) := by decide +kernel
theorem dX9_come_35 : decode cX9_come 35 = .ok (.ireturn, 1) := by decide +kernel
set_option maxRecDepth 20000 in
theorem ggX9_runOut_X9_noPerson : GoodIn wsX9_runOut wsX9_noPerson := goodIn_r _ [6, 7, 8, 9, 5, 10, 15, 16, 17, 18, 19, 20, 21, 22, 23, 24, 25, 26, 27, 28, 29, 30, 31, 32, 33, 34, 35, 36, 37, 38, 39, 40, 41, 42, 43, 44, 45] (by decide +kernel) (by decide +kernel)
set_option maxRecDepth 20000 in
theorem gX9_runOut_X9_noPerson : GoodIn wsX9_runOut (wsV RX9 128 RX9 yX9_noPerson wsX9_noPerson) := goodIn_app (goodIn_of _ (by decide +kernel)) ggX9_runOut_X9_noPerson
set_option maxRecDepth 20000 in
theorem ggX9_runOut_X9_isMinute : GoodIn wsX9_runOut wsX9_isMinute := goodIn_r _ [13, 14, 8, 9, 5, 10] (by decide +kernel) (by decide +kernel)
set_option maxRecDepth 20000 in
theorem gX9_runOut_X9_isMinute : GoodIn wsX9_runOut (va_wsS RX9 131 yX9_isMinute wsX9_isMinute) := goodIn_app (goodIn_of _ (by decide +kernel)) ggX9_runOut_X9_isMinute
theorem dX9_runOut_0 : decode cX9_runOut 0 = .ok (.aload_n 0, 1) := by decide +kernel
theorem dX9_runOut_1 : decode cX9_runOut 1 = .ok (.iload_n 1, 1) := by decide +kernel
theorem dX9_runOut_2 : decode cX9_runOut 2 = .ok (.invokevirtual 128, 3) := by decide +kernel
theorem dX9_runOut_5 : decode cX9_runOut 5 = .ok (.ifCond .eq 5, 3) := by decide +kernel
theorem dX9_runOut_8 : decode cX9_runOut 8 = .ok (.iconst (-1), 1) := by decide +kernel
theorem dX9_runOut_9 : decode cX9_runOut 9 = .ok (.ireturn, 1) := by decide +kernel
theorem dX9_runOut_10 : decode cX9_runOut 10 = .ok (.iload_n 2, 1) := by decide +kernel
theorem dX9_runOut_11 : decode cX9_runOut 11 = .ok (.bipush (-9), 2) := by decide +kernel
theorem dX9_runOut_13 : decode cX9_runOut 13 = .ok (.if_icmp .eq 13, 3) := by decide +kernel
theorem dX9_runOut_16 : decode cX9_runOut 16 = .ok (.iload_n 2, 1) := by decide +kernel
theorem dX9_runOut_17 : decode cX9_runOut 17 = .ok (.invokestatic 131, 3) := by decide +kernel
theorem dX9_runOut_20 : decode cX9_runOut 20 = .ok (.ifCond .ne 6, 3) := by decide +kernel
theorem dX9_runOut_23 : decode cX9_runOut 23 = .ok (.bipush (-2), 2) := by decide +kernel
theorem dX9_runOut_25 : decode cX9_runOut 25 = .ok (.ireturn, 1) := by decide +kernel
theorem dX9_runOut_26 : decode cX9_runOut 26 = .ok (.aload_n 0, 1) := by decide +kernel
theorem dX9_runOut_27 : decode cX9_runOut 27 = .ok (.getfield 19, 3) := by decide +kernel
theorem dX9_runOut_30 : decode cX9_runOut 30 = .ok (.iload_n 1, 1) := by decide +kernel
theorem dX9_runOut_31 : decode cX9_runOut 31 = .ok (.iaload, 1) := by decide +kernel
theorem dX9_runOut_32 : decode cX9_runOut 32 = .ok (.istore_n 3, 1) := by decide +kernel
theorem dX9_runOut_33 : decode cX9_runOut 33 = .ok (.aload_n 0, 1) := by decide +kernel
theorem dX9_runOut_34 : decode cX9_runOut 34 = .ok (.getfield 19, 3) := by decide +kernel
theorem dX9_runOut_37 : decode cX9_runOut 37 = .ok (.iload_n 1, 1) := by decide +kernel
theorem dX9_runOut_38 : decode cX9_runOut 38 = .ok (.iload_n 2, 1) := by decide +kernel
theorem dX9_runOut_39 : decode cX9_runOut 39 = .ok (.iastore, 1) := by decide +kernel
theorem dX9_runOut_40 : decode cX9_runOut 40 = .ok (.iload_n 3, 1) := by decide +kernel
theorem dX9_runOut_41 : decode cX9_runOut 41 = .ok (.ireturn, 1) := by decide +kernel
theorem dX9_isBell_0 : decode cX9_isBell 0 = .ok (.iload_n 2, 1) := by decide +kernel
theorem dX9_isBell_1 : decode cX9_isBell 1 = .ok (.bipush 60, 2) := by decide +kernel
theorem dX9_isBell_3 : decode cX9_isBell 3 = .ok (.if_icmp .ge 17, 3) := by decide +kernel
theorem dX9_isBell_6 : decode cX9_isBell 6 = .ok (.lload_n 0, 1) := by decide +kernel
theorem dX9_isBell_7 : decode cX9_isBell 7 = .ok (.iload_n 2, 1) := by decide +kernel
theorem dX9_isBell_8 : decode cX9_isBell 8 = .ok (.lshr, 1) := by decide +kernel
theorem dX9_isBell_9 : decode cX9_isBell 9 = .ok (.lconst 1, 1) := by decide +kernel
theorem dX9_isBell_10 : decode cX9_isBell 10 = .ok (.land, 1) := by decide +kernel
theorem dX9_isBell_11 : decode cX9_isBell 11 = .ok (.lconst 1, 1) := by decide +kernel
theorem dX9_isBell_12 : decode cX9_isBell 12 = .ok (.lcmp, 1) := by decide +kernel
theorem dX9_isBell_13 : decode cX9_isBell 13 = .ok (.ifCond .ne 7, 3) := by decide +kernel
theorem dX9_isBell_16 : decode cX9_isBell 16 = .ok (.iconst 1, 1) := by decide +kernel
theorem dX9_isBell_17 : decode cX9_isBell 17 = .ok (.goto 4, 3) := by decide +kernel
theorem dX9_isBell_20 : decode cX9_isBell 20 = .ok (.iconst 0, 1) := by decide +kernel
theorem dX9_isBell_21 : decode cX9_isBell 21 = .ok (.ireturn, 1) := by decide +kernel
set_option maxRecDepth 20000 in
theorem ggX9_bell_X9_isMinute : GoodIn wsX9_bell wsX9_isMinute := goodIn_r _ [7, 8, 9, 10, 6, 11] (by decide +kernel) (by decide +kernel)
set_option maxRecDepth 20000 in
theorem gX9_bell_X9_isMinute : GoodIn wsX9_bell (va_wsS RX9 131 yX9_isMinute wsX9_isMinute) := goodIn_app (goodIn_of _ (by decide +kernel)) ggX9_bell_X9_isMinute
set_option maxRecDepth 20000 in
theorem ggX9_bell_X9_isBell : GoodIn wsX9_bell wsX9_isBell := goodIn_r _ [14] (by decide +kernel) (by decide +kernel)
set_option maxRecDepth 20000 in
theorem gX9_bell_X9_isBell : GoodIn wsX9_bell (va_wsS RX9 134 yX9_isBell wsX9_isBell) := goodIn_app (goodIn_of _ (by decide +kernel)) ggX9_bell_X9_isBell
theorem dX9_bell_0 : decode cX9_bell 0 = .ok (.iload_n 1, 1) := by decide +kernel
theorem dX9_bell_1 : decode cX9_bell 1 = .ok (.invokestatic 131, 3) := by decide +kernel
theorem dX9_bell_4 : decode cX9_bell 4 = .ok (.ifCond .ne 5, 3) := by decide +kernel
theorem dX9_bell_7 : decode cX9_bell 7 = .ok (.iconst (-1), 1) := by decide +kernel
theorem dX9_bell_8 : decode cX9_bell 8 = .ok (.ireturn, 1) := by decide +kernel
theorem dX9_bell_9 : decode cX9_bell 9 = .ok (.aload_n 0, 1) := by decide +kernel
theorem dX9_bell_10 : decode cX9_bell 10 = .ok (.getfield 68, 3) := by decide +kernel
theorem dX9_bell_13 : decode cX9_bell 13 = .ok (.ifCond .ne 6, 3) := by decide +kernel
theorem dX9_bell_16 : decode cX9_bell 16 = .ok (.bipush (-3), 2) := by decide +kernel
theorem dX9_bell_18 : decode cX9_bell 18 = .ok (.ireturn, 1) := by decide +kernel
theorem dX9_bell_19 : decode cX9_bell 19 = .ok (.aload_n 0, 1) := by decide +kernel
theorem dX9_bell_20 : decode cX9_bell 20 = .ok (.getfield 121, 3) := by decide +kernel
theorem dX9_bell_23 : decode cX9_bell 23 = .ok (.iload_n 1, 1) := by decide +kernel
theorem dX9_bell_24 : decode cX9_bell 24 = .ok (.invokestatic 134, 3) := by decide +kernel
theorem dX9_bell_27 : decode cX9_bell 27 = .ok (.istore_n 3, 1) := by decide +kernel
theorem dX9_bell_28 : decode cX9_bell 28 = .ok (.lconst 1, 1) := by decide +kernel
theorem dX9_bell_29 : decode cX9_bell 29 = .ok (.iload_n 1, 1) := by decide +kernel
theorem dX9_bell_30 : decode cX9_bell 30 = .ok (.lshl, 1) := by decide +kernel
theorem dX9_bell_31 : decode cX9_bell 31 = .ok (.lstore 4, 2) := by decide +kernel
theorem dX9_bell_33 : decode cX9_bell 33 = .ok (.aload_n 0, 1) := by decide +kernel
theorem dX9_bell_34 : decode cX9_bell 34 = .ok (.iload_n 2, 1) := by decide +kernel
theorem dX9_bell_35 : decode cX9_bell 35 = .ok (.ifCond .eq 13, 3) := by decide +kernel
theorem dX9_bell_38 : decode cX9_bell 38 = .ok (.aload_n 0, 1) := by decide +kernel
theorem dX9_bell_39 : decode cX9_bell 39 = .ok (.getfield 121, 3) := by decide +kernel
theorem dX9_bell_42 : decode cX9_bell 42 = .ok (.lload 4, 2) := by decide +kernel
theorem dX9_bell_44 : decode cX9_bell 44 = .ok (.lor, 1) := by decide +kernel
theorem dX9_bell_45 : decode cX9_bell 45 = .ok (.goto 14, 3) := by decide +kernel
theorem dX9_bell_48 : decode cX9_bell 48 = .ok (.aload_n 0, 1) := by decide +kernel
theorem dX9_bell_49 : decode cX9_bell 49 = .ok (.getfield 121, 3) := by decide +kernel
theorem dX9_bell_52 : decode cX9_bell 52 = .ok (.lload 4, 2) := by decide +kernel
theorem dX9_bell_54 : decode cX9_bell 54 = .ok (.ldc2_w 138, 3) := by decide +kernel
theorem dX9_bell_57 : decode cX9_bell 57 = .ok (.lxor, 1) := by decide +kernel
theorem dX9_bell_58 : decode cX9_bell 58 = .ok (.land, 1) := by decide +kernel
theorem dX9_bell_59 : decode cX9_bell 59 = .ok (.putfield 121, 3) := by decide +kernel
theorem dX9_bell_62 : decode cX9_bell 62 = .ok (.iload_n 3, 1) := by decide +kernel
theorem dX9_bell_63 : decode cX9_bell 63 = .ok (.iload_n 2, 1) := by decide +kernel
theorem dX9_bell_64 : decode cX9_bell 64 = .ok (.if_icmp .ne 7, 3) := by decide +kernel
theorem dX9_bell_67 : decode cX9_bell 67 = .ok (.iconst 0, 1) := by decide +kernel
theorem dX9_bell_68 : decode cX9_bell 68 = .ok (.goto 4, 3) := by decide +kernel
theorem dX9_bell_71 : decode cX9_bell 71 = .ok (.iconst 1, 1) := by decide +kernel
theorem dX9_bell_72 : decode cX9_bell 72 = .ok (.ireturn, 1) := by decide +kernel
theorem dX9_bells_0 : decode cX9_bells 0 = .ok (.aload_n 0, 1) := by decide +kernel
theorem dX9_bells_1 : decode cX9_bells 1 = .ok (.getfield 121, 3) := by decide +kernel
theorem dX9_bells_4 : decode cX9_bells 4 = .ok (.lreturn, 1) := by decide +kernel
theorem dX9_begin_0 : decode cX9_begin 0 = .ok (.aload_n 0, 1) := by decide +kernel
theorem dX9_begin_1 : decode cX9_begin 1 = .ok (.iconst 0, 1) := by decide +kernel
theorem dX9_begin_2 : decode cX9_begin 2 = .ok (.putfield 140, 3) := by decide +kernel
theorem dX9_begin_5 : decode cX9_begin 5 = .ok (.aload_n 0, 1) := by decide +kernel
theorem dX9_begin_6 : decode cX9_begin 6 = .ok (.bipush (-9), 2) := by decide +kernel
theorem dX9_begin_8 : decode cX9_begin 8 = .ok (.putfield 143, 3) := by decide +kernel
theorem dX9_begin_11 : decode cX9_begin 11 = .ok (.iconst 0, 1) := by decide +kernel
theorem dX9_begin_12 : decode cX9_begin 12 = .ok (.istore_n 1, 1) := by decide +kernel
theorem dX9_begin_13 : decode cX9_begin 13 = .ok (.iload_n 1, 1) := by decide +kernel
theorem dX9_begin_14 : decode cX9_begin 14 = .ok (.bipush 7, 2) := by decide +kernel
theorem dX9_begin_16 : decode cX9_begin 16 = .ok (.if_icmp .ge 17, 3) := by decide +kernel
theorem dX9_begin_19 : decode cX9_begin 19 = .ok (.aload_n 0, 1) := by decide +kernel
theorem dX9_begin_20 : decode cX9_begin 20 = .ok (.getfield 34, 3) := by decide +kernel
theorem dX9_begin_23 : decode cX9_begin 23 = .ok (.iload_n 1, 1) := by decide +kernel
theorem dX9_begin_24 : decode cX9_begin 24 = .ok (.bipush (-9), 2) := by decide +kernel
theorem dX9_begin_26 : decode cX9_begin 26 = .ok (.iastore, 1) := by decide +kernel
theorem dX9_begin_27 : decode cX9_begin 27 = .ok (.iinc 1 1, 3) := by decide +kernel
theorem dX9_begin_30 : decode cX9_begin 30 = .ok (.goto (-17), 3) := by decide +kernel
theorem dX9_begin_33 : decode cX9_begin 33 = .ok (.return_, 1) := by decide +kernel
theorem dX9_placeOf_0 : decode cX9_placeOf 0 = .ok (.iconst 0, 1) := by decide +kernel
theorem dX9_placeOf_1 : decode cX9_placeOf 1 = .ok (.istore_n 2, 1) := by decide +kernel
theorem dX9_placeOf_2 : decode cX9_placeOf 2 = .ok (.iload_n 2, 1) := by decide +kernel
theorem dX9_placeOf_3 : decode cX9_placeOf 3 = .ok (.aload_n 0, 1) := by decide +kernel
theorem dX9_placeOf_4 : decode cX9_placeOf 4 = .ok (.getfield 140, 3) := by decide +kernel
theorem dX9_placeOf_7 : decode cX9_placeOf 7 = .ok (.if_icmp .ge 21, 3) := by decide +kernel
theorem dX9_placeOf_10 : decode cX9_placeOf 10 = .ok (.aload_n 0, 1) := by decide +kernel
theorem dX9_placeOf_11 : decode cX9_placeOf 11 = .ok (.getfield 31, 3) := by decide +kernel
theorem dX9_placeOf_14 : decode cX9_placeOf 14 = .ok (.iload_n 2, 1) := by decide +kernel
theorem dX9_placeOf_15 : decode cX9_placeOf 15 = .ok (.iaload, 1) := by decide +kernel
theorem dX9_placeOf_16 : decode cX9_placeOf 16 = .ok (.iload_n 1, 1) := by decide +kernel
theorem dX9_placeOf_17 : decode cX9_placeOf 17 = .ok (.if_icmp .ne 5, 3) := by decide +kernel
theorem dX9_placeOf_20 : decode cX9_placeOf 20 = .ok (.iload_n 2, 1) := by decide +kernel
theorem dX9_placeOf_21 : decode cX9_placeOf 21 = .ok (.ireturn, 1) := by decide +kernel
theorem dX9_placeOf_22 : decode cX9_placeOf 22 = .ok (.iinc 2 1, 3) := by decide +kernel
theorem dX9_placeOf_25 : decode cX9_placeOf 25 = .ok (.goto (-23), 3) := by decide +kernel
theorem dX9_placeOf_28 : decode cX9_placeOf 28 = .ok (.bipush (-9), 2) := by decide +kernel
theorem dX9_placeOf_30 : decode cX9_placeOf 30 = .ok (.ireturn, 1) := by decide +kernel
theorem dX9_takeOut_0 : decode cX9_takeOut 0 = .ok (.iload_n 1, 1) := by decide +kernel
theorem dX9_takeOut_1 : decode cX9_takeOut 1 = .ok (.istore_n 2, 1) := by decide +kernel
theorem dX9_takeOut_2 : decode cX9_takeOut 2 = .ok (.iload_n 2, 1) := by decide +kernel
theorem dX9_takeOut_3 : decode cX9_takeOut 3 = .ok (.iconst 1, 1) := by decide +kernel
theorem dX9_takeOut_4 : decode cX9_takeOut 4 = .ok (.iadd, 1) := by decide +kernel
theorem dX9_takeOut_5 : decode cX9_takeOut 5 = .ok (.aload_n 0, 1) := by decide +kernel
theorem dX9_takeOut_6 : decode cX9_takeOut 6 = .ok (.getfield 140, 3) := by decide +kernel
theorem dX9_takeOut_9 : decode cX9_takeOut 9 = .ok (.if_icmp .ge 23, 3) := by decide +kernel
theorem dX9_takeOut_12 : decode cX9_takeOut 12 = .ok (.aload_n 0, 1) := by decide +kernel
theorem dX9_takeOut_13 : decode cX9_takeOut 13 = .ok (.getfield 31, 3) := by decide +kernel
theorem dX9_takeOut_16 : decode cX9_takeOut 16 = .ok (.iload_n 2, 1) := by decide +kernel
theorem dX9_takeOut_17 : decode cX9_takeOut 17 = .ok (.aload_n 0, 1) := by decide +kernel
theorem dX9_takeOut_18 : decode cX9_takeOut 18 = .ok (.getfield 31, 3) := by decide +kernel
theorem dX9_takeOut_21 : decode cX9_takeOut 21 = .ok (.iload_n 2, 1) := by decide +kernel
theorem dX9_takeOut_22 : decode cX9_takeOut 22 = .ok (.iconst 1, 1) := by decide +kernel
theorem dX9_takeOut_23 : decode cX9_takeOut 23 = .ok (.iadd, 1) := by decide +kernel
theorem dX9_takeOut_24 : decode cX9_takeOut 24 = .ok (.iaload, 1) := by decide +kernel
theorem dX9_takeOut_25 : decode cX9_takeOut 25 = .ok (.iastore, 1) := by decide +kernel
theorem dX9_takeOut_26 : decode cX9_takeOut 26 = .ok (.iinc 2 1, 3) := by decide +kernel
theorem dX9_takeOut_29 : decode cX9_takeOut 29 = .ok (.goto (-27), 3) := by decide +kernel
theorem dX9_takeOut_32 : decode cX9_takeOut 32 = .ok (.aload_n 0, 1) := by decide +kernel
theorem dX9_takeOut_33 : decode cX9_takeOut 33 = .ok (.dup, 1) := by decide +kernel
theorem dX9_takeOut_34 : decode cX9_takeOut 34 = .ok (.getfield 140, 3) := by decide +kernel
theorem dX9_takeOut_37 : decode cX9_takeOut 37 = .ok (.iconst 1, 1) := by decide +kernel
theorem dX9_takeOut_38 : decode cX9_takeOut 38 = .ok (.isub, 1) := by decide +kernel
theorem dX9_takeOut_39 : decode cX9_takeOut 39 = .ok (.putfield 140, 3) := by decide +kernel
theorem dX9_takeOut_42 : decode cX9_takeOut 42 = .ok (.return_, 1) := by decide +kernel
theorem dX9_standAt_0 : decode cX9_standAt 0 = .ok (.aload_n 0, 1) := by decide +kernel
theorem dX9_standAt_1 : decode cX9_standAt 1 = .ok (.getfield 140, 3) := by decide +kernel
theorem dX9_standAt_4 : decode cX9_standAt 4 = .ok (.istore_n 3, 1) := by decide +kernel
theorem dX9_standAt_5 : decode cX9_standAt 5 = .ok (.iload_n 3, 1) := by decide +kernel
theorem dX9_standAt_6 : decode cX9_standAt 6 = .ok (.iload_n 1, 1) := by decide +kernel
theorem dX9_standAt_7 : decode cX9_standAt 7 = .ok (.if_icmp .le 23, 3) := by decide +kernel
theorem dX9_standAt_10 : decode cX9_standAt 10 = .ok (.aload_n 0, 1) := by decide +kernel
theorem dX9_standAt_11 : decode cX9_standAt 11 = .ok (.getfield 31, 3) := by decide +kernel
theorem dX9_standAt_14 : decode cX9_standAt 14 = .ok (.iload_n 3, 1) := by decide +kernel
theorem dX9_standAt_15 : decode cX9_standAt 15 = .ok (.aload_n 0, 1) := by decide +kernel
theorem dX9_standAt_16 : decode cX9_standAt 16 = .ok (.getfield 31, 3) := by decide +kernel
theorem dX9_standAt_19 : decode cX9_standAt 19 = .ok (.iload_n 3, 1) := by decide +kernel
theorem dX9_standAt_20 : decode cX9_standAt 20 = .ok (.iconst 1, 1) := by decide +kernel
theorem dX9_standAt_21 : decode cX9_standAt 21 = .ok (.isub, 1) := by decide +kernel
theorem dX9_standAt_22 : decode cX9_standAt 22 = .ok (.iaload, 1) := by decide +kernel
theorem dX9_standAt_23 : decode cX9_standAt 23 = .ok (.iastore, 1) := by decide +kernel
theorem dX9_standAt_24 : decode cX9_standAt 24 = .ok (.iinc 3 (-1), 3) := by decide +kernel
theorem dX9_standAt_27 : decode cX9_standAt 27 = .ok (.goto (-22), 3) := by decide +kernel
theorem dX9_standAt_30 : decode cX9_standAt 30 = .ok (.aload_n 0, 1) := by decide +kernel
theorem dX9_standAt_31 : decode cX9_standAt 31 = .ok (.getfield 31, 3) := by decide +kernel
theorem dX9_standAt_34 : decode cX9_standAt 34 = .ok (.iload_n 1, 1) := by decide +kernel
theorem dX9_standAt_35 : decode cX9_standAt 35 = .ok (.iload_n 2, 1) := by decide +kernel
theorem dX9_standAt_36 : decode cX9_standAt 36 = .ok (.iastore, 1) := by decide +kernel
theorem dX9_standAt_37 : decode cX9_standAt 37 = .ok (.aload_n 0, 1) := by decide +kernel
theorem dX9_standAt_38 : decode cX9_standAt 38 = .ok (.dup, 1) := by decide +kernel
