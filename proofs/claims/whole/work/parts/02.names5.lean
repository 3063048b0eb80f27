theorem dX9_standAt_39 : decode cX9_standAt 39 = .ok (.getfield 140, 3) := by decide +kernel
theorem dX9_standAt_42 : decode cX9_standAt 42 = .ok (.iconst 1, 1) := by decide +kernel
theorem dX9_standAt_43 : decode cX9_standAt 43 = .ok (.iadd, 1) := by decide +kernel
theorem dX9_standAt_44 : decode cX9_standAt 44 = .ok (.putfield 140, 3) := by decide +kernel
theorem dX9_standAt_47 : decode cX9_standAt 47 = .ok (.return_, 1) := by decide +kernel
theorem dX9_placeFor_0 : decode cX9_placeFor 0 = .ok (.aload_n 0, 1) := by decide +kernel
theorem dX9_placeFor_1 : decode cX9_placeFor 1 = .ok (.getfield 7, 3) := by decide +kernel
theorem dX9_placeFor_4 : decode cX9_placeFor 4 = .ok (.iload_n 1, 1) := by decide +kernel
theorem dX9_placeFor_5 : decode cX9_placeFor 5 = .ok (.iaload, 1) := by decide +kernel
theorem dX9_placeFor_6 : decode cX9_placeFor 6 = .ok (.iconst 1, 1) := by decide +kernel
theorem dX9_placeFor_7 : decode cX9_placeFor 7 = .ok (.if_icmp .ne 21, 3) := by decide +kernel
theorem dX9_placeFor_10 : decode cX9_placeFor 10 = .ok (.aload_n 0, 1) := by decide +kernel
theorem dX9_placeFor_11 : decode cX9_placeFor 11 = .ok (.getfield 140, 3) := by decide +kernel
theorem dX9_placeFor_14 : decode cX9_placeFor 14 = .ok (.ifCond .ne 7, 3) := by decide +kernel
theorem dX9_placeFor_17 : decode cX9_placeFor 17 = .ok (.iconst 0, 1) := by decide +kernel
theorem dX9_placeFor_18 : decode cX9_placeFor 18 = .ok (.goto 9, 3) := by decide +kernel
theorem dX9_placeFor_21 : decode cX9_placeFor 21 = .ok (.aload_n 0, 1) := by decide +kernel
theorem dX9_placeFor_22 : decode cX9_placeFor 22 = .ok (.getfield 140, 3) := by decide +kernel
theorem dX9_placeFor_25 : decode cX9_placeFor 25 = .ok (.iconst 1, 1) := by decide +kernel
theorem dX9_placeFor_26 : decode cX9_placeFor 26 = .ok (.isub, 1) := by decide +kernel
theorem dX9_placeFor_27 : decode cX9_placeFor 27 = .ok (.ireturn, 1) := by decide +kernel
theorem dX9_placeFor_28 : decode cX9_placeFor 28 = .ok (.aload_n 0, 1) := by decide +kernel
theorem dX9_placeFor_29 : decode cX9_placeFor 29 = .ok (.getfield 7, 3) := by decide +kernel
theorem dX9_placeFor_32 : decode cX9_placeFor 32 = .ok (.iload_n 1, 1) := by decide +kernel
theorem dX9_placeFor_33 : decode cX9_placeFor 33 = .ok (.iaload, 1) := by decide +kernel
theorem dX9_placeFor_34 : decode cX9_placeFor 34 = .ok (.iconst 2, 1) := by decide +kernel
theorem dX9_placeFor_35 : decode cX9_placeFor 35 = .ok (.if_icmp .ne 37, 3) := by decide +kernel
theorem dX9_placeFor_38 : decode cX9_placeFor 38 = .ok (.iconst 0, 1) := by decide +kernel
theorem dX9_placeFor_39 : decode cX9_placeFor 39 = .ok (.istore_n 2, 1) := by decide +kernel
theorem dX9_placeFor_40 : decode cX9_placeFor 40 = .ok (.iload_n 2, 1) := by decide +kernel
theorem dX9_placeFor_41 : decode cX9_placeFor 41 = .ok (.aload_n 0, 1) := by decide +kernel
theorem dX9_placeFor_42 : decode cX9_placeFor 42 = .ok (.getfield 140, 3) := by decide +kernel
theorem dX9_placeFor_45 : decode cX9_placeFor 45 = .ok (.if_icmp .ge 27, 3) := by decide +kernel
theorem dX9_placeFor_48 : decode cX9_placeFor 48 = .ok (.aload_n 0, 1) := by decide +kernel
theorem dX9_placeFor_49 : decode cX9_placeFor 49 = .ok (.getfield 7, 3) := by decide +kernel
theorem dX9_placeFor_52 : decode cX9_placeFor 52 = .ok (.aload_n 0, 1) := by decide +kernel
theorem dX9_placeFor_53 : decode cX9_placeFor 53 = .ok (.getfield 31, 3) := by decide +kernel
theorem dX9_placeFor_56 : decode cX9_placeFor 56 = .ok (.iload_n 2, 1) := by decide +kernel
theorem dX9_placeFor_57 : decode cX9_placeFor 57 = .ok (.iaload, 1) := by decide +kernel
theorem dX9_placeFor_58 : decode cX9_placeFor 58 = .ok (.iaload, 1) := by decide +kernel
theorem dX9_placeFor_59 : decode cX9_placeFor 59 = .ok (.ifCond .le 7, 3) := by decide +kernel
theorem dX9_placeFor_62 : decode cX9_placeFor 62 = .ok (.iload_n 2, 1) := by decide +kernel
theorem dX9_placeFor_63 : decode cX9_placeFor 63 = .ok (.iconst 1, 1) := by decide +kernel
theorem dX9_placeFor_64 : decode cX9_placeFor 64 = .ok (.iadd, 1) := by decide +kernel
theorem dX9_placeFor_65 : decode cX9_placeFor 65 = .ok (.ireturn, 1) := by decide +kernel
theorem dX9_placeFor_66 : decode cX9_placeFor 66 = .ok (.iinc 2 1, 3) := by decide +kernel
theorem dX9_placeFor_69 : decode cX9_placeFor 69 = .ok (.goto (-29), 3) := by decide +kernel
theorem dX9_placeFor_72 : decode cX9_placeFor 72 = .ok (.aload_n 0, 1) := by decide +kernel
theorem dX9_placeFor_73 : decode cX9_placeFor 73 = .ok (.getfield 140, 3) := by decide +kernel
theorem dX9_placeFor_76 : decode cX9_placeFor 76 = .ok (.ireturn, 1) := by decide +kernel
theorem dX9_turnFirst_0 : decode cX9_turnFirst 0 = .ok (.iconst 0, 1) := by decide +kernel
theorem dX9_turnFirst_1 : decode cX9_turnFirst 1 = .ok (.istore_n 2, 1) := by decide +kernel
theorem dX9_turnFirst_2 : decode cX9_turnFirst 2 = .ok (.iload_n 2, 1) := by decide +kernel
theorem dX9_turnFirst_3 : decode cX9_turnFirst 3 = .ok (.iload_n 1, 1) := by decide +kernel
theorem dX9_turnFirst_4 : decode cX9_turnFirst 4 = .ok (.iconst 2, 1) := by decide +kernel
theorem dX9_turnFirst_5 : decode cX9_turnFirst 5 = .ok (.idiv, 1) := by decide +kernel
theorem dX9_turnFirst_6 : decode cX9_turnFirst 6 = .ok (.if_icmp .ge 43, 3) := by decide +kernel
theorem dX9_turnFirst_9 : decode cX9_turnFirst 9 = .ok (.aload_n 0, 1) := by decide +kernel
theorem dX9_turnFirst_10 : decode cX9_turnFirst 10 = .ok (.getfield 31, 3) := by decide +kernel
theorem dX9_turnFirst_13 : decode cX9_turnFirst 13 = .ok (.iload_n 2, 1) := by decide +kernel
theorem dX9_turnFirst_14 : decode cX9_turnFirst 14 = .ok (.iaload, 1) := by decide +kernel
theorem dX9_turnFirst_15 : decode cX9_turnFirst 15 = .ok (.istore_n 3, 1) := by decide +kernel
theorem dX9_turnFirst_16 : decode cX9_turnFirst 16 = .ok (.aload_n 0, 1) := by decide +kernel
theorem dX9_turnFirst_17 : decode cX9_turnFirst 17 = .ok (.getfield 31, 3) := by decide +kernel
theorem dX9_turnFirst_20 : decode cX9_turnFirst 20 = .ok (.iload_n 2, 1) := by decide +kernel
theorem dX9_turnFirst_21 : decode cX9_turnFirst 21 = .ok (.aload_n 0, 1) := by decide +kernel
theorem dX9_turnFirst_22 : decode cX9_turnFirst 22 = .ok (.getfield 31, 3) := by decide +kernel
theorem dX9_turnFirst_25 : decode cX9_turnFirst 25 = .ok (.iload_n 1, 1) := by decide +kernel
theorem dX9_turnFirst_26 : decode cX9_turnFirst 26 = .ok (.iconst 1, 1) := by decide +kernel
theorem dX9_turnFirst_27 : decode cX9_turnFirst 27 = .ok (.isub, 1) := by decide +kernel
theorem dX9_turnFirst_28 : decode cX9_turnFirst 28 = .ok (.iload_n 2, 1) := by decide +kernel
theorem dX9_turnFirst_29 : decode cX9_turnFirst 29 = .ok (.isub, 1) := by decide +kernel
theorem dX9_turnFirst_30 : decode cX9_turnFirst 30 = .ok (.iaload, 1) := by decide +kernel
theorem dX9_turnFirst_31 : decode cX9_turnFirst 31 = .ok (.iastore, 1) := by decide +kernel
theorem dX9_turnFirst_32 : decode cX9_turnFirst 32 = .ok (.aload_n 0, 1) := by decide +kernel
theorem dX9_turnFirst_33 : decode cX9_turnFirst 33 = .ok (.getfield 31, 3) := by decide +kernel
theorem dX9_turnFirst_36 : decode cX9_turnFirst 36 = .ok (.iload_n 1, 1) := by decide +kernel
theorem dX9_turnFirst_37 : decode cX9_turnFirst 37 = .ok (.iconst 1, 1) := by decide +kernel
theorem dX9_turnFirst_38 : decode cX9_turnFirst 38 = .ok (.isub, 1) := by decide +kernel
theorem dX9_turnFirst_39 : decode cX9_turnFirst 39 = .ok (.iload_n 2, 1) := by decide +kernel
theorem dX9_turnFirst_40 : decode cX9_turnFirst 40 = .ok (.isub, 1) := by decide +kernel
theorem dX9_turnFirst_41 : decode cX9_turnFirst 41 = .ok (.iload_n 3, 1) := by decide +kernel
theorem dX9_turnFirst_42 : decode cX9_turnFirst 42 = .ok (.iastore, 1) := by decide +kernel
theorem dX9_turnFirst_43 : decode cX9_turnFirst 43 = .ok (.iinc 2 1, 3) := by decide +kernel
theorem dX9_turnFirst_46 : decode cX9_turnFirst 46 = .ok (.goto (-44), 3) := by decide +kernel
theorem dX9_turnFirst_49 : decode cX9_turnFirst 49 = .ok (.return_, 1) := by decide +kernel
set_option maxRecDepth 20000 in
theorem ggX9_turnAll_X9_turnFirst : GoodIn wsX9_turnAll wsX9_turnFirst := goodIn_r _ [8, 3, 13, 14, 15, 16, 17, 18, 19, 20, 21, 22, 23, 24, 25, 26, 27, 28, 29, 30, 31, 32, 33, 34, 35, 36, 37, 38, 39, 40, 41, 42, 43] (by decide +kernel) (by decide +kernel)
set_option maxRecDepth 20000 in
theorem gX9_turnAll_X9_turnFirst : GoodIn wsX9_turnAll (wsV RX9 146 RX9 yX9_turnFirst wsX9_turnFirst) := goodIn_app (goodIn_of _ (by decide +kernel)) ggX9_turnAll_X9_turnFirst
set_option maxRecDepth 20000 in
theorem ggX9_turnAll_X9_standAt : GoodIn wsX9_turnAll wsX9_standAt := goodIn_r _ [12, 2, 3, 13, 14, 15, 16, 17, 18, 19, 20, 21, 22, 23, 24, 25, 26, 27, 28, 29, 30, 31, 32, 33, 34, 35, 36, 37, 38, 39, 40, 41, 42, 43] (by decide +kernel) (by decide +kernel)
set_option maxRecDepth 20000 in
theorem gX9_turnAll_X9_standAt : GoodIn wsX9_turnAll (wsV RX9 150 RX9 yX9_standAt wsX9_standAt) := goodIn_app (goodIn_of _ (by decide +kernel)) ggX9_turnAll_X9_standAt
theorem dX9_turnAll_0 : decode cX9_turnAll 0 = .ok (.aload_n 0, 1) := by decide +kernel
theorem dX9_turnAll_1 : decode cX9_turnAll 1 = .ok (.getfield 118, 3) := by decide +kernel
theorem dX9_turnAll_4 : decode cX9_turnAll 4 = .ok (.ifCond .ne 11, 3) := by decide +kernel
theorem dX9_turnAll_7 : decode cX9_turnAll 7 = .ok (.aload_n 0, 1) := by decide +kernel
theorem dX9_turnAll_8 : decode cX9_turnAll 8 = .ok (.aload_n 0, 1) := by decide +kernel
theorem dX9_turnAll_9 : decode cX9_turnAll 9 = .ok (.getfield 140, 3) := by decide +kernel
theorem dX9_turnAll_12 : decode cX9_turnAll 12 = .ok (.invokevirtual 146, 3) := by decide +kernel
theorem dX9_turnAll_15 : decode cX9_turnAll 15 = .ok (.aload_n 0, 1) := by decide +kernel
theorem dX9_turnAll_16 : decode cX9_turnAll 16 = .ok (.getfield 118, 3) := by decide +kernel
theorem dX9_turnAll_19 : decode cX9_turnAll 19 = .ok (.iconst 1, 1) := by decide +kernel
theorem dX9_turnAll_20 : decode cX9_turnAll 20 = .ok (.if_icmp .ne 13, 3) := by decide +kernel
theorem dX9_turnAll_23 : decode cX9_turnAll 23 = .ok (.aload_n 0, 1) := by decide +kernel
theorem dX9_turnAll_24 : decode cX9_turnAll 24 = .ok (.aload_n 0, 1) := by decide +kernel
theorem dX9_turnAll_25 : decode cX9_turnAll 25 = .ok (.getfield 140, 3) := by decide +kernel
theorem dX9_turnAll_28 : decode cX9_turnAll 28 = .ok (.iconst 2, 1) := by decide +kernel
theorem dX9_turnAll_29 : decode cX9_turnAll 29 = .ok (.idiv, 1) := by decide +kernel
theorem dX9_turnAll_30 : decode cX9_turnAll 30 = .ok (.invokevirtual 146, 3) := by decide +kernel
theorem dX9_turnAll_33 : decode cX9_turnAll 33 = .ok (.aload_n 0, 1) := by decide +kernel
theorem dX9_turnAll_34 : decode cX9_turnAll 34 = .ok (.getfield 118, 3) := by decide +kernel
theorem dX9_turnAll_37 : decode cX9_turnAll 37 = .ok (.iconst 2, 1) := by decide +kernel
theorem dX9_turnAll_38 : decode cX9_turnAll 38 = .ok (.if_icmp .ne 38, 3) := by decide +kernel
theorem dX9_turnAll_41 : decode cX9_turnAll 41 = .ok (.aload_n 0, 1) := by decide +kernel
theorem dX9_turnAll_42 : decode cX9_turnAll 42 = .ok (.getfield 140, 3) := by decide +kernel
theorem dX9_turnAll_45 : decode cX9_turnAll 45 = .ok (.ifCond .le 31, 3) := by decide +kernel
theorem dX9_turnAll_48 : decode cX9_turnAll 48 = .ok (.aload_n 0, 1) := by decide +kernel
theorem dX9_turnAll_49 : decode cX9_turnAll 49 = .ok (.getfield 31, 3) := by decide +kernel
theorem dX9_turnAll_52 : decode cX9_turnAll 52 = .ok (.aload_n 0, 1) := by decide +kernel
theorem dX9_turnAll_53 : decode cX9_turnAll 53 = .ok (.getfield 140, 3) := by decide +kernel
theorem dX9_turnAll_56 : decode cX9_turnAll 56 = .ok (.iconst 1, 1) := by decide +kernel
theorem dX9_turnAll_57 : decode cX9_turnAll 57 = .ok (.isub, 1) := by decide +kernel
theorem dX9_turnAll_58 : decode cX9_turnAll 58 = .ok (.iaload, 1) := by decide +kernel
theorem dX9_turnAll_59 : decode cX9_turnAll 59 = .ok (.istore_n 1, 1) := by decide +kernel
theorem dX9_turnAll_60 : decode cX9_turnAll 60 = .ok (.aload_n 0, 1) := by decide +kernel
theorem dX9_turnAll_61 : decode cX9_turnAll 61 = .ok (.dup, 1) := by decide +kernel
theorem dX9_turnAll_62 : decode cX9_turnAll 62 = .ok (.getfield 140, 3) := by decide +kernel
theorem dX9_turnAll_65 : decode cX9_turnAll 65 = .ok (.iconst 1, 1) := by decide +kernel
theorem dX9_turnAll_66 : decode cX9_turnAll 66 = .ok (.isub, 1) := by decide +kernel
theorem dX9_turnAll_67 : decode cX9_turnAll 67 = .ok (.putfield 140, 3) := by decide +kernel
theorem dX9_turnAll_70 : decode cX9_turnAll 70 = .ok (.aload_n 0, 1) := by decide +kernel
theorem dX9_turnAll_71 : decode cX9_turnAll 71 = .ok (.iconst 0, 1) := by decide +kernel
theorem dX9_turnAll_72 : decode cX9_turnAll 72 = .ok (.iload_n 1, 1) := by decide +kernel
theorem dX9_turnAll_73 : decode cX9_turnAll 73 = .ok (.invokevirtual 150, 3) := by decide +kernel
theorem dX9_turnAll_76 : decode cX9_turnAll 76 = .ok (.return_, 1) := by decide +kernel
set_option maxRecDepth 20000 in
theorem ggX9_goMinute_X9_placeOf : GoodIn wsX9_goMinute wsX9_placeOf := goodIn_r _ [14, 5, 7, 40, 41, 42, 43, 44, 45, 46, 47, 48, 49, 50, 51, 52, 53, 54, 55, 56, 57, 58, 59, 60, 61, 62, 63, 64, 65, 66, 67, 68, 69, 70] (by decide +kernel) (by decide +kernel)
set_option maxRecDepth 20000 in
theorem gX9_goMinute_X9_placeOf : GoodIn wsX9_goMinute (wsV RX9 157 RX9 yX9_placeOf wsX9_placeOf) := goodIn_app (goodIn_of _ (by decide +kernel)) ggX9_goMinute_X9_placeOf
set_option maxRecDepth 20000 in
theorem ggX9_goMinute_X9_takeOut : GoodIn wsX9_goMinute wsX9_takeOut := goodIn_r _ [18, 5, 7, 40, 41, 42, 43, 44, 45, 46, 47, 48, 49, 50, 51, 52, 53, 54, 55, 56, 57, 58, 59, 60, 61, 62, 63, 64, 65, 66, 67, 68, 69, 70] (by decide +kernel) (by decide +kernel)
set_option maxRecDepth 20000 in
theorem gX9_goMinute_X9_takeOut : GoodIn wsX9_goMinute (wsV RX9 160 RX9 yX9_takeOut wsX9_takeOut) := goodIn_app (goodIn_of _ (by decide +kernel)) ggX9_goMinute_X9_takeOut
set_option maxRecDepth 20000 in
theorem ggX9_goMinute_X9_standAt : GoodIn wsX9_goMinute wsX9_standAt := goodIn_r _ [22, 5, 7, 40, 41, 42, 43, 44, 45, 46, 47, 48, 49, 50, 51, 52, 53, 54, 55, 56, 57, 58, 59, 60, 61, 62, 63, 64, 65, 66, 67, 68, 69, 70] (by decide +kernel) (by decide +kernel)
set_option maxRecDepth 20000 in
theorem gX9_goMinute_X9_standAt : GoodIn wsX9_goMinute (wsV RX9 150 RX9 yX9_standAt wsX9_standAt) := goodIn_app (goodIn_of _ (by decide +kernel)) ggX9_goMinute_X9_standAt
set_option maxRecDepth 20000 in
theorem ggX9_goMinute_X9_placeFor : GoodIn wsX9_goMinute wsX9_placeFor := goodIn_r _ [26, 27, 5, 7, 40, 41, 42, 43, 44, 45, 46, 47, 48, 49, 50, 51, 52, 53, 54, 55, 56, 57, 58, 59, 60, 61, 62, 63, 64, 65, 66, 67, 68, 69, 70] (by decide +kernel) (by decide +kernel)
set_option maxRecDepth 20000 in
theorem gX9_goMinute_X9_placeFor : GoodIn wsX9_goMinute (wsV RX9 163 RX9 yX9_placeFor wsX9_placeFor) := goodIn_app (goodIn_of _ (by decide +kernel)) ggX9_goMinute_X9_placeFor
set_option maxRecDepth 20000 in
theorem ggX9_goMinute_X9_isBell : GoodIn wsX9_goMinute wsX9_isBell := goodIn_r _ [30] (by decide +kernel) (by decide +kernel)
set_option maxRecDepth 20000 in
theorem gX9_goMinute_X9_isBell : GoodIn wsX9_goMinute (va_wsS RX9 134 yX9_isBell wsX9_isBell) := goodIn_app (goodIn_of _ (by decide +kernel)) ggX9_goMinute_X9_isBell
set_option maxRecDepth 20000 in
theorem ggX9_goMinute_X9_turnAll : GoodIn wsX9_goMinute wsX9_turnAll := goodIn_r _ [34, 35, 5, 7, 36, 37, 38, 13, 39, 19, 20, 21, 22, 40, 41, 42, 43, 44, 45, 46, 47, 48, 49, 50, 51, 52, 53, 54, 55, 56, 57, 58, 59, 60, 61, 62, 63, 64, 65, 66, 67, 68, 69, 70] (by decide +kernel) (by decide +kernel)
set_option maxRecDepth 20000 in
theorem gX9_goMinute_X9_turnAll : GoodIn wsX9_goMinute (wsV RX9 166 RX9 yX9_turnAll wsX9_turnAll) := goodIn_app (goodIn_of _ (by decide +kernel)) ggX9_goMinute_X9_turnAll
theorem dX9_goMinute_0 : decode cX9_goMinute 0 = .ok (.aload_n 0, 1) := by decide +kernel
theorem dX9_goMinute_1 : decode cX9_goMinute 1 = .ok (.getfield 143, 3) := by decide +kernel
theorem dX9_goMinute_4 : decode cX9_goMinute 4 = .ok (.ifCond .lt 17, 3) := by decide +kernel
theorem dX9_goMinute_7 : decode cX9_goMinute 7 = .ok (.aload_n 0, 1) := by decide +kernel
theorem dX9_goMinute_8 : decode cX9_goMinute 8 = .ok (.getfield 154, 3) := by decide +kernel
theorem dX9_goMinute_11 : decode cX9_goMinute 11 = .ok (.iload_n 1, 1) := by decide +kernel
theorem dX9_goMinute_12 : decode cX9_goMinute 12 = .ok (.if_icmp .ne 9, 3) := by decide +kernel
theorem dX9_goMinute_15 : decode cX9_goMinute 15 = .ok (.aload_n 0, 1) := by decide +kernel
theorem dX9_goMinute_16 : decode cX9_goMinute 16 = .ok (.bipush (-9), 2) := by decide +kernel
theorem dX9_goMinute_18 : decode cX9_goMinute 18 = .ok (.putfield 143, 3) := by decide +kernel
theorem dX9_goMinute_21 : decode cX9_goMinute 21 = .ok (.iconst 0, 1) := by decide +kernel
theorem dX9_goMinute_22 : decode cX9_goMinute 22 = .ok (.istore 5, 2) := by decide +kernel
theorem dX9_goMinute_24 : decode cX9_goMinute 24 = .ok (.iload 5, 2) := by decide +kernel
theorem dX9_goMinute_26 : decode cX9_goMinute 26 = .ok (.aload_n 0, 1) := by decide +kernel
theorem dX9_goMinute_27 : decode cX9_goMinute 27 = .ok (.getfield 68, 3) := by decide +kernel
theorem dX9_goMinute_30 : decode cX9_goMinute 30 = .ok (.if_icmp .ge 54, 3) := by decide +kernel
theorem dX9_goMinute_33 : decode cX9_goMinute 33 = .ok (.aload_n 0, 1) := by decide +kernel
theorem dX9_goMinute_34 : decode cX9_goMinute 34 = .ok (.getfield 19, 3) := by decide +kernel
theorem dX9_goMinute_37 : decode cX9_goMinute 37 = .ok (.iload 5, 2) := by decide +kernel
theorem dX9_goMinute_39 : decode cX9_goMinute 39 = .ok (.iaload, 1) := by decide +kernel
theorem dX9_goMinute_40 : decode cX9_goMinute 40 = .ok (.iload_n 1, 1) := by decide +kernel
theorem dX9_goMinute_41 : decode cX9_goMinute 41 = .ok (.if_icmp .ne 12, 3) := by decide +kernel
theorem dX9_goMinute_44 : decode cX9_goMinute 44 = .ok (.aload_n 0, 1) := by decide +kernel
theorem dX9_goMinute_45 : decode cX9_goMinute 45 = .ok (.iload 5, 2) := by decide +kernel
theorem dX9_goMinute_47 : decode cX9_goMinute 47 = .ok (.invokevirtual 157, 3) := by decide +kernel
theorem dX9_goMinute_50 : decode cX9_goMinute 50 = .ok (.goto 5, 3) := by decide +kernel
theorem dX9_goMinute_53 : decode cX9_goMinute 53 = .ok (.bipush (-9), 2) := by decide +kernel
theorem dX9_goMinute_55 : decode cX9_goMinute 55 = .ok (.istore 6, 2) := by decide +kernel
theorem dX9_goMinute_57 : decode cX9_goMinute 57 = .ok (.iload 6, 2) := by decide +kernel
theorem dX9_goMinute_59 : decode cX9_goMinute 59 = .ok (.ifCond .lt 19, 3) := by decide +kernel
theorem dX9_goMinute_62 : decode cX9_goMinute 62 = .ok (.aload_n 0, 1) := by decide +kernel
theorem dX9_goMinute_63 : decode cX9_goMinute 63 = .ok (.iload 6, 2) := by decide +kernel
theorem dX9_goMinute_65 : decode cX9_goMinute 65 = .ok (.invokevirtual 160, 3) := by decide +kernel
theorem dX9_goMinute_68 : decode cX9_goMinute 68 = .ok (.aload_n 0, 1) := by decide +kernel
theorem dX9_goMinute_69 : decode cX9_goMinute 69 = .ok (.aload_n 0, 1) := by decide +kernel
theorem dX9_goMinute_70 : decode cX9_goMinute 70 = .ok (.getfield 140, 3) := by decide +kernel
theorem dX9_goMinute_73 : decode cX9_goMinute 73 = .ok (.iload 5, 2) := by decide +kernel
theorem dX9_goMinute_75 : decode cX9_goMinute 75 = .ok (.invokevirtual 150, 3) := by decide +kernel
theorem dX9_goMinute_78 : decode cX9_goMinute 78 = .ok (.iinc 5 1, 3) := by decide +kernel
theorem dX9_goMinute_81 : decode cX9_goMinute 81 = .ok (.goto (-57), 3) := by decide +kernel
theorem dX9_goMinute_84 : decode cX9_goMinute 84 = .ok (.iconst 0, 1) := by decide +kernel
theorem dX9_goMinute_85 : decode cX9_goMinute 85 = .ok (.istore 5, 2) := by decide +kernel
theorem dX9_goMinute_87 : decode cX9_goMinute 87 = .ok (.iload 5, 2) := by decide +kernel
theorem dX9_goMinute_89 : decode cX9_goMinute 89 = .ok (.aload_n 0, 1) := by decide +kernel
theorem dX9_goMinute_90 : decode cX9_goMinute 90 = .ok (.getfield 68, 3) := by decide +kernel
theorem dX9_goMinute_93 : decode cX9_goMinute 93 = .ok (.if_icmp .ge 42, 3) := by decide +kernel
theorem dX9_goMinute_96 : decode cX9_goMinute 96 = .ok (.iload_n 2, 1) := by decide +kernel
theorem dX9_goMinute_97 : decode cX9_goMinute 97 = .ok (.iload 5, 2) := by decide +kernel
theorem dX9_goMinute_99 : decode cX9_goMinute 99 = .ok (.ishr, 1) := by decide +kernel
theorem dX9_goMinute_100 : decode cX9_goMinute 100 = .ok (.iconst 1, 1) := by decide +kernel
theorem dX9_goMinute_101 : decode cX9_goMinute 101 = .ok (.iand, 1) := by decide +kernel
theorem dX9_goMinute_102 : decode cX9_goMinute 102 = .ok (.iconst 1, 1) := by decide +kernel
theorem dX9_goMinute_103 : decode cX9_goMinute 103 = .ok (.if_icmp .ne 26, 3) := by decide +kernel
theorem dX9_goMinute_106 : decode cX9_goMinute 106 = .ok (.aload_n 0, 1) := by decide +kernel
theorem dX9_goMinute_107 : decode cX9_goMinute 107 = .ok (.getfield 13, 3) := by decide +kernel
theorem dX9_goMinute_110 : decode cX9_goMinute 110 = .ok (.iload 5, 2) := by decide +kernel
theorem dX9_goMinute_112 : decode cX9_goMinute 112 = .ok (.iaload, 1) := by decide +kernel
theorem dX9_goMinute_113 : decode cX9_goMinute 113 = .ok (.iload_n 1, 1) := by decide +kernel
theorem dX9_goMinute_114 : decode cX9_goMinute 114 = .ok (.if_icmp .ne 15, 3) := by decide +kernel
theorem dX9_goMinute_117 : decode cX9_goMinute 117 = .ok (.aload_n 0, 1) := by decide +kernel
theorem dX9_goMinute_118 : decode cX9_goMinute 118 = .ok (.aload_n 0, 1) := by decide +kernel
theorem dX9_goMinute_119 : decode cX9_goMinute 119 = .ok (.iload 5, 2) := by decide +kernel
theorem dX9_goMinute_121 : decode cX9_goMinute 121 = .ok (.invokevirtual 163, 3) := by decide +kernel
theorem dX9_goMinute_124 : decode cX9_goMinute 124 = .ok (.iload 5, 2) := by decide +kernel
theorem dX9_goMinute_126 : decode cX9_goMinute 126 = .ok (.invokevirtual 150, 3) := by decide +kernel
theorem dX9_goMinute_129 : decode cX9_goMinute 129 = .ok (.iinc 5 1, 3) := by decide +kernel
theorem dX9_goMinute_132 : decode cX9_goMinute 132 = .ok (.goto (-45), 3) := by decide +kernel
theorem dX9_goMinute_135 : decode cX9_goMinute 135 = .ok (.lload_n 3, 1) := by decide +kernel
theorem dX9_goMinute_136 : decode cX9_goMinute 136 = .ok (.iload_n 1, 1) := by decide +kernel
theorem dX9_goMinute_137 : decode cX9_goMinute 137 = .ok (.invokestatic 134, 3) := by decide +kernel
theorem dX9_goMinute_140 : decode cX9_goMinute 140 = .ok (.ifCond .eq 7, 3) := by decide +kernel
theorem dX9_goMinute_143 : decode cX9_goMinute 143 = .ok (.aload_n 0, 1) := by decide +kernel
theorem dX9_goMinute_144 : decode cX9_goMinute 144 = .ok (.invokevirtual 166, 3) := by decide +kernel
theorem dX9_goMinute_147 : decode cX9_goMinute 147 = .ok (.aload_n 0, 1) := by decide +kernel
theorem dX9_goMinute_148 : decode cX9_goMinute 148 = .ok (.getfield 143, 3) := by decide +kernel
theorem dX9_goMinute_151 : decode cX9_goMinute 151 = .ok (.ifCond .ge 50, 3) := by decide +kernel
theorem dX9_goMinute_154 : decode cX9_goMinute 154 = .ok (.aload_n 0, 1) := by decide +kernel
theorem dX9_goMinute_155 : decode cX9_goMinute 155 = .ok (.getfield 140, 3) := by decide +kernel
theorem dX9_goMinute_158 : decode cX9_goMinute 158 = .ok (.ifCond .le 43, 3) := by decide +kernel
theorem dX9_goMinute_161 : decode cX9_goMinute 161 = .ok (.aload_n 0, 1) := by decide +kernel
theorem dX9_goMinute_162 : decode cX9_goMinute 162 = .ok (.aload_n 0, 1) := by decide +kernel
theorem dX9_goMinute_163 : decode cX9_goMinute 163 = .ok (.getfield 31, 3) := by decide +kernel
theorem dX9_goMinute_166 : decode cX9_goMinute 166 = .ok (.iconst 0, 1) := by decide +kernel
theorem dX9_goMinute_167 : decode cX9_goMinute 167 = .ok (.iaload, 1) := by decide +kernel
theorem dX9_goMinute_168 : decode cX9_goMinute 168 = .ok (.putfield 143, 3) := by decide +kernel
theorem dX9_goMinute_171 : decode cX9_goMinute 171 = .ok (.aload_n 0, 1) := by decide +kernel
theorem dX9_goMinute_172 : decode cX9_goMinute 172 = .ok (.iconst 0, 1) := by decide +kernel
theorem dX9_goMinute_173 : decode cX9_goMinute 173 = .ok (.invokevirtual 160, 3) := by decide +kernel
theorem dX9_goMinute_176 : decode cX9_goMinute 176 = .ok (.aload_n 0, 1) := by decide +kernel
theorem dX9_goMinute_177 : decode cX9_goMinute 177 = .ok (.getfield 34, 3) := by decide +kernel
theorem dX9_goMinute_180 : decode cX9_goMinute 180 = .ok (.aload_n 0, 1) := by decide +kernel
theorem dX9_goMinute_181 : decode cX9_goMinute 181 = .ok (.getfield 143, 3) := by decide +kernel
theorem dX9_goMinute_184 : decode cX9_goMinute 184 = .ok (.iload_n 1, 1) := by decide +kernel
theorem dX9_goMinute_185 : decode cX9_goMinute 185 = .ok (.iastore, 1) := by decide +kernel
theorem dX9_goMinute_186 : decode cX9_goMinute 186 = .ok (.aload_n 0, 1) := by decide +kernel
theorem dX9_goMinute_187 : decode cX9_goMinute 187 = .ok (.iload_n 1, 1) := by decide +kernel
theorem dX9_goMinute_188 : decode cX9_goMinute 188 = .ok (.aload_n 0, 1) := by decide +kernel
theorem dX9_goMinute_189 : decode cX9_goMinute 189 = .ok (.getfield 16, 3) := by decide +kernel
theorem dX9_goMinute_192 : decode cX9_goMinute 192 = .ok (.aload_n 0, 1) := by decide +kernel
theorem dX9_goMinute_193 : decode cX9_goMinute 193 = .ok (.getfield 143, 3) := by decide +kernel
theorem dX9_goMinute_196 : decode cX9_goMinute 196 = .ok (.iaload, 1) := by decide +kernel
theorem dX9_goMinute_197 : decode cX9_goMinute 197 = .ok (.iadd, 1) := by decide +kernel
theorem dX9_goMinute_198 : decode cX9_goMinute 198 = .ok (.putfield 154, 3) := by decide +kernel
theorem dX9_goMinute_201 : decode cX9_goMinute 201 = .ok (.return_, 1) := by decide +kernel
set_option maxRecDepth 20000 in
theorem ggX9_goDay_X9_begin : GoodIn wsX9_goDay wsX9_begin := goodIn_r _ [5, 6, 7, 8, 48, 49, 50, 51, 52, 53, 54, 55, 56, 57, 58, 59, 60, 61, 62, 63, 64, 65, 66, 67, 68, 69, 70, 71, 72, 73, 74, 75, 76, 77, 78] (by decide +kernel) (by decide +kernel)
set_option maxRecDepth 20000 in
theorem gX9_goDay_X9_begin : GoodIn wsX9_goDay (wsV RX9 169 RX9 yX9_begin wsX9_begin) := goodIn_app (goodIn_of _ (by decide +kernel)) ggX9_goDay_X9_begin
set_option maxRecDepth 20000 in
theorem ggX9_goDay_X9_goMinute : GoodIn wsX9_goDay wsX9_goMinute := goodIn_r _ [12, 7, 13, 14, 15, 6, 16, 17, 8, 18, 19, 20, 21, 4, 22, 23, 24, 25, 26, 27, 28, 29, 30, 31, 32, 33, 34, 35, 36, 37, 38, 39, 40, 41, 42, 43, 44, 45, 46, 47, 48, 49, 50, 51, 52, 53, 54, 55, 56, 57, 58, 59, 60, 61, 62, 63, 64, 65, 66, 67, 68, 69, 70, 71, 72, 73, 74, 75, 76, 77, 78] (by decide +kernel) (by decide +kernel)
set_option maxRecDepth 20000 in
theorem gX9_goDay_X9_goMinute : GoodIn wsX9_goDay (wsV RX9 172 RX9 yX9_goMinute wsX9_goMinute) := goodIn_app (goodIn_of _ (by decide +kernel)) ggX9_goDay_X9_goMinute
theorem dX9_goDay_0 : decode cX9_goDay 0 = .ok (.aload_n 0, 1) := by decide +kernel
theorem dX9_goDay_1 : decode cX9_goDay 1 = .ok (.invokevirtual 169, 3) := by decide +kernel
theorem dX9_goDay_4 : decode cX9_goDay 4 = .ok (.iconst 0, 1) := by decide +kernel
theorem dX9_goDay_5 : decode cX9_goDay 5 = .ok (.istore 4, 2) := by decide +kernel
theorem dX9_goDay_7 : decode cX9_goDay 7 = .ok (.iload 4, 2) := by decide +kernel
theorem dX9_goDay_9 : decode cX9_goDay 9 = .ok (.sipush 200, 3) := by decide +kernel
theorem dX9_goDay_12 : decode cX9_goDay 12 = .ok (.if_icmp .ge 17, 3) := by decide +kernel
theorem dX9_goDay_15 : decode cX9_goDay 15 = .ok (.aload_n 0, 1) := by decide +kernel
theorem dX9_goDay_16 : decode cX9_goDay 16 = .ok (.iload 4, 2) := by decide +kernel
theorem dX9_goDay_18 : decode cX9_goDay 18 = .ok (.iload_n 1, 1) := by decide +kernel
theorem dX9_goDay_19 : decode cX9_goDay 19 = .ok (.lload_n 2, 1) := by decide +kernel
theorem dX9_goDay_20 : decode cX9_goDay 20 = .ok (.invokevirtual 172, 3) := by decide +kernel
theorem dX9_goDay_23 : decode cX9_goDay 23 = .ok (.iinc 4 1, 3) := by decide +kernel
theorem dX9_goDay_26 : decode cX9_goDay 26 = .ok (.goto (-19), 3) := by decide +kernel
theorem dX9_goDay_29 : decode cX9_goDay 29 = .ok (.return_, 1) := by decide +kernel
theorem dX9_all_0 : decode cX9_all 0 = .ok (.iconst 1, 1) := by decide +kernel
theorem dX9_all_1 : decode cX9_all 1 = .ok (.aload_n 0, 1) := by decide +kernel
theorem dX9_all_2 : decode cX9_all 2 = .ok (.getfield 68, 3) := by decide +kernel
theorem dX9_all_5 : decode cX9_all 5 = .ok (.ishl, 1) := by decide +kernel
theorem dX9_all_6 : decode cX9_all 6 = .ok (.iconst 1, 1) := by decide +kernel
theorem dX9_all_7 : decode cX9_all 7 = .ok (.isub, 1) := by decide +kernel
theorem dX9_all_8 : decode cX9_all 8 = .ok (.ireturn, 1) := by decide +kernel
set_option maxRecDepth 20000 in
theorem ggX9_goNow_X9_all : GoodIn wsX9_goNow wsX9_all := goodIn_r _ [6, 7, 57, 58, 59, 60, 61, 62, 63, 64, 65, 66, 67, 68, 69, 70, 71, 72, 73, 74, 75, 76, 77, 78, 79, 80, 81, 82, 83, 84, 85, 86, 87] (by decide +kernel) (by decide +kernel)
set_option maxRecDepth 20000 in
theorem gX9_goNow_X9_all : GoodIn wsX9_goNow (wsV RX9 176 RX9 yX9_all wsX9_all) := goodIn_app (goodIn_of _ (by decide +kernel)) ggX9_goNow_X9_all
set_option maxRecDepth 20000 in
theorem ggX9_goNow_X9_goDay : GoodIn wsX9_goNow wsX9_goDay := goodIn_r _ [11, 12, 13, 14, 5, 15, 16, 17, 18, 19, 20, 21, 22, 23, 7, 24, 25, 26, 27, 28, 29, 30, 31, 32, 33, 34, 35, 36, 37, 38, 39, 40, 41, 42, 43, 44, 45, 46, 47, 48, 49, 50, 51, 52, 53, 54, 55, 56, 57, 58, 59, 60, 61, 62, 63, 64, 65, 66, 67, 68, 69, 70, 71, 72, 73, 74, 75, 76, 77, 78, 79, 80, 81, 82, 83, 84, 85, 86, 87] (by decide +kernel) (by decide +kernel)
set_option maxRecDepth 20000 in
theorem gX9_goNow_X9_goDay : GoodIn wsX9_goNow (wsV RX9 180 RX9 yX9_goDay wsX9_goDay) := goodIn_app (goodIn_of _ (by decide +kernel)) ggX9_goNow_X9_goDay
theorem dX9_goNow_0 : decode cX9_goNow 0 = .ok (.aload_n 0, 1) := by decide +kernel
theorem dX9_goNow_1 : decode cX9_goNow 1 = .ok (.aload_n 0, 1) := by decide +kernel
theorem dX9_goNow_2 : decode cX9_goNow 2 = .ok (.invokevirtual 176, 3) := by decide +kernel
theorem dX9_goNow_5 : decode cX9_goNow 5 = .ok (.aload_n 0, 1) := by decide +kernel
theorem dX9_goNow_6 : decode cX9_goNow 6 = .ok (.getfield 121, 3) := by decide +kernel
theorem dX9_goNow_9 : decode cX9_goNow 9 = .ok (.invokevirtual 180, 3) := by decide +kernel
theorem dX9_goNow_12 : decode cX9_goNow 12 = .ok (.return_, 1) := by decide +kernel
set_option maxRecDepth 20000 in
theorem ggX9_served_X9_noPerson : GoodIn wsX9_served wsX9_noPerson := goodIn_r _ [6, 7, 8, 9, 5, 10, 68, 69, 70, 71, 72, 73, 74, 75, 76, 77, 78, 79, 80, 81, 82, 83, 84, 85, 86, 87, 88, 89, 90, 91, 92, 93, 94, 95, 96, 97, 98] (by decide +kernel) (by decide +kernel)
set_option maxRecDepth 20000 in
theorem gX9_served_X9_noPerson : GoodIn wsX9_served (wsV RX9 128 RX9 yX9_noPerson wsX9_noPerson) := goodIn_app (goodIn_of _ (by decide +kernel)) ggX9_served_X9_noPerson
set_option maxRecDepth 20000 in
theorem ggX9_served_X9_goNow : GoodIn wsX9_served wsX9_goNow := goodIn_r _ [14, 15, 16, 17, 18, 5, 19, 7, 20, 21, 22, 23, 24, 25, 26, 27, 28, 29, 1, 30, 31, 32, 33, 34, 35, 36, 37, 38, 39, 40, 41, 42, 43, 44, 45, 46, 47, 48, 49, 50, 51, 52, 53, 54, 55, 56, 57, 58, 59, 60, 61, 62, 63, 64, 65, 66, 67, 68, 69, 70, 71, 72, 73, 74, 75, 76, 77, 78, 79, 80, 81, 82, 83, 84, 85, 86, 87, 88, 89, 90, 91, 92, 93, 94, 95, 96, 97, 98] (by decide +kernel) (by decide +kernel)
set_option maxRecDepth 20000 in
theorem gX9_served_X9_goNow : GoodIn wsX9_served (wsV RX9 184 RX9 yX9_goNow wsX9_goNow) := goodIn_app (goodIn_of _ (by decide +kernel)) ggX9_served_X9_goNow
theorem dX9_served_0 : decode cX9_served 0 = .ok (.aload_n 0, 1) := by decide +kernel
theorem dX9_served_1 : decode cX9_served 1 = .ok (.iload_n 1, 1) := by decide +kernel
theorem dX9_served_2 : decode cX9_served 2 = .ok (.invokevirtual 128, 3) := by decide +kernel
theorem dX9_served_5 : decode cX9_served 5 = .ok (.ifCond .eq 5, 3) := by decide +kernel
theorem dX9_served_8 : decode cX9_served 8 = .ok (.iconst (-1), 1) := by decide +kernel
theorem dX9_served_9 : decode cX9_served 9 = .ok (.ireturn, 1) := by decide +kernel
theorem dX9_served_10 : decode cX9_served 10 = .ok (.aload_n 0, 1) := by decide +kernel
theorem dX9_served_11 : decode cX9_served 11 = .ok (.invokevirtual 184, 3) := by decide +kernel
theorem dX9_served_14 : decode cX9_served 14 = .ok (.aload_n 0, 1) := by decide +kernel
theorem dX9_served_15 : decode cX9_served 15 = .ok (.getfield 34, 3) := by decide +kernel
theorem dX9_served_18 : decode cX9_served 18 = .ok (.iload_n 1, 1) := by decide +kernel
theorem dX9_served_19 : decode cX9_served 19 = .ok (.iaload, 1) := by decide +kernel
theorem dX9_served_20 : decode cX9_served 20 = .ok (.ireturn, 1) := by decide +kernel
set_option maxRecDepth 20000 in
theorem ggX9_queue_X9_in : GoodIn wsX9_queue wsX9_in := goodIn_r _ [9] (by decide +kernel) (by decide +kernel)
set_option maxRecDepth 20000 in
theorem gX9_queue_X9_in : GoodIn wsX9_queue (va_wsS RX9 71 yX9_in wsX9_in) := goodIn_app (goodIn_of _ (by decide +kernel)) ggX9_queue_X9_in
set_option maxRecDepth 20000 in
theorem ggX9_queue_X9_begin : GoodIn wsX9_queue wsX9_begin := goodIn_r _ [13, 4, 3, 14, 57, 58, 59, 60, 61, 62, 63, 64, 65, 66, 67, 68, 69, 70, 71, 72, 73, 74, 75, 76, 77, 78, 79, 80, 81, 82, 83, 84, 85, 86, 87] (by decide +kernel) (by decide +kernel)
set_option maxRecDepth 20000 in
theorem gX9_queue_X9_begin : GoodIn wsX9_queue (wsV RX9 169 RX9 yX9_begin wsX9_begin) := goodIn_app (goodIn_of _ (by decide +kernel)) ggX9_queue_X9_begin
set_option maxRecDepth 20000 in
theorem ggX9_queue_X9_all : GoodIn wsX9_queue wsX9_all := goodIn_r _ [18, 19, 57, 58, 59, 60, 61, 62, 63, 64, 65, 66, 67, 68, 69, 70, 71, 72, 73, 74, 75, 76, 77, 78, 79, 80, 81, 82, 83, 84, 85, 86, 87] (by decide +kernel) (by decide +kernel)
set_option maxRecDepth 20000 in
theorem gX9_queue_X9_all : GoodIn wsX9_queue (wsV RX9 176 RX9 yX9_all wsX9_all) := goodIn_app (goodIn_of _ (by decide +kernel)) ggX9_queue_X9_all
set_option maxRecDepth 20000 in
theorem ggX9_queue_X9_goMinute : GoodIn wsX9_queue wsX9_goMinute := goodIn_r _ [23, 3, 24, 19, 25, 4, 26, 5, 14, 27, 28, 29, 30, 8, 31, 32, 33, 34, 35, 36, 37, 38, 39, 40, 41, 42, 43, 44, 45, 46, 47, 48, 49, 50, 51, 52, 53, 54, 55, 56, 57, 58, 59, 60, 61, 62, 63, 64, 65, 66, 67, 68, 69, 70, 71, 72, 73, 74, 75, 76, 77, 78, 79, 80, 81, 82, 83, 84, 85, 86, 87] (by decide +kernel) (by decide +kernel)
set_option maxRecDepth 20000 in
theorem gX9_queue_X9_goMinute : GoodIn wsX9_queue (wsV RX9 172 RX9 yX9_goMinute wsX9_goMinute) := goodIn_app (goodIn_of _ (by decide +kernel)) ggX9_queue_X9_goMinute
theorem dX9_queue_0 : decode cX9_queue 0 = .ok (.iload_n 1, 1) := by decide +kernel
theorem dX9_queue_1 : decode cX9_queue 1 = .ok (.i2l, 1) := by decide +kernel
theorem dX9_queue_2 : decode cX9_queue 2 = .ok (.lconst 0, 1) := by decide +kernel
theorem dX9_queue_3 : decode cX9_queue 3 = .ok (.ldc2_w 187, 3) := by decide +kernel
theorem dX9_queue_6 : decode cX9_queue 6 = .ok (.invokestatic 71, 3) := by decide +kernel
theorem dX9_queue_9 : decode cX9_queue 9 = .ok (.ifCond .eq 8, 3) := by decide +kernel
theorem dX9_queue_12 : decode cX9_queue 12 = .ok (.iload_n 2, 1) := by decide +kernel
theorem dX9_queue_13 : decode cX9_queue 13 = .ok (.iconst (-1), 1) := by decide +kernel
theorem dX9_queue_14 : decode cX9_queue 14 = .ok (.if_icmp .ge 5, 3) := by decide +kernel
theorem dX9_queue_17 : decode cX9_queue 17 = .ok (.iconst (-1), 1) := by decide +kernel
theorem dX9_queue_18 : decode cX9_queue 18 = .ok (.ireturn, 1) := by decide +kernel
theorem dX9_queue_19 : decode cX9_queue 19 = .ok (.aload_n 0, 1) := by decide +kernel
theorem dX9_queue_20 : decode cX9_queue 20 = .ok (.invokevirtual 169, 3) := by decide +kernel
theorem dX9_queue_23 : decode cX9_queue 23 = .ok (.iconst 0, 1) := by decide +kernel
theorem dX9_queue_24 : decode cX9_queue 24 = .ok (.istore_n 3, 1) := by decide +kernel
theorem dX9_queue_25 : decode cX9_queue 25 = .ok (.iload_n 3, 1) := by decide +kernel
theorem dX9_queue_26 : decode cX9_queue 26 = .ok (.iload_n 1, 1) := by decide +kernel
theorem dX9_queue_27 : decode cX9_queue 27 = .ok (.if_icmp .gt 22, 3) := by decide +kernel
theorem dX9_queue_30 : decode cX9_queue 30 = .ok (.aload_n 0, 1) := by decide +kernel
theorem dX9_queue_31 : decode cX9_queue 31 = .ok (.iload_n 3, 1) := by decide +kernel
theorem dX9_queue_32 : decode cX9_queue 32 = .ok (.aload_n 0, 1) := by decide +kernel
theorem dX9_queue_33 : decode cX9_queue 33 = .ok (.invokevirtual 176, 3) := by decide +kernel
theorem dX9_queue_36 : decode cX9_queue 36 = .ok (.aload_n 0, 1) := by decide +kernel
theorem dX9_queue_37 : decode cX9_queue 37 = .ok (.getfield 121, 3) := by decide +kernel
theorem dX9_queue_40 : decode cX9_queue 40 = .ok (.invokevirtual 172, 3) := by decide +kernel
theorem dX9_queue_43 : decode cX9_queue 43 = .ok (.iinc 3 1, 3) := by decide +kernel
theorem dX9_queue_46 : decode cX9_queue 46 = .ok (.goto (-21), 3) := by decide +kernel
theorem dX9_queue_49 : decode cX9_queue 49 = .ok (.iload_n 2, 1) := by decide +kernel
theorem dX9_queue_50 : decode cX9_queue 50 = .ok (.ifCond .ge 10, 3) := by decide +kernel
theorem dX9_queue_53 : decode cX9_queue 53 = .ok (.aload_n 0, 1) := by decide +kernel
theorem dX9_queue_54 : decode cX9_queue 54 = .ok (.getfield 143, 3) := by decide +kernel
theorem dX9_queue_57 : decode cX9_queue 57 = .ok (.goto 22, 3) := by decide +kernel
theorem dX9_queue_60 : decode cX9_queue 60 = .ok (.iload_n 2, 1) := by decide +kernel
theorem dX9_queue_61 : decode cX9_queue 61 = .ok (.aload_n 0, 1) := by decide +kernel
theorem dX9_queue_62 : decode cX9_queue 62 = .ok (.getfield 140, 3) := by decide +kernel
theorem dX9_queue_65 : decode cX9_queue 65 = .ok (.if_icmp .ge 12, 3) := by decide +kernel
theorem dX9_queue_68 : decode cX9_queue 68 = .ok (.aload_n 0, 1) := by decide +kernel
theorem dX9_queue_69 : decode cX9_queue 69 = .ok (.getfield 31, 3) := by decide +kernel
theorem dX9_queue_72 : decode cX9_queue 72 = .ok (.iload_n 2, 1) := by decide +kernel
theorem dX9_queue_73 : decode cX9_queue 73 = .ok (.iaload, 1) := by decide +kernel
theorem dX9_queue_74 : decode cX9_queue 74 = .ok (.goto 5, 3) := by decide +kernel
theorem dX9_queue_77 : decode cX9_queue 77 = .ok (.bipush (-9), 2) := by decide +kernel
theorem dX9_queue_79 : decode cX9_queue 79 = .ok (.ireturn, 1) := by decide +kernel
set_option maxRecDepth 20000 in
theorem ggX9_waitSum_X9_goNow : GoodIn wsX9_waitSum wsX9_goNow := goodIn_r _ [8, 9, 10, 11, 12, 7, 13, 1, 14, 15, 16, 17, 18, 19, 20, 21, 22, 23, 2, 24, 25, 26, 27, 28, 29, 3, 30, 31, 32, 33, 34, 35, 36, 37, 38, 39, 40, 41, 42, 43, 44, 45, 46, 47, 48, 49, 50, 51, 52, 53, 54, 55, 56, 57, 58, 59, 60, 61, 62, 63, 64, 65, 66, 67, 68, 69, 70, 71, 72, 73, 74, 75, 76, 77, 78, 79, 80, 81, 82, 83, 84, 85, 86, 87, 88, 89, 90, 91] (by decide +kernel) (by decide +kernel)
set_option maxRecDepth 20000 in
theorem gX9_waitSum_X9_goNow : GoodIn wsX9_waitSum (wsV RX9 184 RX9 yX9_goNow wsX9_goNow) := goodIn_app (goodIn_of _ (by decide +kernel)) ggX9_waitSum_X9_goNow
theorem dX9_waitSum_0 : decode cX9_waitSum 0 = .ok (.aload_n 0, 1) := by decide +kernel
theorem dX9_waitSum_1 : decode cX9_waitSum 1 = .ok (.invokevirtual 184, 3) := by decide +kernel
theorem dX9_waitSum_4 : decode cX9_waitSum 4 = .ok (.iconst 0, 1) := by decide +kernel
theorem dX9_waitSum_5 : decode cX9_waitSum 5 = .ok (.istore_n 1, 1) := by decide +kernel
theorem dX9_waitSum_6 : decode cX9_waitSum 6 = .ok (.iconst 0, 1) := by decide +kernel
theorem dX9_waitSum_7 : decode cX9_waitSum 7 = .ok (.istore_n 2, 1) := by decide +kernel
theorem dX9_waitSum_8 : decode cX9_waitSum 8 = .ok (.iload_n 2, 1) := by decide +kernel
theorem dX9_waitSum_9 : decode cX9_waitSum 9 = .ok (.aload_n 0, 1) := by decide +kernel
theorem dX9_waitSum_10 : decode cX9_waitSum 10 = .ok (.getfield 68, 3) := by decide +kernel
theorem dX9_waitSum_13 : decode cX9_waitSum 13 = .ok (.if_icmp .ge 25, 3) := by decide +kernel
theorem dX9_waitSum_16 : decode cX9_waitSum 16 = .ok (.iload_n 1, 1) := by decide +kernel
theorem dX9_waitSum_17 : decode cX9_waitSum 17 = .ok (.aload_n 0, 1) := by decide +kernel
theorem dX9_waitSum_18 : decode cX9_waitSum 18 = .ok (.getfield 34, 3) := by decide +kernel
theorem dX9_waitSum_21 : decode cX9_waitSum 21 = .ok (.iload_n 2, 1) := by decide +kernel
theorem dX9_waitSum_22 : decode cX9_waitSum 22 = .ok (.iaload, 1) := by decide +kernel
theorem dX9_waitSum_23 : decode cX9_waitSum 23 = .ok (.aload_n 0, 1) := by decide +kernel
theorem dX9_waitSum_24 : decode cX9_waitSum 24 = .ok (.getfield 13, 3) := by decide +kernel
theorem dX9_waitSum_27 : decode cX9_waitSum 27 = .ok (.iload_n 2, 1) := by decide +kernel
theorem dX9_waitSum_28 : decode cX9_waitSum 28 = .ok (.iaload, 1) := by decide +kernel
theorem dX9_waitSum_29 : decode cX9_waitSum 29 = .ok (.isub, 1) := by decide +kernel
theorem dX9_waitSum_30 : decode cX9_waitSum 30 = .ok (.iadd, 1) := by decide +kernel
theorem dX9_waitSum_31 : decode cX9_waitSum 31 = .ok (.istore_n 1, 1) := by decide +kernel
theorem dX9_waitSum_32 : decode cX9_waitSum 32 = .ok (.iinc 2 1, 3) := by decide +kernel
theorem dX9_waitSum_35 : decode cX9_waitSum 35 = .ok (.goto (-27), 3) := by decide +kernel
theorem dX9_waitSum_38 : decode cX9_waitSum 38 = .ok (.iload_n 1, 1) := by decide +kernel
theorem dX9_waitSum_39 : decode cX9_waitSum 39 = .ok (.ireturn, 1) := by decide +kernel
set_option maxRecDepth 20000 in
theorem ggX9_waits_X9_in : GoodIn wsX9_waits wsX9_in := goodIn_r _ [5] (by decide +kernel) (by decide +kernel)
set_option maxRecDepth 20000 in
theorem gX9_waits_X9_in : GoodIn wsX9_waits (va_wsS RX9 71 yX9_in wsX9_in) := goodIn_app (goodIn_of _ (by decide +kernel)) ggX9_waits_X9_in
set_option maxRecDepth 20000 in
theorem ggX9_waits_X9_lost : GoodIn wsX9_waits wsX9_lost := goodIn_r _ [8, 9] (by decide +kernel) (by decide +kernel)
set_option maxRecDepth 20000 in
theorem gX9_waits_X9_lost : GoodIn wsX9_waits (va_wsS RX9 64 yX9_lost wsX9_lost) := goodIn_app (goodIn_of _ (by decide +kernel)) ggX9_waits_X9_lost
set_option maxRecDepth 20000 in
theorem ggX9_waits_X9_waitSum : GoodIn wsX9_waits wsX9_waitSum := goodIn_r _ [13, 1, 14, 15, 16, 17, 18, 4, 19, 20, 21, 22, 23, 24, 25, 26, 27, 28, 29, 30, 31, 32, 33, 34, 35, 36, 37, 38, 39, 40, 41, 42, 43, 44, 45, 46, 47, 48, 49, 50, 51, 52, 53, 54, 55, 56, 57, 58, 59, 60, 61, 62, 63, 64, 65, 66, 67, 68, 69, 70, 71, 75, 76, 77, 78, 79, 80, 81, 82, 83, 84, 85, 86, 87, 88, 89, 90, 91, 92, 93, 94, 95, 96, 97, 98, 99, 100, 101, 102, 103, 104, 105] (by decide +kernel) (by decide +kernel)
set_option maxRecDepth 20000 in
theorem gX9_waits_X9_waitSum : GoodIn wsX9_waits (wsV RX9 189 RX9 yX9_waitSum wsX9_waitSum) := goodIn_app (goodIn_of _ (by decide +kernel)) ggX9_waits_X9_waitSum
set_option maxRecDepth 20000 in
theorem ggX9_waits_X9_told : GoodIn wsX9_waits wsX9_told := goodIn_r _ [74] (by decide +kernel) (by decide +kernel)
set_option maxRecDepth 20000 in
theorem gX9_waits_X9_told : GoodIn wsX9_waits (va_wsS RX9 192 yX9_told wsX9_told) := goodIn_app (goodIn_of _ (by decide +kernel)) ggX9_waits_X9_told
theorem dX9_waits_0 : decode cX9_waits 0 = .ok (.iload_n 1, 1) := by decide +kernel
theorem dX9_waits_1 : decode cX9_waits 1 = .ok (.i2l, 1) := by decide +kernel
theorem dX9_waits_2 : decode cX9_waits 2 = .ok (.lconst 0, 1) := by decide +kernel
theorem dX9_waits_3 : decode cX9_waits 3 = .ok (.lconst 1, 1) := by decide +kernel
theorem dX9_waits_4 : decode cX9_waits 4 = .ok (.invokestatic 71, 3) := by decide +kernel
theorem dX9_waits_7 : decode cX9_waits 7 = .ok (.ifCond .eq 10, 3) := by decide +kernel
theorem dX9_waits_10 : decode cX9_waits 10 = .ok (.aload_n 0, 1) := by decide +kernel
theorem dX9_waits_11 : decode cX9_waits 11 = .ok (.getfield 68, 3) := by decide +kernel
theorem dX9_waits_14 : decode cX9_waits 14 = .ok (.ifCond .ne 7, 3) := by decide +kernel
theorem dX9_waits_17 : decode cX9_waits 17 = .ok (.invokestatic 64, 3) := by decide +kernel
theorem dX9_waits_20 : decode cX9_waits 20 = .ok (.lreturn, 1) := by decide +kernel
theorem dX9_waits_21 : decode cX9_waits 21 = .ok (.aload_n 0, 1) := by decide +kernel
theorem dX9_waits_22 : decode cX9_waits 22 = .ok (.invokevirtual 189, 3) := by decide +kernel
theorem dX9_waits_25 : decode cX9_waits 25 = .ok (.i2l, 1) := by decide +kernel
theorem dX9_waits_26 : decode cX9_waits 26 = .ok (.aload_n 0, 1) := by decide +kernel
theorem dX9_waits_27 : decode cX9_waits 27 = .ok (.getfield 68, 3) := by decide +kernel
theorem dX9_waits_30 : decode cX9_waits 30 = .ok (.i2l, 1) := by decide +kernel
theorem dX9_waits_31 : decode cX9_waits 31 = .ok (.iload_n 1, 1) := by decide +kernel
theorem dX9_waits_32 : decode cX9_waits 32 = .ok (.invokestatic 192, 3) := by decide +kernel
theorem dX9_waits_35 : decode cX9_waits 35 = .ok (.lreturn, 1) := by decide +kernel
set_option maxRecDepth 20000 in
theorem ggX9_best_X9_noPerson : GoodIn wsX9_best wsX9_noPerson := goodIn_r _ [7, 8, 9, 10, 6, 11, 68, 69, 70, 71, 72, 73, 74, 75, 76, 77, 78, 79, 80, 81, 82, 83, 84, 85, 86, 87, 88, 89, 90, 91, 92, 93, 94, 95, 96, 97, 98] (by decide +kernel) (by decide +kernel)
set_option maxRecDepth 20000 in
theorem gX9_best_X9_noPerson : GoodIn wsX9_best (wsV RX9 128 RX9 yX9_noPerson wsX9_noPerson) := goodIn_app (goodIn_of _ (by decide +kernel)) ggX9_best_X9_noPerson
set_option maxRecDepth 20000 in
theorem ggX9_best_X9_in : GoodIn wsX9_best wsX9_in := goodIn_r _ [11] (by decide +kernel) (by decide +kernel)
set_option maxRecDepth 20000 in
theorem gX9_best_X9_in : GoodIn wsX9_best (va_wsS RX9 71 yX9_in wsX9_in) := goodIn_app (goodIn_of _ (by decide +kernel)) ggX9_best_X9_in
set_option maxRecDepth 20000 in
theorem ggX9_best_X9_goNow : GoodIn wsX9_best wsX9_goNow := goodIn_r _ [15, 16, 17, 18, 19, 6, 20, 8, 21, 22, 23, 24, 25, 26, 27, 28, 29, 30, 2, 31, 32, 33, 34, 35, 36, 1, 37, 38, 39, 40, 41, 42, 43, 44, 45, 46, 47, 48, 49, 50, 51, 52, 53, 54, 55, 56, 57, 58, 59, 60, 61, 62, 63, 64, 65, 66, 67, 68, 69, 70, 71, 72, 73, 74, 75, 76, 77, 78, 79, 80, 81, 82, 83, 84, 85, 86, 87, 88, 89, 90, 91, 92, 93, 94, 95, 96, 97, 98] (by decide +kernel) (by decide +kernel)
set_option maxRecDepth 20000 in
theorem gX9_best_X9_goNow : GoodIn wsX9_best (wsV RX9 184 RX9 yX9_goNow wsX9_goNow) := goodIn_app (goodIn_of _ (by decide +kernel)) ggX9_best_X9_goNow
theorem dX9_best_0 : decode cX9_best 0 = .ok (.aload_n 0, 1) := by decide +kernel
theorem dX9_best_1 : decode cX9_best 1 = .ok (.iload_n 1, 1) := by decide +kernel
theorem dX9_best_2 : decode cX9_best 2 = .ok (.invokevirtual 128, 3) := by decide +kernel
theorem dX9_best_5 : decode cX9_best 5 = .ok (.ifCond .eq 5, 3) := by decide +kernel
theorem dX9_best_8 : decode cX9_best 8 = .ok (.iconst (-1), 1) := by decide +kernel
theorem dX9_best_9 : decode cX9_best 9 = .ok (.ireturn, 1) := by decide +kernel
theorem dX9_best_10 : decode cX9_best 10 = .ok (.iload_n 2, 1) := by decide +kernel
theorem dX9_best_11 : decode cX9_best 11 = .ok (.i2l, 1) := by decide +kernel
theorem dX9_best_12 : decode cX9_best 12 = .ok (.lconst 0, 1) := by decide +kernel
theorem dX9_best_13 : decode cX9_best 13 = .ok (.lconst 1, 1) := by decide +kernel
theorem dX9_best_14 : decode cX9_best 14 = .ok (.invokestatic 71, 3) := by decide +kernel
theorem dX9_best_17 : decode cX9_best 17 = .ok (.ifCond .ne 6, 3) := by decide +kernel
theorem dX9_best_20 : decode cX9_best 20 = .ok (.bipush (-2), 2) := by decide +kernel
theorem dX9_best_22 : decode cX9_best 22 = .ok (.ireturn, 1) := by decide +kernel
theorem dX9_best_23 : decode cX9_best 23 = .ok (.aload_n 0, 1) := by decide +kernel
theorem dX9_best_24 : decode cX9_best 24 = .ok (.getfield 13, 3) := by decide +kernel
theorem dX9_best_27 : decode cX9_best 27 = .ok (.iload_n 1, 1) := by decide +kernel
theorem dX9_best_28 : decode cX9_best 28 = .ok (.iaload, 1) := by decide +kernel
theorem dX9_best_29 : decode cX9_best 29 = .ok (.istore_n 3, 1) := by decide +kernel
theorem dX9_best_30 : decode cX9_best 30 = .ok (.bipush (-9), 2) := by decide +kernel
theorem dX9_best_32 : decode cX9_best 32 = .ok (.istore 4, 2) := by decide +kernel
theorem dX9_best_34 : decode cX9_best 34 = .ok (.sipush 200, 3) := by decide +kernel
theorem dX9_best_37 : decode cX9_best 37 = .ok (.istore 5, 2) := by decide +kernel
theorem dX9_best_39 : decode cX9_best 39 = .ok (.iconst 0, 1) := by decide +kernel
theorem dX9_best_40 : decode cX9_best 40 = .ok (.istore 6, 2) := by decide +kernel
theorem dX9_best_42 : decode cX9_best 42 = .ok (.iload 6, 2) := by decide +kernel
theorem dX9_best_44 : decode cX9_best 44 = .ok (.bipush 60, 2) := by decide +kernel
theorem dX9_best_46 : decode cX9_best 46 = .ok (.if_icmp .ge 44, 3) := by decide +kernel
theorem dX9_best_49 : decode cX9_best 49 = .ok (.aload_n 0, 1) := by decide +kernel
theorem dX9_best_50 : decode cX9_best 50 = .ok (.getfield 13, 3) := by decide +kernel
theorem dX9_best_53 : decode cX9_best 53 = .ok (.iload_n 1, 1) := by decide +kernel
theorem dX9_best_54 : decode cX9_best 54 = .ok (.iload 6, 2) := by decide +kernel
theorem dX9_best_56 : decode cX9_best 56 = .ok (.iastore, 1) := by decide +kernel
theorem dX9_best_57 : decode cX9_best 57 = .ok (.aload_n 0, 1) := by decide +kernel
theorem dX9_best_58 : decode cX9_best 58 = .ok (.invokevirtual 184, 3) := by decide +kernel
theorem dX9_best_61 : decode cX9_best 61 = .ok (.aload_n 0, 1) := by decide +kernel
theorem dX9_best_62 : decode cX9_best 62 = .ok (.getfield 34, 3) := by decide +kernel
theorem dX9_best_65 : decode cX9_best 65 = .ok (.iload_n 1, 1) := by decide +kernel
theorem dX9_best_66 : decode cX9_best 66 = .ok (.iaload, 1) := by decide +kernel
theorem dX9_best_67 : decode cX9_best 67 = .ok (.iload 5, 2) := by decide +kernel
theorem dX9_best_69 : decode cX9_best 69 = .ok (.if_icmp .gt 15, 3) := by decide +kernel
theorem dX9_best_72 : decode cX9_best 72 = .ok (.iload 6, 2) := by decide +kernel
theorem dX9_best_74 : decode cX9_best 74 = .ok (.istore 4, 2) := by decide +kernel
theorem dX9_best_76 : decode cX9_best 76 = .ok (.aload_n 0, 1) := by decide +kernel
theorem dX9_best_77 : decode cX9_best 77 = .ok (.getfield 34, 3) := by decide +kernel
theorem dX9_best_80 : decode cX9_best 80 = .ok (.iload_n 1, 1) := by decide +kernel
theorem dX9_best_81 : decode cX9_best 81 = .ok (.iaload, 1) := by decide +kernel
theorem dX9_best_82 : decode cX9_best 82 = .ok (.istore 5, 2) := by decide +kernel
theorem dX9_best_84 : decode cX9_best 84 = .ok (.iinc 6 1, 3) := by decide +kernel
theorem dX9_best_87 : decode cX9_best 87 = .ok (.goto (-45), 3) := by decide +kernel
theorem dX9_best_90 : decode cX9_best 90 = .ok (.aload_n 0, 1) := by decide +kernel
theorem dX9_best_91 : decode cX9_best 91 = .ok (.getfield 13, 3) := by decide +kernel
theorem dX9_best_94 : decode cX9_best 94 = .ok (.iload_n 1, 1) := by decide +kernel
theorem dX9_best_95 : decode cX9_best 95 = .ok (.iload_n 3, 1) := by decide +kernel
theorem dX9_best_96 : decode cX9_best 96 = .ok (.iastore, 1) := by decide +kernel
theorem dX9_best_97 : decode cX9_best 97 = .ok (.iload_n 2, 1) := by decide +kernel
theorem dX9_best_98 : decode cX9_best 98 = .ok (.ifCond .ne 8, 3) := by decide +kernel
theorem dX9_best_101 : decode cX9_best 101 = .ok (.iload 4, 2) := by decide +kernel
theorem dX9_best_103 : decode cX9_best 103 = .ok (.goto 5, 3) := by decide +kernel
theorem dX9_best_106 : decode cX9_best 106 = .ok (.iload 5, 2) := by decide +kernel
theorem dX9_best_108 : decode cX9_best 108 = .ok (.ireturn, 1) := by decide +kernel
set_option maxRecDepth 20000 in
theorem ggX9_settles_X9_goNow : GoodIn wsX9_settles wsX9_goNow := goodIn_r _ [7, 8, 9, 10, 11, 6, 12, 13, 14, 15, 16, 17, 18, 19, 20, 21, 22, 23, 2, 24, 25, 26, 27, 28, 29, 1, 30, 31, 32, 33, 34, 35, 36, 37, 38, 39, 40, 41, 42, 43, 44, 45, 46, 47, 48, 49, 50, 51, 52, 53, 54, 55, 56, 57, 58, 59, 60, 61, 62, 63, 64, 65, 66, 67, 68, 69, 70, 71, 72, 73, 74, 75, 76, 77, 78, 79, 80, 81, 82, 83, 84, 85, 86, 87, 88, 89, 90, 91] (by decide +kernel) (by decide +kernel)
set_option maxRecDepth 20000 in
theorem gX9_settles_X9_goNow : GoodIn wsX9_settles (wsV RX9 184 RX9 yX9_goNow wsX9_goNow) := goodIn_app (goodIn_of _ (by decide +kernel)) ggX9_settles_X9_goNow
theorem dX9_settles_0 : decode cX9_settles 0 = .ok (.aload_n 0, 1) := by decide +kernel
theorem dX9_settles_1 : decode cX9_settles 1 = .ok (.getfield 13, 3) := by decide +kernel
theorem dX9_settles_4 : decode cX9_settles 4 = .ok (.iload_n 1, 1) := by decide +kernel
theorem dX9_settles_5 : decode cX9_settles 5 = .ok (.iaload, 1) := by decide +kernel
theorem dX9_settles_6 : decode cX9_settles 6 = .ok (.istore_n 2, 1) := by decide +kernel
theorem dX9_settles_7 : decode cX9_settles 7 = .ok (.aload_n 0, 1) := by decide +kernel
theorem dX9_settles_8 : decode cX9_settles 8 = .ok (.invokevirtual 184, 3) := by decide +kernel
theorem dX9_settles_11 : decode cX9_settles 11 = .ok (.aload_n 0, 1) := by decide +kernel
theorem dX9_settles_12 : decode cX9_settles 12 = .ok (.getfield 34, 3) := by decide +kernel
theorem dX9_settles_15 : decode cX9_settles 15 = .ok (.iload_n 1, 1) := by decide +kernel
theorem dX9_settles_16 : decode cX9_settles 16 = .ok (.iaload, 1) := by decide +kernel
theorem dX9_settles_17 : decode cX9_settles 17 = .ok (.iload_n 2, 1) := by decide +kernel
theorem dX9_settles_18 : decode cX9_settles 18 = .ok (.isub, 1) := by decide +kernel
theorem dX9_settles_19 : decode cX9_settles 19 = .ok (.istore_n 3, 1) := by decide +kernel
theorem dX9_settles_20 : decode cX9_settles 20 = .ok (.iload_n 2, 1) := by decide +kernel
theorem dX9_settles_21 : decode cX9_settles 21 = .ok (.istore 4, 2) := by decide +kernel
theorem dX9_settles_23 : decode cX9_settles 23 = .ok (.iconst 0, 1) := by decide +kernel
theorem dX9_settles_24 : decode cX9_settles 24 = .ok (.istore 5, 2) := by decide +kernel
theorem dX9_settles_26 : decode cX9_settles 26 = .ok (.iload 5, 2) := by decide +kernel
theorem dX9_settles_28 : decode cX9_settles 28 = .ok (.bipush 60, 2) := by decide +kernel
theorem dX9_settles_30 : decode cX9_settles 30 = .ok (.if_icmp .ge 48, 3) := by decide +kernel
theorem dX9_settles_33 : decode cX9_settles 33 = .ok (.aload_n 0, 1) := by decide +kernel
theorem dX9_settles_34 : decode cX9_settles 34 = .ok (.getfield 13, 3) := by decide +kernel
theorem dX9_settles_37 : decode cX9_settles 37 = .ok (.iload_n 1, 1) := by decide +kernel
theorem dX9_settles_38 : decode cX9_settles 38 = .ok (.iload 5, 2) := by decide +kernel
theorem dX9_settles_40 : decode cX9_settles 40 = .ok (.iastore, 1) := by decide +kernel
theorem dX9_settles_41 : decode cX9_settles 41 = .ok (.aload_n 0, 1) := by decide +kernel
theorem dX9_settles_42 : decode cX9_settles 42 = .ok (.invokevirtual 184, 3) := by decide +kernel
theorem dX9_settles_45 : decode cX9_settles 45 = .ok (.aload_n 0, 1) := by decide +kernel
theorem dX9_settles_46 : decode cX9_settles 46 = .ok (.getfield 34, 3) := by decide +kernel
theorem dX9_settles_49 : decode cX9_settles 49 = .ok (.iload_n 1, 1) := by decide +kernel
theorem dX9_settles_50 : decode cX9_settles 50 = .ok (.iaload, 1) := by decide +kernel
theorem dX9_settles_51 : decode cX9_settles 51 = .ok (.iload 5, 2) := by decide +kernel
theorem dX9_settles_53 : decode cX9_settles 53 = .ok (.isub, 1) := by decide +kernel
theorem dX9_settles_54 : decode cX9_settles 54 = .ok (.iload_n 3, 1) := by decide +kernel
theorem dX9_settles_55 : decode cX9_settles 55 = .ok (.if_icmp .ge 17, 3) := by decide +kernel
theorem dX9_settles_58 : decode cX9_settles 58 = .ok (.iload 5, 2) := by decide +kernel
theorem dX9_settles_60 : decode cX9_settles 60 = .ok (.istore 4, 2) := by decide +kernel
theorem dX9_settles_62 : decode cX9_settles 62 = .ok (.aload_n 0, 1) := by decide +kernel
theorem dX9_settles_63 : decode cX9_settles 63 = .ok (.getfield 34, 3) := by decide +kernel
theorem dX9_settles_66 : decode cX9_settles 66 = .ok (.iload_n 1, 1) := by decide +kernel
theorem dX9_settles_67 : decode cX9_settles 67 = .ok (.iaload, 1) := by decide +kernel
theorem dX9_settles_68 : decode cX9_settles 68 = .ok (.iload 5, 2) := by decide +kernel
theorem dX9_settles_70 : decode cX9_settles 70 = .ok (.isub, 1) := by decide +kernel
theorem dX9_settles_71 : decode cX9_settles 71 = .ok (.istore_n 3, 1) := by decide +kernel
theorem dX9_settles_72 : decode cX9_settles 72 = .ok (.iinc 5 1, 3) := by decide +kernel
theorem dX9_settles_75 : decode cX9_settles 75 = .ok (.goto (-49), 3) := by decide +kernel
theorem dX9_settles_78 : decode cX9_settles 78 = .ok (.aload_n 0, 1) := by decide +kernel
theorem dX9_settles_79 : decode cX9_settles 79 = .ok (.getfield 13, 3) := by decide +kernel
theorem dX9_settles_82 : decode cX9_settles 82 = .ok (.iload_n 1, 1) := by decide +kernel
theorem dX9_settles_83 : decode cX9_settles 83 = .ok (.iload 4, 2) := by decide +kernel
theorem dX9_settles_85 : decode cX9_settles 85 = .ok (.iastore, 1) := by decide +kernel
theorem dX9_settles_86 : decode cX9_settles 86 = .ok (.iload 4, 2) := by decide +kernel
theorem dX9_settles_88 : decode cX9_settles 88 = .ok (.iload_n 2, 1) := by decide +kernel
theorem dX9_settles_89 : decode cX9_settles 89 = .ok (.if_icmp .eq 7, 3) := by decide +kernel
theorem dX9_settles_92 : decode cX9_settles 92 = .ok (.iconst 1, 1) := by decide +kernel
theorem dX9_settles_93 : decode cX9_settles 93 = .ok (.goto 4, 3) := by decide +kernel
theorem dX9_settles_96 : decode cX9_settles 96 = .ok (.iconst 0, 1) := by decide +kernel
theorem dX9_settles_97 : decode cX9_settles 97 = .ok (.ireturn, 1) := by decide +kernel
set_option maxRecDepth 20000 in
theorem ggX9_calm_X9_noPerson : GoodIn wsX9_calm wsX9_noPerson := goodIn_r _ [8, 1, 9, 10, 7, 11, 73, 74, 75, 76, 77, 78, 79, 80, 81, 82, 83, 84, 85, 86, 87, 88, 89, 90, 91, 92, 93, 94, 95, 96, 97, 98, 99, 100, 101, 102, 103] (by decide +kernel) (by decide +kernel)
set_option maxRecDepth 20000 in
theorem gX9_calm_X9_noPerson : GoodIn wsX9_calm (wsV RX9 128 RX9 yX9_noPerson wsX9_noPerson) := goodIn_app (goodIn_of _ (by decide +kernel)) ggX9_calm_X9_noPerson
set_option maxRecDepth 20000 in
theorem ggX9_calm_X9_settles : GoodIn wsX9_calm wsX9_settles := goodIn_r _ [15, 3, 16, 17, 18, 19, 7, 20, 21, 22, 23, 24, 25, 1, 26, 27, 28, 29, 30, 31, 32, 33, 34, 35, 36, 37, 38, 39, 40, 41, 42, 43, 44, 45, 46, 47, 48, 49, 50, 51, 52, 53, 54, 55, 56, 57, 58, 59, 60, 61, 62, 63, 64, 65, 66, 67, 68, 69, 70, 71, 72, 73, 74, 75, 76, 77, 78, 79, 80, 81, 82, 83, 84, 85, 86, 87, 88, 89, 90, 91, 92, 93, 94, 95, 96, 97, 98, 99, 100, 101, 102, 103] (by decide +kernel) (by decide +kernel)
set_option maxRecDepth 20000 in
theorem gX9_calm_X9_settles : GoodIn wsX9_calm (wsV RX9 196 RX9 yX9_settles wsX9_settles) := goodIn_app (goodIn_of _ (by decide +kernel)) ggX9_calm_X9_settles
theorem dX9_calm_0 : decode cX9_calm 0 = .ok (.iload_n 1, 1) := by decide +kernel
theorem dX9_calm_1 : decode cX9_calm 1 = .ok (.iconst (-1), 1) := by decide +kernel
theorem dX9_calm_2 : decode cX9_calm 2 = .ok (.if_icmp .lt 15, 3) := by decide +kernel
theorem dX9_calm_5 : decode cX9_calm 5 = .ok (.iload_n 1, 1) := by decide +kernel
theorem dX9_calm_6 : decode cX9_calm 6 = .ok (.ifCond .lt 13, 3) := by decide +kernel
theorem dX9_calm_9 : decode cX9_calm 9 = .ok (.aload_n 0, 1) := by decide +kernel
theorem dX9_calm_10 : decode cX9_calm 10 = .ok (.iload_n 1, 1) := by decide +kernel
theorem dX9_calm_11 : decode cX9_calm 11 = .ok (.invokevirtual 128, 3) := by decide +kernel
theorem dX9_calm_14 : decode cX9_calm 14 = .ok (.ifCond .eq 5, 3) := by decide +kernel
theorem dX9_calm_17 : decode cX9_calm 17 = .ok (.iconst (-1), 1) := by decide +kernel
theorem dX9_calm_18 : decode cX9_calm 18 = .ok (.ireturn, 1) := by decide +kernel
theorem dX9_calm_19 : decode cX9_calm 19 = .ok (.aload_n 0, 1) := by decide +kernel
theorem dX9_calm_20 : decode cX9_calm 20 = .ok (.getfield 68, 3) := by decide +kernel
theorem dX9_calm_23 : decode cX9_calm 23 = .ok (.ifCond .ne 6, 3) := by decide +kernel
theorem dX9_calm_26 : decode cX9_calm 26 = .ok (.bipush (-3), 2) := by decide +kernel
theorem dX9_calm_28 : decode cX9_calm 28 = .ok (.ireturn, 1) := by decide +kernel
theorem dX9_calm_29 : decode cX9_calm 29 = .ok (.iconst 0, 1) := by decide +kernel
theorem dX9_calm_30 : decode cX9_calm 30 = .ok (.istore_n 2, 1) := by decide +kernel
theorem dX9_calm_31 : decode cX9_calm 31 = .ok (.iload_n 2, 1) := by decide +kernel
theorem dX9_calm_32 : decode cX9_calm 32 = .ok (.aload_n 0, 1) := by decide +kernel
theorem dX9_calm_33 : decode cX9_calm 33 = .ok (.getfield 68, 3) := by decide +kernel
theorem dX9_calm_36 : decode cX9_calm 36 = .ok (.if_icmp .ge 21, 3) := by decide +kernel
theorem dX9_calm_39 : decode cX9_calm 39 = .ok (.aload_n 0, 1) := by decide +kernel
theorem dX9_calm_40 : decode cX9_calm 40 = .ok (.getfield 37, 3) := by decide +kernel
theorem dX9_calm_43 : decode cX9_calm 43 = .ok (.iload_n 2, 1) := by decide +kernel
theorem dX9_calm_44 : decode cX9_calm 44 = .ok (.aload_n 0, 1) := by decide +kernel
theorem dX9_calm_45 : decode cX9_calm 45 = .ok (.getfield 13, 3) := by decide +kernel
theorem dX9_calm_48 : decode cX9_calm 48 = .ok (.iload_n 2, 1) := by decide +kernel
theorem dX9_calm_49 : decode cX9_calm 49 = .ok (.iaload, 1) := by decide +kernel
theorem dX9_calm_50 : decode cX9_calm 50 = .ok (.iastore, 1) := by decide +kernel
theorem dX9_calm_51 : decode cX9_calm 51 = .ok (.iinc 2 1, 3) := by decide +kernel
theorem dX9_calm_54 : decode cX9_calm 54 = .ok (.goto (-23), 3) := by decide +kernel
theorem dX9_calm_57 : decode cX9_calm 57 = .ok (.bipush (-9), 2) := by decide +kernel
theorem dX9_calm_59 : decode cX9_calm 59 = .ok (.istore_n 2, 1) := by decide +kernel
theorem dX9_calm_60 : decode cX9_calm 60 = .ok (.iconst 0, 1) := by decide +kernel
theorem dX9_calm_61 : decode cX9_calm 61 = .ok (.istore_n 3, 1) := by decide +kernel
theorem dX9_calm_62 : decode cX9_calm 62 = .ok (.iload_n 3, 1) := by decide +kernel
theorem dX9_calm_63 : decode cX9_calm 63 = .ok (.bipush 40, 2) := by decide +kernel
theorem dX9_calm_65 : decode cX9_calm 65 = .ok (.if_icmp .ge 67, 3) := by decide +kernel
theorem dX9_calm_68 : decode cX9_calm 68 = .ok (.iload_n 2, 1) := by decide +kernel
theorem dX9_calm_69 : decode cX9_calm 69 = .ok (.ifCond .ge 63, 3) := by decide +kernel
theorem dX9_calm_72 : decode cX9_calm 72 = .ok (.iconst 0, 1) := by decide +kernel
theorem dX9_calm_73 : decode cX9_calm 73 = .ok (.istore 4, 2) := by decide +kernel
theorem dX9_calm_75 : decode cX9_calm 75 = .ok (.iconst 0, 1) := by decide +kernel
theorem dX9_calm_76 : decode cX9_calm 76 = .ok (.istore 5, 2) := by decide +kernel
theorem dX9_calm_78 : decode cX9_calm 78 = .ok (.iload 5, 2) := by decide +kernel
theorem dX9_calm_80 : decode cX9_calm 80 = .ok (.aload_n 0, 1) := by decide +kernel
theorem dX9_calm_81 : decode cX9_calm 81 = .ok (.getfield 68, 3) := by decide +kernel
theorem dX9_calm_84 : decode cX9_calm 84 = .ok (.if_icmp .ge 30, 3) := by decide +kernel
theorem dX9_calm_87 : decode cX9_calm 87 = .ok (.aload_n 0, 1) := by decide +kernel
theorem dX9_calm_88 : decode cX9_calm 88 = .ok (.iload 5, 2) := by decide +kernel
theorem dX9_calm_90 : decode cX9_calm 90 = .ok (.invokevirtual 196, 3) := by decide +kernel
theorem dX9_calm_93 : decode cX9_calm 93 = .ok (.ifCond .ne 8, 3) := by decide +kernel
theorem dX9_calm_96 : decode cX9_calm 96 = .ok (.iload 4, 2) := by decide +kernel
theorem dX9_calm_98 : decode cX9_calm 98 = .ok (.ifCond .eq 7, 3) := by decide +kernel
theorem dX9_calm_101 : decode cX9_calm 101 = .ok (.iconst 1, 1) := by decide +kernel
theorem dX9_calm_102 : decode cX9_calm 102 = .ok (.goto 4, 3) := by decide +kernel
theorem dX9_calm_105 : decode cX9_calm 105 = .ok (.iconst 0, 1) := by decide +kernel
theorem dX9_calm_106 : decode cX9_calm 106 = .ok (.istore 4, 2) := by decide +kernel
theorem dX9_calm_108 : decode cX9_calm 108 = .ok (.iinc 5 1, 3) := by decide +kernel
theorem dX9_calm_111 : decode cX9_calm 111 = .ok (.goto (-33), 3) := by decide +kernel
theorem dX9_calm_114 : decode cX9_calm 114 = .ok (.iload 4, 2) := by decide +kernel
theorem dX9_calm_116 : decode cX9_calm 116 = .ok (.ifCond .eq 8, 3) := by decide +kernel
theorem dX9_calm_119 : decode cX9_calm 119 = .ok (.bipush (-9), 2) := by decide +kernel
theorem dX9_calm_121 : decode cX9_calm 121 = .ok (.goto 4, 3) := by decide +kernel
theorem dX9_calm_124 : decode cX9_calm 124 = .ok (.iload_n 3, 1) := by decide +kernel
theorem dX9_calm_125 : decode cX9_calm 125 = .ok (.istore_n 2, 1) := by decide +kernel
theorem dX9_calm_126 : decode cX9_calm 126 = .ok (.iinc 3 1, 3) := by decide +kernel
theorem dX9_calm_129 : decode cX9_calm 129 = .ok (.goto (-67), 3) := by decide +kernel
theorem dX9_calm_132 : decode cX9_calm 132 = .ok (.iload_n 1, 1) := by decide +kernel
theorem dX9_calm_133 : decode cX9_calm 133 = .ok (.ifCond .ge 7, 3) := by decide +kernel
theorem dX9_calm_136 : decode cX9_calm 136 = .ok (.iload_n 2, 1) := by decide +kernel
theorem dX9_calm_137 : decode cX9_calm 137 = .ok (.goto 9, 3) := by decide +kernel
theorem dX9_calm_140 : decode cX9_calm 140 = .ok (.aload_n 0, 1) := by decide +kernel
theorem dX9_calm_141 : decode cX9_calm 141 = .ok (.getfield 13, 3) := by decide +kernel
theorem dX9_calm_144 : decode cX9_calm 144 = .ok (.iload_n 1, 1) := by decide +kernel
theorem dX9_calm_145 : decode cX9_calm 145 = .ok (.iaload, 1) := by decide +kernel
theorem dX9_calm_146 : decode cX9_calm 146 = .ok (.istore_n 3, 1) := by decide +kernel
theorem dX9_calm_147 : decode cX9_calm 147 = .ok (.iconst 0, 1) := by decide +kernel
theorem dX9_calm_148 : decode cX9_calm 148 = .ok (.istore 4, 2) := by decide +kernel
theorem dX9_calm_150 : decode cX9_calm 150 = .ok (.iload 4, 2) := by decide +kernel
theorem dX9_calm_152 : decode cX9_calm 152 = .ok (.aload_n 0, 1) := by decide +kernel
theorem dX9_calm_153 : decode cX9_calm 153 = .ok (.getfield 68, 3) := by decide +kernel
theorem dX9_calm_156 : decode cX9_calm 156 = .ok (.if_icmp .ge 23, 3) := by decide +kernel
theorem dX9_calm_159 : decode cX9_calm 159 = .ok (.aload_n 0, 1) := by decide +kernel
theorem dX9_calm_160 : decode cX9_calm 160 = .ok (.getfield 13, 3) := by decide +kernel
theorem dX9_calm_163 : decode cX9_calm 163 = .ok (.iload 4, 2) := by decide +kernel
theorem dX9_calm_165 : decode cX9_calm 165 = .ok (.aload_n 0, 1) := by decide +kernel
theorem dX9_calm_166 : decode cX9_calm 166 = .ok (.getfield 37, 3) := by decide +kernel
theorem dX9_calm_169 : decode cX9_calm 169 = .ok (.iload 4, 2) := by decide +kernel
theorem dX9_calm_171 : decode cX9_calm 171 = .ok (.iaload, 1) := by decide +kernel
theorem dX9_calm_172 : decode cX9_calm 172 = .ok (.iastore, 1) := by decide +kernel
theorem dX9_calm_173 : decode cX9_calm 173 = .ok (.iinc 4 1, 3) := by decide +kernel
theorem dX9_calm_176 : decode cX9_calm 176 = .ok (.goto (-26), 3) := by decide +kernel
theorem dX9_calm_179 : decode cX9_calm 179 = .ok (.iload_n 3, 1) := by decide +kernel
theorem dX9_calm_180 : decode cX9_calm 180 = .ok (.ireturn, 1) := by decide +kernel
theorem dX9_leastSum_0 : decode cX9_leastSum 0 = .ok (.iconst 0, 1) := by decide +kernel
theorem dX9_leastSum_1 : decode cX9_leastSum 1 = .ok (.istore_n 1, 1) := by decide +kernel
theorem dX9_leastSum_2 : decode cX9_leastSum 2 = .ok (.iconst 0, 1) := by decide +kernel
theorem dX9_leastSum_3 : decode cX9_leastSum 3 = .ok (.istore_n 2, 1) := by decide +kernel
theorem dX9_leastSum_4 : decode cX9_leastSum 4 = .ok (.iconst 0, 1) := by decide +kernel
theorem dX9_leastSum_5 : decode cX9_leastSum 5 = .ok (.istore_n 3, 1) := by decide +kernel
theorem dX9_leastSum_6 : decode cX9_leastSum 6 = .ok (.iconst 0, 1) := by decide +kernel
theorem dX9_leastSum_7 : decode cX9_leastSum 7 = .ok (.istore 4, 2) := by decide +kernel
theorem dX9_leastSum_9 : decode cX9_leastSum 9 = .ok (.iload 4, 2) := by decide +kernel
theorem dX9_leastSum_11 : decode cX9_leastSum 11 = .ok (.sipush 200, 3) := by decide +kernel
theorem dX9_leastSum_14 : decode cX9_leastSum 14 = .ok (.if_icmp .ge 137, 3) := by decide +kernel
theorem dX9_leastSum_17 : decode cX9_leastSum 17 = .ok (.bipush (-9), 2) := by decide +kernel
theorem dX9_leastSum_19 : decode cX9_leastSum 19 = .ok (.istore 5, 2) := by decide +kernel
theorem dX9_leastSum_21 : decode cX9_leastSum 21 = .ok (.iconst 0, 1) := by decide +kernel
theorem dX9_leastSum_22 : decode cX9_leastSum 22 = .ok (.istore 6, 2) := by decide +kernel
theorem dX9_leastSum_24 : decode cX9_leastSum 24 = .ok (.iload 6, 2) := by decide +kernel
theorem dX9_leastSum_26 : decode cX9_leastSum 26 = .ok (.aload_n 0, 1) := by decide +kernel
theorem dX9_leastSum_27 : decode cX9_leastSum 27 = .ok (.getfield 68, 3) := by decide +kernel
theorem dX9_leastSum_30 : decode cX9_leastSum 30 = .ok (.if_icmp .ge 79, 3) := by decide +kernel
theorem dX9_leastSum_33 : decode cX9_leastSum 33 = .ok (.iload 4, 2) := by decide +kernel
theorem dX9_leastSum_35 : decode cX9_leastSum 35 = .ok (.iload_n 3, 1) := by decide +kernel
theorem dX9_leastSum_36 : decode cX9_leastSum 36 = .ok (.if_icmp .lt 73, 3) := by decide +kernel
theorem dX9_leastSum_39 : decode cX9_leastSum 39 = .ok (.iload_n 1, 1) := by decide +kernel
theorem dX9_leastSum_40 : decode cX9_leastSum 40 = .ok (.iload 6, 2) := by decide +kernel
theorem dX9_leastSum_42 : decode cX9_leastSum 42 = .ok (.ishr, 1) := by decide +kernel
theorem dX9_leastSum_43 : decode cX9_leastSum 43 = .ok (.iconst 1, 1) := by decide +kernel
theorem dX9_leastSum_44 : decode cX9_leastSum 44 = .ok (.iand, 1) := by decide +kernel
theorem dX9_leastSum_45 : decode cX9_leastSum 45 = .ok (.ifCond .ne 19, 3) := by decide +kernel
theorem dX9_leastSum_48 : decode cX9_leastSum 48 = .ok (.aload_n 0, 1) := by decide +kernel
theorem dX9_leastSum_49 : decode cX9_leastSum 49 = .ok (.getfield 13, 3) := by decide +kernel
theorem dX9_leastSum_52 : decode cX9_leastSum 52 = .ok (.iload 6, 2) := by decide +kernel
theorem dX9_leastSum_54 : decode cX9_leastSum 54 = .ok (.iaload, 1) := by decide +kernel
theorem dX9_leastSum_55 : decode cX9_leastSum 55 = .ok (.iload 4, 2) := by decide +kernel
theorem dX9_leastSum_57 : decode cX9_leastSum 57 = .ok (.if_icmp .gt 7, 3) := by decide +kernel
theorem dX9_leastSum_60 : decode cX9_leastSum 60 = .ok (.iconst 1, 1) := by decide +kernel
theorem dX9_leastSum_61 : decode cX9_leastSum 61 = .ok (.goto 4, 3) := by decide +kernel
theorem dX9_leastSum_64 : decode cX9_leastSum 64 = .ok (.iconst 0, 1) := by decide +kernel
theorem dX9_leastSum_65 : decode cX9_leastSum 65 = .ok (.istore 7, 2) := by decide +kernel
theorem dX9_leastSum_67 : decode cX9_leastSum 67 = .ok (.iload 7, 2) := by decide +kernel
theorem dX9_leastSum_69 : decode cX9_leastSum 69 = .ok (.ifCond .eq 30, 3) := by decide +kernel
theorem dX9_leastSum_72 : decode cX9_leastSum 72 = .ok (.iload 5, 2) := by decide +kernel
theorem dX9_leastSum_74 : decode cX9_leastSum 74 = .ok (.ifCond .lt 20, 3) := by decide +kernel
theorem dX9_leastSum_77 : decode cX9_leastSum 77 = .ok (.aload_n 0, 1) := by decide +kernel
theorem dX9_leastSum_78 : decode cX9_leastSum 78 = .ok (.getfield 16, 3) := by decide +kernel
theorem dX9_leastSum_81 : decode cX9_leastSum 81 = .ok (.iload 6, 2) := by decide +kernel
theorem dX9_leastSum_83 : decode cX9_leastSum 83 = .ok (.iaload, 1) := by decide +kernel
theorem dX9_leastSum_84 : decode cX9_leastSum 84 = .ok (.aload_n 0, 1) := by decide +kernel
theorem dX9_leastSum_85 : decode cX9_leastSum 85 = .ok (.getfield 16, 3) := by decide +kernel
theorem dX9_leastSum_88 : decode cX9_leastSum 88 = .ok (.iload 5, 2) := by decide +kernel
theorem dX9_leastSum_90 : decode cX9_leastSum 90 = .ok (.iaload, 1) := by decide +kernel
theorem dX9_leastSum_91 : decode cX9_leastSum 91 = .ok (.if_icmp .ge 8, 3) := by decide +kernel
theorem dX9_leastSum_94 : decode cX9_leastSum 94 = .ok (.iload 6, 2) := by decide +kernel
theorem dX9_leastSum_96 : decode cX9_leastSum 96 = .ok (.goto 5, 3) := by decide +kernel
theorem dX9_leastSum_99 : decode cX9_leastSum 99 = .ok (.iload 5, 2) := by decide +kernel
theorem dX9_leastSum_101 : decode cX9_leastSum 101 = .ok (.istore 5, 2) := by decide +kernel
theorem dX9_leastSum_103 : decode cX9_leastSum 103 = .ok (.iinc 6 1, 3) := by decide +kernel
theorem dX9_leastSum_106 : decode cX9_leastSum 106 = .ok (.goto (-82), 3) := by decide +kernel
theorem dX9_leastSum_109 : decode cX9_leastSum 109 = .ok (.iload 5, 2) := by decide +kernel
theorem dX9_leastSum_111 : decode cX9_leastSum 111 = .ok (.ifCond .lt 34, 3) := by decide +kernel
theorem dX9_leastSum_114 : decode cX9_leastSum 114 = .ok (.iload_n 1, 1) := by decide +kernel
theorem dX9_leastSum_115 : decode cX9_leastSum 115 = .ok (.iconst 1, 1) := by decide +kernel
theorem dX9_leastSum_116 : decode cX9_leastSum 116 = .ok (.iload 5, 2) := by decide +kernel
theorem dX9_leastSum_118 : decode cX9_leastSum 118 = .ok (.ishl, 1) := by decide +kernel
theorem dX9_leastSum_119 : decode cX9_leastSum 119 = .ok (.ior, 1) := by decide +kernel
theorem dX9_leastSum_120 : decode cX9_leastSum 120 = .ok (.istore_n 1, 1) := by decide +kernel
theorem dX9_leastSum_121 : decode cX9_leastSum 121 = .ok (.iload_n 2, 1) := by decide +kernel
theorem dX9_leastSum_122 : decode cX9_leastSum 122 = .ok (.iload 4, 2) := by decide +kernel
theorem dX9_leastSum_124 : decode cX9_leastSum 124 = .ok (.aload_n 0, 1) := by decide +kernel
theorem dX9_leastSum_125 : decode cX9_leastSum 125 = .ok (.getfield 13, 3) := by decide +kernel
theorem dX9_leastSum_128 : decode cX9_leastSum 128 = .ok (.iload 5, 2) := by decide +kernel
theorem dX9_leastSum_130 : decode cX9_leastSum 130 = .ok (.iaload, 1) := by decide +kernel
theorem dX9_leastSum_131 : decode cX9_leastSum 131 = .ok (.isub, 1) := by decide +kernel
theorem dX9_leastSum_132 : decode cX9_leastSum 132 = .ok (.iadd, 1) := by decide +kernel
theorem dX9_leastSum_133 : decode cX9_leastSum 133 = .ok (.istore_n 2, 1) := by decide +kernel
theorem dX9_leastSum_134 : decode cX9_leastSum 134 = .ok (.iload 4, 2) := by decide +kernel
theorem dX9_leastSum_136 : decode cX9_leastSum 136 = .ok (.aload_n 0, 1) := by decide +kernel
theorem dX9_leastSum_137 : decode cX9_leastSum 137 = .ok (.getfield 16, 3) := by decide +kernel
theorem dX9_leastSum_140 : decode cX9_leastSum 140 = .ok (.iload 5, 2) := by decide +kernel
theorem dX9_leastSum_142 : decode cX9_leastSum 142 = .ok (.iaload, 1) := by decide +kernel
theorem dX9_leastSum_143 : decode cX9_leastSum 143 = .ok (.iadd, 1) := by decide +kernel
theorem dX9_leastSum_144 : decode cX9_leastSum 144 = .ok (.istore_n 3, 1) := by decide +kernel
theorem dX9_leastSum_145 : decode cX9_leastSum 145 = .ok (.iinc 4 1, 3) := by decide +kernel
theorem dX9_leastSum_148 : decode cX9_leastSum 148 = .ok (.goto (-139), 3) := by decide +kernel
theorem dX9_leastSum_151 : decode cX9_leastSum 151 = .ok (.iload_n 2, 1) := by decide +kernel
theorem dX9_leastSum_152 : decode cX9_leastSum 152 = .ok (.ireturn, 1) := by decide +kernel
set_option maxRecDepth 20000 in
theorem ggX9_loss_X9_waitSum : GoodIn wsX9_loss wsX9_waitSum := goodIn_r _ [6, 1, 7, 8, 9, 10, 11, 5, 12, 13, 14, 15, 16, 17, 18, 19, 20, 21, 22, 23, 24, 25, 26, 27, 28, 29, 30, 31, 32, 33, 34, 35, 36, 37, 38, 39, 40, 41, 42, 43, 44, 45, 46, 47, 48, 49, 50, 51, 52, 53, 54, 55, 56, 57, 58, 59, 60, 61, 62, 63, 64, 69, 70, 71, 72, 73, 74, 75, 76, 77, 78, 79, 80, 81, 82, 83, 84, 85, 86, 87, 88, 89, 90, 91, 92, 93, 94, 95, 96, 97, 98, 99] (by decide +kernel) (by decide +kernel)
set_option maxRecDepth 20000 in
theorem gX9_loss_X9_waitSum : GoodIn wsX9_loss (wsV RX9 189 RX9 yX9_waitSum wsX9_waitSum) := goodIn_app (goodIn_of _ (by decide +kernel)) ggX9_loss_X9_waitSum
set_option maxRecDepth 20000 in
theorem ggX9_loss_X9_leastSum : GoodIn wsX9_loss wsX9_leastSum := goodIn_r _ [68, 1, 8, 35, 69, 70, 71, 72, 73, 74, 75, 76, 77, 78, 79, 80, 81, 82, 83, 84, 85, 86, 87, 88, 89, 90, 91, 92, 93, 94, 95, 96, 97, 98, 99] (by decide +kernel) (by decide +kernel)
set_option maxRecDepth 20000 in
theorem gX9_loss_X9_leastSum : GoodIn wsX9_loss (wsV RX9 199 RX9 yX9_leastSum wsX9_leastSum) := goodIn_app (goodIn_of _ (by decide +kernel)) ggX9_loss_X9_leastSum
theorem dX9_loss_0 : decode cX9_loss 0 = .ok (.aload_n 0, 1) := by decide +kernel
theorem dX9_loss_1 : decode cX9_loss 1 = .ok (.getfield 68, 3) := by decide +kernel
theorem dX9_loss_4 : decode cX9_loss 4 = .ok (.ifCond .ne 8, 3) := by decide +kernel
theorem dX9_loss_7 : decode cX9_loss 7 = .ok (.bipush (-3), 2) := by decide +kernel
theorem dX9_loss_9 : decode cX9_loss 9 = .ok (.goto 16, 3) := by decide +kernel
theorem dX9_loss_12 : decode cX9_loss 12 = .ok (.aload_n 0, 1) := by decide +kernel
theorem dX9_loss_13 : decode cX9_loss 13 = .ok (.invokevirtual 189, 3) := by decide +kernel
theorem dX9_loss_16 : decode cX9_loss 16 = .ok (.aload_n 0, 1) := by decide +kernel
theorem dX9_loss_17 : decode cX9_loss 17 = .ok (.invokevirtual 199, 3) := by decide +kernel
theorem dX9_loss_20 : decode cX9_loss 20 = .ok (.isub, 1) := by decide +kernel
theorem dX9_loss_21 : decode cX9_loss 21 = .ok (.sipush 10000, 3) := by decide +kernel
theorem dX9_loss_24 : decode cX9_loss 24 = .ok (.iadd, 1) := by decide +kernel
theorem dX9_loss_25 : decode cX9_loss 25 = .ok (.ireturn, 1) := by decide +kernel
set_option maxRecDepth 20000 in
theorem ggX9_servedBy_X9_all : GoodIn wsX9_servedBy wsX9_all := goodIn_r _ [6, 7, 56, 57, 58, 59, 60, 61, 62, 63, 64, 65, 66, 67, 68, 69, 70, 71, 72, 73, 74, 75, 76, 77, 78, 79, 80, 81, 82, 83, 84, 85, 86] (by decide +kernel) (by decide +kernel)
set_option maxRecDepth 20000 in
theorem gX9_servedBy_X9_all : GoodIn wsX9_servedBy (wsV RX9 176 RX9 yX9_all wsX9_all) := goodIn_app (goodIn_of _ (by decide +kernel)) ggX9_servedBy_X9_all
set_option maxRecDepth 20000 in
theorem ggX9_servedBy_X9_goDay : GoodIn wsX9_servedBy wsX9_goDay := goodIn_r _ [11, 12, 13, 14, 5, 15, 16, 17, 1, 18, 19, 20, 21, 22, 7, 23, 24, 25, 26, 27, 28, 29, 30, 31, 32, 33, 34, 35, 36, 37, 38, 39, 40, 41, 42, 43, 44, 45, 46, 47, 48, 49, 50, 51, 52, 53, 54, 55, 56, 57, 58, 59, 60, 61, 62, 63, 64, 65, 66, 67, 68, 69, 70, 71, 72, 73, 74, 75, 76, 77, 78, 79, 80, 81, 82, 83, 84, 85, 86] (by decide +kernel) (by decide +kernel)
set_option maxRecDepth 20000 in
theorem gX9_servedBy_X9_goDay : GoodIn wsX9_servedBy (wsV RX9 180 RX9 yX9_goDay wsX9_goDay) := goodIn_app (goodIn_of _ (by decide +kernel)) ggX9_servedBy_X9_goDay
theorem dX9_servedBy_0 : decode cX9_servedBy 0 = .ok (.aload_n 0, 1) := by decide +kernel
theorem dX9_servedBy_1 : decode cX9_servedBy 1 = .ok (.aload_n 0, 1) := by decide +kernel
theorem dX9_servedBy_2 : decode cX9_servedBy 2 = .ok (.invokevirtual 176, 3) := by decide +kernel
theorem dX9_servedBy_5 : decode cX9_servedBy 5 = .ok (.lload_n 2, 1) := by decide +kernel

theorem dX9_servedBy_6 : decode cX9_servedBy 6 = .ok (.invokevirtual 180, 3) := by decide +kernel
theorem dX9_servedBy_9 : decode cX9_servedBy 9 = .ok (.aload_n 0, 1) := by decide +kernel
theorem dX9_servedBy_10 : decode cX9_servedBy 10 = .ok (.getfield 34, 3) := by decide +kernel
theorem dX9_servedBy_13 : decode cX9_servedBy 13 = .ok (.iload_n 1, 1) := by decide +kernel
theorem dX9_servedBy_14 : decode cX9_servedBy 14 = .ok (.iaload, 1) := by decide +kernel
theorem dX9_servedBy_15 : decode cX9_servedBy 15 = .ok (.ireturn, 1) := by decide +kernel
set_option maxRecDepth 20000 in
theorem ggX9_ringer_X9_noPerson : GoodIn wsX9_ringer wsX9_noPerson := goodIn_r _ [7, 8, 9, 10, 6, 11, 73, 74, 75, 76, 77, 78, 79, 80, 81, 82, 83, 84, 85, 86, 87, 88, 89, 90, 91, 92, 93, 94, 95, 96, 97, 98, 99, 100, 101, 102, 103] (by decide +kernel) (by decide +kernel)
set_option maxRecDepth 20000 in
theorem gX9_ringer_X9_noPerson : GoodIn wsX9_ringer (wsV RX9 128 RX9 yX9_noPerson wsX9_noPerson) := goodIn_app (goodIn_of _ (by decide +kernel)) ggX9_ringer_X9_noPerson
set_option maxRecDepth 20000 in
theorem ggX9_ringer_X9_in : GoodIn wsX9_ringer wsX9_in := goodIn_r _ [11] (by decide +kernel) (by decide +kernel)
set_option maxRecDepth 20000 in
theorem gX9_ringer_X9_in : GoodIn wsX9_ringer (va_wsS RX9 71 yX9_in wsX9_in) := goodIn_app (goodIn_of _ (by decide +kernel)) ggX9_ringer_X9_in
set_option maxRecDepth 20000 in
theorem ggX9_ringer_X9_servedBy : GoodIn wsX9_ringer wsX9_servedBy := goodIn_r _ [15, 16, 17, 18, 19, 6, 20, 8, 21, 22, 23, 24, 25, 26, 27, 28, 29, 30, 31, 32, 33, 34, 35, 36, 37, 38, 39, 40, 41, 42, 43, 44, 45, 46, 47, 48, 49, 50, 51, 52, 53, 54, 55, 56, 57, 58, 59, 60, 61, 62, 63, 64, 65, 66, 67, 68, 73, 74, 75, 76, 77, 78, 79, 80, 81, 82, 83, 84, 85, 86, 87, 88, 89, 90, 91, 92, 93, 94, 95, 96, 97, 98, 99, 100, 101, 102, 103] (by decide +kernel) (by decide +kernel)
set_option maxRecDepth 20000 in
theorem gX9_ringer_X9_servedBy : GoodIn wsX9_ringer (wsV RX9 202 RX9 yX9_servedBy wsX9_servedBy) := goodIn_app (goodIn_of _ (by decide +kernel)) ggX9_ringer_X9_servedBy
set_option maxRecDepth 20000 in
theorem ggX9_ringer_X9_isBell : GoodIn wsX9_ringer wsX9_isBell := goodIn_r _ [59] (by decide +kernel) (by decide +kernel)
set_option maxRecDepth 20000 in
theorem gX9_ringer_X9_isBell : GoodIn wsX9_ringer (va_wsS RX9 134 yX9_isBell wsX9_isBell) := goodIn_app (goodIn_of _ (by decide +kernel)) ggX9_ringer_X9_isBell
set_option maxRecDepth 20000 in
theorem ggX9_ringer_X9_isMinute : GoodIn wsX9_ringer wsX9_isMinute := goodIn_r _ [71, 72, 9, 10, 6, 11] (by decide +kernel) (by decide +kernel)
set_option maxRecDepth 20000 in
theorem gX9_ringer_X9_isMinute : GoodIn wsX9_ringer (va_wsS RX9 131 yX9_isMinute wsX9_isMinute) := goodIn_app (goodIn_of _ (by decide +kernel)) ggX9_ringer_X9_isMinute
theorem dX9_ringer_0 : decode cX9_ringer 0 = .ok (.aload_n 0, 1) := by decide +kernel
theorem dX9_ringer_1 : decode cX9_ringer 1 = .ok (.iload_n 1, 1) := by decide +kernel
theorem dX9_ringer_2 : decode cX9_ringer 2 = .ok (.invokevirtual 128, 3) := by decide +kernel
theorem dX9_ringer_5 : decode cX9_ringer 5 = .ok (.ifCond .eq 5, 3) := by decide +kernel
theorem dX9_ringer_8 : decode cX9_ringer 8 = .ok (.iconst (-1), 1) := by decide +kernel
theorem dX9_ringer_9 : decode cX9_ringer 9 = .ok (.ireturn, 1) := by decide +kernel
theorem dX9_ringer_10 : decode cX9_ringer 10 = .ok (.iload_n 2, 1) := by decide +kernel
theorem dX9_ringer_11 : decode cX9_ringer 11 = .ok (.i2l, 1) := by decide +kernel
theorem dX9_ringer_12 : decode cX9_ringer 12 = .ok (.lconst 0, 1) := by decide +kernel
theorem dX9_ringer_13 : decode cX9_ringer 13 = .ok (.lconst 1, 1) := by decide +kernel
theorem dX9_ringer_14 : decode cX9_ringer 14 = .ok (.invokestatic 71, 3) := by decide +kernel
theorem dX9_ringer_17 : decode cX9_ringer 17 = .ok (.ifCond .ne 6, 3) := by decide +kernel
theorem dX9_ringer_20 : decode cX9_ringer 20 = .ok (.bipush (-2), 2) := by decide +kernel
theorem dX9_ringer_22 : decode cX9_ringer 22 = .ok (.ireturn, 1) := by decide +kernel
theorem dX9_ringer_23 : decode cX9_ringer 23 = .ok (.bipush (-9), 2) := by decide +kernel
theorem dX9_ringer_25 : decode cX9_ringer 25 = .ok (.istore_n 3, 1) := by decide +kernel
theorem dX9_ringer_26 : decode cX9_ringer 26 = .ok (.aload_n 0, 1) := by decide +kernel
theorem dX9_ringer_27 : decode cX9_ringer 27 = .ok (.iload_n 1, 1) := by decide +kernel
theorem dX9_ringer_28 : decode cX9_ringer 28 = .ok (.aload_n 0, 1) := by decide +kernel
theorem dX9_ringer_29 : decode cX9_ringer 29 = .ok (.getfield 121, 3) := by decide +kernel
theorem dX9_ringer_32 : decode cX9_ringer 32 = .ok (.invokevirtual 202, 3) := by decide +kernel
theorem dX9_ringer_35 : decode cX9_ringer 35 = .ok (.istore 4, 2) := by decide +kernel
theorem dX9_ringer_37 : decode cX9_ringer 37 = .ok (.iconst 0, 1) := by decide +kernel
theorem dX9_ringer_38 : decode cX9_ringer 38 = .ok (.istore 5, 2) := by decide +kernel
theorem dX9_ringer_40 : decode cX9_ringer 40 = .ok (.iload 5, 2) := by decide +kernel
theorem dX9_ringer_42 : decode cX9_ringer 42 = .ok (.bipush 60, 2) := by decide +kernel
theorem dX9_ringer_44 : decode cX9_ringer 44 = .ok (.if_icmp .ge 107, 3) := by decide +kernel
theorem dX9_ringer_47 : decode cX9_ringer 47 = .ok (.iload 5, 2) := by decide +kernel
theorem dX9_ringer_49 : decode cX9_ringer 49 = .ok (.iconst 3, 1) := by decide +kernel
theorem dX9_ringer_50 : decode cX9_ringer 50 = .ok (.isub, 1) := by decide +kernel
theorem dX9_ringer_51 : decode cX9_ringer 51 = .ok (.istore 6, 2) := by decide +kernel
theorem dX9_ringer_53 : decode cX9_ringer 53 = .ok (.iload 6, 2) := by decide +kernel
theorem dX9_ringer_55 : decode cX9_ringer 55 = .ok (.iload 5, 2) := by decide +kernel
theorem dX9_ringer_57 : decode cX9_ringer 57 = .ok (.iconst 3, 1) := by decide +kernel
theorem dX9_ringer_58 : decode cX9_ringer 58 = .ok (.iadd, 1) := by decide +kernel
theorem dX9_ringer_59 : decode cX9_ringer 59 = .ok (.if_icmp .gt 86, 3) := by decide +kernel
theorem dX9_ringer_62 : decode cX9_ringer 62 = .ok (.aload_n 0, 1) := by decide +kernel
theorem dX9_ringer_63 : decode cX9_ringer 63 = .ok (.getfield 121, 3) := by decide +kernel
theorem dX9_ringer_66 : decode cX9_ringer 66 = .ok (.iload 5, 2) := by decide +kernel
theorem dX9_ringer_68 : decode cX9_ringer 68 = .ok (.invokestatic 134, 3) := by decide +kernel
theorem dX9_ringer_71 : decode cX9_ringer 71 = .ok (.ifCond .eq 68, 3) := by decide +kernel
theorem dX9_ringer_74 : decode cX9_ringer 74 = .ok (.iload 6, 2) := by decide +kernel
theorem dX9_ringer_76 : decode cX9_ringer 76 = .ok (.invokestatic 131, 3) := by decide +kernel
theorem dX9_ringer_79 : decode cX9_ringer 79 = .ok (.ifCond .eq 60, 3) := by decide +kernel
theorem dX9_ringer_82 : decode cX9_ringer 82 = .ok (.aload_n 0, 1) := by decide +kernel
theorem dX9_ringer_83 : decode cX9_ringer 83 = .ok (.getfield 121, 3) := by decide +kernel
theorem dX9_ringer_86 : decode cX9_ringer 86 = .ok (.iload 6, 2) := by decide +kernel
theorem dX9_ringer_88 : decode cX9_ringer 88 = .ok (.invokestatic 134, 3) := by decide +kernel
theorem dX9_ringer_91 : decode cX9_ringer 91 = .ok (.ifCond .ne 48, 3) := by decide +kernel
theorem dX9_ringer_94 : decode cX9_ringer 94 = .ok (.aload_n 0, 1) := by decide +kernel
theorem dX9_ringer_95 : decode cX9_ringer 95 = .ok (.iload_n 1, 1) := by decide +kernel
theorem dX9_ringer_96 : decode cX9_ringer 96 = .ok (.aload_n 0, 1) := by decide +kernel
theorem dX9_ringer_97 : decode cX9_ringer 97 = .ok (.getfield 121, 3) := by decide +kernel
theorem dX9_ringer_100 : decode cX9_ringer 100 = .ok (.lconst 1, 1) := by decide +kernel
theorem dX9_ringer_101 : decode cX9_ringer 101 = .ok (.iload 5, 2) := by decide +kernel
theorem dX9_ringer_103 : decode cX9_ringer 103 = .ok (.lshl, 1) := by decide +kernel
theorem dX9_ringer_104 : decode cX9_ringer 104 = .ok (.ldc2_w 138, 3) := by decide +kernel
theorem dX9_ringer_107 : decode cX9_ringer 107 = .ok (.lxor, 1) := by decide +kernel
theorem dX9_ringer_108 : decode cX9_ringer 108 = .ok (.land, 1) := by decide +kernel
theorem dX9_ringer_109 : decode cX9_ringer 109 = .ok (.lconst 1, 1) := by decide +kernel
theorem dX9_ringer_110 : decode cX9_ringer 110 = .ok (.iload 6, 2) := by decide +kernel
theorem dX9_ringer_112 : decode cX9_ringer 112 = .ok (.lshl, 1) := by decide +kernel
theorem dX9_ringer_113 : decode cX9_ringer 113 = .ok (.lor, 1) := by decide +kernel
theorem dX9_ringer_114 : decode cX9_ringer 114 = .ok (.invokevirtual 202, 3) := by decide +kernel
theorem dX9_ringer_117 : decode cX9_ringer 117 = .ok (.istore 7, 2) := by decide +kernel
theorem dX9_ringer_119 : decode cX9_ringer 119 = .ok (.iload 7, 2) := by decide +kernel
theorem dX9_ringer_121 : decode cX9_ringer 121 = .ok (.iload 4, 2) := by decide +kernel
theorem dX9_ringer_123 : decode cX9_ringer 123 = .ok (.if_icmp .ge 16, 3) := by decide +kernel
theorem dX9_ringer_126 : decode cX9_ringer 126 = .ok (.bipush 100, 2) := by decide +kernel
theorem dX9_ringer_128 : decode cX9_ringer 128 = .ok (.iload 5, 2) := by decide +kernel
theorem dX9_ringer_130 : decode cX9_ringer 130 = .ok (.imul, 1) := by decide +kernel
theorem dX9_ringer_131 : decode cX9_ringer 131 = .ok (.iload 6, 2) := by decide +kernel
theorem dX9_ringer_133 : decode cX9_ringer 133 = .ok (.iadd, 1) := by decide +kernel
theorem dX9_ringer_134 : decode cX9_ringer 134 = .ok (.istore_n 3, 1) := by decide +kernel
theorem dX9_ringer_135 : decode cX9_ringer 135 = .ok (.iload 7, 2) := by decide +kernel
theorem dX9_ringer_137 : decode cX9_ringer 137 = .ok (.istore 4, 2) := by decide +kernel
theorem dX9_ringer_139 : decode cX9_ringer 139 = .ok (.iinc 6 1, 3) := by decide +kernel
theorem dX9_ringer_142 : decode cX9_ringer 142 = .ok (.goto (-89), 3) := by decide +kernel
theorem dX9_ringer_145 : decode cX9_ringer 145 = .ok (.iinc 5 1, 3) := by decide +kernel
theorem dX9_ringer_148 : decode cX9_ringer 148 = .ok (.goto (-108), 3) := by decide +kernel
theorem dX9_ringer_151 : decode cX9_ringer 151 = .ok (.iload_n 2, 1) := by decide +kernel
theorem dX9_ringer_152 : decode cX9_ringer 152 = .ok (.ifCond .ne 7, 3) := by decide +kernel
theorem dX9_ringer_155 : decode cX9_ringer 155 = .ok (.iload_n 3, 1) := by decide +kernel
theorem dX9_ringer_156 : decode cX9_ringer 156 = .ok (.goto 5, 3) := by decide +kernel
theorem dX9_ringer_159 : decode cX9_ringer 159 = .ok (.iload 4, 2) := by decide +kernel
theorem dX9_ringer_161 : decode cX9_ringer 161 = .ok (.ireturn, 1) := by decide +kernel
set_option maxRecDepth 20000 in
theorem ggX9_pays_X9_noPerson : GoodIn wsX9_pays wsX9_noPerson := goodIn_r _ [7, 8, 9, 10, 6, 11, 68, 69, 70, 71, 72, 73, 74, 75, 76, 77, 78, 79, 80, 81, 82, 83, 84, 85, 86, 87, 88, 89, 90, 91, 92, 93, 94, 95, 96, 97, 98] (by decide +kernel) (by decide +kernel)
set_option maxRecDepth 20000 in
theorem gX9_pays_X9_noPerson : GoodIn wsX9_pays (wsV RX9 128 RX9 yX9_noPerson wsX9_noPerson) := goodIn_app (goodIn_of _ (by decide +kernel)) ggX9_pays_X9_noPerson
set_option maxRecDepth 20000 in
theorem ggX9_pays_X9_in : GoodIn wsX9_pays wsX9_in := goodIn_r _ [11] (by decide +kernel) (by decide +kernel)
set_option maxRecDepth 20000 in
theorem gX9_pays_X9_in : GoodIn wsX9_pays (va_wsS RX9 71 yX9_in wsX9_in) := goodIn_app (goodIn_of _ (by decide +kernel)) ggX9_pays_X9_in
set_option maxRecDepth 20000 in
theorem ggX9_pays_X9_servedBy : GoodIn wsX9_pays wsX9_servedBy := goodIn_r _ [15, 16, 17, 18, 19, 6, 20, 8, 21, 22, 23, 24, 25, 26, 27, 28, 29, 30, 31, 32, 33, 34, 35, 2, 36, 37, 38, 39, 40, 41, 42, 43, 44, 45, 46, 47, 48, 49, 50, 51, 52, 53, 54, 55, 56, 57, 58, 59, 60, 61, 62, 63, 64, 65, 66, 67, 68, 69, 70, 71, 72, 73, 74, 75, 76, 77, 78, 79, 80, 81, 82, 83, 84, 85, 86, 87, 88, 89, 90, 91, 92, 93, 94, 95, 96, 97, 98] (by decide +kernel) (by decide +kernel)
set_option maxRecDepth 20000 in
theorem gX9_pays_X9_servedBy : GoodIn wsX9_pays (wsV RX9 202 RX9 yX9_servedBy wsX9_servedBy) := goodIn_app (goodIn_of _ (by decide +kernel)) ggX9_pays_X9_servedBy
theorem dX9_pays_0 : decode cX9_pays 0 = .ok (.aload_n 0, 1) := by decide +kernel
theorem dX9_pays_1 : decode cX9_pays 1 = .ok (.iload_n 1, 1) := by decide +kernel
theorem dX9_pays_2 : decode cX9_pays 2 = .ok (.invokevirtual 128, 3) := by decide +kernel
theorem dX9_pays_5 : decode cX9_pays 5 = .ok (.ifCond .eq 5, 3) := by decide +kernel
theorem dX9_pays_8 : decode cX9_pays 8 = .ok (.iconst (-1), 1) := by decide +kernel
theorem dX9_pays_9 : decode cX9_pays 9 = .ok (.ireturn, 1) := by decide +kernel
theorem dX9_pays_10 : decode cX9_pays 10 = .ok (.iload_n 2, 1) := by decide +kernel
theorem dX9_pays_11 : decode cX9_pays 11 = .ok (.i2l, 1) := by decide +kernel
theorem dX9_pays_12 : decode cX9_pays 12 = .ok (.lconst 0, 1) := by decide +kernel
theorem dX9_pays_13 : decode cX9_pays 13 = .ok (.lconst 1, 1) := by decide +kernel
theorem dX9_pays_14 : decode cX9_pays 14 = .ok (.invokestatic 71, 3) := by decide +kernel
theorem dX9_pays_17 : decode cX9_pays 17 = .ok (.ifCond .ne 6, 3) := by decide +kernel
theorem dX9_pays_20 : decode cX9_pays 20 = .ok (.bipush (-2), 2) := by decide +kernel
theorem dX9_pays_22 : decode cX9_pays 22 = .ok (.ireturn, 1) := by decide +kernel
theorem dX9_pays_23 : decode cX9_pays 23 = .ok (.aload_n 0, 1) := by decide +kernel
theorem dX9_pays_24 : decode cX9_pays 24 = .ok (.iload_n 1, 1) := by decide +kernel
theorem dX9_pays_25 : decode cX9_pays 25 = .ok (.aload_n 0, 1) := by decide +kernel
theorem dX9_pays_26 : decode cX9_pays 26 = .ok (.getfield 121, 3) := by decide +kernel
theorem dX9_pays_29 : decode cX9_pays 29 = .ok (.invokevirtual 202, 3) := by decide +kernel
theorem dX9_pays_32 : decode cX9_pays 32 = .ok (.istore_n 3, 1) := by decide +kernel
theorem dX9_pays_33 : decode cX9_pays 33 = .ok (.aload_n 0, 1) := by decide +kernel
theorem dX9_pays_34 : decode cX9_pays 34 = .ok (.getfield 19, 3) := by decide +kernel
theorem dX9_pays_37 : decode cX9_pays 37 = .ok (.iload_n 1, 1) := by decide +kernel
theorem dX9_pays_38 : decode cX9_pays 38 = .ok (.iaload, 1) := by decide +kernel
theorem dX9_pays_39 : decode cX9_pays 39 = .ok (.istore 4, 2) := by decide +kernel
theorem dX9_pays_41 : decode cX9_pays 41 = .ok (.iconst 0, 1) := by decide +kernel
theorem dX9_pays_42 : decode cX9_pays 42 = .ok (.istore 5, 2) := by decide +kernel
theorem dX9_pays_44 : decode cX9_pays 44 = .ok (.bipush (-9), 2) := by decide +kernel
theorem dX9_pays_46 : decode cX9_pays 46 = .ok (.istore 6, 2) := by decide +kernel
theorem dX9_pays_48 : decode cX9_pays 48 = .ok (.iconst 0, 1) := by decide +kernel
theorem dX9_pays_49 : decode cX9_pays 49 = .ok (.istore 7, 2) := by decide +kernel
theorem dX9_pays_51 : decode cX9_pays 51 = .ok (.iload 7, 2) := by decide +kernel
theorem dX9_pays_53 : decode cX9_pays 53 = .ok (.bipush 60, 2) := by decide +kernel
theorem dX9_pays_55 : decode cX9_pays 55 = .ok (.if_icmp .ge 45, 3) := by decide +kernel
theorem dX9_pays_58 : decode cX9_pays 58 = .ok (.aload_n 0, 1) := by decide +kernel
theorem dX9_pays_59 : decode cX9_pays 59 = .ok (.getfield 19, 3) := by decide +kernel
theorem dX9_pays_62 : decode cX9_pays 62 = .ok (.iload_n 1, 1) := by decide +kernel
theorem dX9_pays_63 : decode cX9_pays 63 = .ok (.iload 7, 2) := by decide +kernel
theorem dX9_pays_65 : decode cX9_pays 65 = .ok (.iastore, 1) := by decide +kernel
theorem dX9_pays_66 : decode cX9_pays 66 = .ok (.iload_n 3, 1) := by decide +kernel
theorem dX9_pays_67 : decode cX9_pays 67 = .ok (.aload_n 0, 1) := by decide +kernel
theorem dX9_pays_68 : decode cX9_pays 68 = .ok (.iload_n 1, 1) := by decide +kernel
theorem dX9_pays_69 : decode cX9_pays 69 = .ok (.aload_n 0, 1) := by decide +kernel
theorem dX9_pays_70 : decode cX9_pays 70 = .ok (.getfield 121, 3) := by decide +kernel
theorem dX9_pays_73 : decode cX9_pays 73 = .ok (.invokevirtual 202, 3) := by decide +kernel
theorem dX9_pays_76 : decode cX9_pays 76 = .ok (.isub, 1) := by decide +kernel
theorem dX9_pays_77 : decode cX9_pays 77 = .ok (.istore 8, 2) := by decide +kernel
theorem dX9_pays_79 : decode cX9_pays 79 = .ok (.iload 8, 2) := by decide +kernel
theorem dX9_pays_81 : decode cX9_pays 81 = .ok (.iload 5, 2) := by decide +kernel
theorem dX9_pays_83 : decode cX9_pays 83 = .ok (.if_icmp .le 11, 3) := by decide +kernel
theorem dX9_pays_86 : decode cX9_pays 86 = .ok (.iload 8, 2) := by decide +kernel
theorem dX9_pays_88 : decode cX9_pays 88 = .ok (.istore 5, 2) := by decide +kernel
theorem dX9_pays_90 : decode cX9_pays 90 = .ok (.iload 7, 2) := by decide +kernel
theorem dX9_pays_92 : decode cX9_pays 92 = .ok (.istore 6, 2) := by decide +kernel
theorem dX9_pays_94 : decode cX9_pays 94 = .ok (.iinc 7 1, 3) := by decide +kernel
theorem dX9_pays_97 : decode cX9_pays 97 = .ok (.goto (-46), 3) := by decide +kernel
theorem dX9_pays_100 : decode cX9_pays 100 = .ok (.aload_n 0, 1) := by decide +kernel
theorem dX9_pays_101 : decode cX9_pays 101 = .ok (.getfield 19, 3) := by decide +kernel
theorem dX9_pays_104 : decode cX9_pays 104 = .ok (.iload_n 1, 1) := by decide +kernel
theorem dX9_pays_105 : decode cX9_pays 105 = .ok (.iload 4, 2) := by decide +kernel
theorem dX9_pays_107 : decode cX9_pays 107 = .ok (.iastore, 1) := by decide +kernel
theorem dX9_pays_108 : decode cX9_pays 108 = .ok (.iload_n 2, 1) := by decide +kernel
theorem dX9_pays_109 : decode cX9_pays 109 = .ok (.ifCond .ne 8, 3) := by decide +kernel
theorem dX9_pays_112 : decode cX9_pays 112 = .ok (.iload 5, 2) := by decide +kernel
theorem dX9_pays_114 : decode cX9_pays 114 = .ok (.goto 5, 3) := by decide +kernel
theorem dX9_pays_117 : decode cX9_pays 117 = .ok (.iload 6, 2) := by decide +kernel
theorem dX9_pays_119 : decode cX9_pays 119 = .ok (.ireturn, 1) := by decide +kernel
set_option maxRecDepth 20000 in
theorem ggX9_reading_X9_noPerson : GoodIn wsX9_reading wsX9_noPerson := goodIn_r _ [9, 10, 11, 12, 8, 13, 14, 15, 16, 17, 18, 19, 20, 21, 22, 23, 24, 25, 26, 27, 28, 29, 30, 31, 32, 33, 34, 35, 36, 37, 38, 39, 40, 41, 42, 43, 44] (by decide +kernel) (by decide +kernel)
set_option maxRecDepth 20000 in
theorem gX9_reading_X9_noPerson : GoodIn wsX9_reading (wsV RX9 128 RX9 yX9_noPerson wsX9_noPerson) := goodIn_app (goodIn_of _ (by decide +kernel)) ggX9_reading_X9_noPerson
set_option maxRecDepth 20000 in
theorem ggX9_reading_X9_in : GoodIn wsX9_reading wsX9_in := goodIn_r _ [13] (by decide +kernel) (by decide +kernel)
set_option maxRecDepth 20000 in
theorem gX9_reading_X9_in : GoodIn wsX9_reading (va_wsS RX9 71 yX9_in wsX9_in) := goodIn_app (goodIn_of _ (by decide +kernel)) ggX9_reading_X9_in
theorem dX9_reading_0 : decode cX9_reading 0 = .ok (.aload_n 0, 1) := by decide +kernel
theorem dX9_reading_1 : decode cX9_reading 1 = .ok (.iload_n 1, 1) := by decide +kernel
theorem dX9_reading_2 : decode cX9_reading 2 = .ok (.invokevirtual 128, 3) := by decide +kernel
theorem dX9_reading_5 : decode cX9_reading 5 = .ok (.ifCond .eq 5, 3) := by decide +kernel
theorem dX9_reading_8 : decode cX9_reading 8 = .ok (.iconst (-1), 1) := by decide +kernel
theorem dX9_reading_9 : decode cX9_reading 9 = .ok (.ireturn, 1) := by decide +kernel
theorem dX9_reading_10 : decode cX9_reading 10 = .ok (.iload_n 2, 1) := by decide +kernel
theorem dX9_reading_11 : decode cX9_reading 11 = .ok (.i2l, 1) := by decide +kernel
theorem dX9_reading_12 : decode cX9_reading 12 = .ok (.lconst 0, 1) := by decide +kernel
theorem dX9_reading_13 : decode cX9_reading 13 = .ok (.ldc2_w 187, 3) := by decide +kernel
theorem dX9_reading_16 : decode cX9_reading 16 = .ok (.invokestatic 71, 3) := by decide +kernel
theorem dX9_reading_19 : decode cX9_reading 19 = .ok (.ifCond .ne 6, 3) := by decide +kernel
theorem dX9_reading_22 : decode cX9_reading 22 = .ok (.bipush (-2), 2) := by decide +kernel
theorem dX9_reading_24 : decode cX9_reading 24 = .ok (.ireturn, 1) := by decide +kernel
theorem dX9_reading_25 : decode cX9_reading 25 = .ok (.aload_n 0, 1) := by decide +kernel
theorem dX9_reading_26 : decode cX9_reading 26 = .ok (.getfield 125, 3) := by decide +kernel
theorem dX9_reading_29 : decode cX9_reading 29 = .ok (.bipush 8, 2) := by decide +kernel
theorem dX9_reading_31 : decode cX9_reading 31 = .ok (.if_icmp .ne 6, 3) := by decide +kernel
theorem dX9_reading_34 : decode cX9_reading 34 = .ok (.bipush (-4), 2) := by decide +kernel
theorem dX9_reading_36 : decode cX9_reading 36 = .ok (.ireturn, 1) := by decide +kernel
theorem dX9_reading_37 : decode cX9_reading 37 = .ok (.aload_n 0, 1) := by decide +kernel
theorem dX9_reading_38 : decode cX9_reading 38 = .ok (.getfield 40, 3) := by decide +kernel
theorem dX9_reading_41 : decode cX9_reading 41 = .ok (.aload_n 0, 1) := by decide +kernel
theorem dX9_reading_42 : decode cX9_reading 42 = .ok (.getfield 125, 3) := by decide +kernel
theorem dX9_reading_45 : decode cX9_reading 45 = .ok (.iload_n 1, 1) := by decide +kernel
theorem dX9_reading_46 : decode cX9_reading 46 = .ok (.iastore, 1) := by decide +kernel
theorem dX9_reading_47 : decode cX9_reading 47 = .ok (.aload_n 0, 1) := by decide +kernel
theorem dX9_reading_48 : decode cX9_reading 48 = .ok (.getfield 43, 3) := by decide +kernel
theorem dX9_reading_51 : decode cX9_reading 51 = .ok (.aload_n 0, 1) := by decide +kernel
