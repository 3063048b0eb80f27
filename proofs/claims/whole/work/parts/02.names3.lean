theorem dX8_day_14 : decode cX8_day 14 = .ok (.invokestatic 68, 3) := by decide +kernel
theorem dX8_day_17 : decode cX8_day 17 = .ok (.ifCond .ne 10, 3) := by decide +kernel
theorem dX8_day_20 : decode cX8_day 20 = .ok (.aload_n 0, 1) := by decide +kernel
theorem dX8_day_21 : decode cX8_day 21 = .ok (.bipush (-2), 2) := by decide +kernel
theorem dX8_day_23 : decode cX8_day 23 = .ok (.invokevirtual 64, 3) := by decide +kernel
theorem dX8_day_26 : decode cX8_day 26 = .ok (.ireturn, 1) := by decide +kernel
theorem dX8_day_27 : decode cX8_day 27 = .ok (.aload_n 0, 1) := by decide +kernel
theorem dX8_day_28 : decode cX8_day 28 = .ok (.getfield 48, 3) := by decide +kernel
theorem dX8_day_31 : decode cX8_day 31 = .ok (.iload_n 1, 1) := by decide +kernel
theorem dX8_day_32 : decode cX8_day 32 = .ok (.aaload, 1) := by decide +kernel
theorem dX8_day_33 : decode cX8_day 33 = .ok (.astore 5, 2) := by decide +kernel
theorem dX8_day_35 : decode cX8_day 35 = .ok (.aload 5, 2) := by decide +kernel
theorem dX8_day_37 : decode cX8_day 37 = .ok (.iload_n 2, 1) := by decide +kernel
theorem dX8_day_38 : decode cX8_day 38 = .ok (.invokevirtual 71, 3) := by decide +kernel
theorem dX8_day_41 : decode cX8_day 41 = .ok (.ifCond .eq 9, 3) := by decide +kernel
theorem dX8_day_44 : decode cX8_day 44 = .ok (.aload_n 0, 1) := by decide +kernel
theorem dX8_day_45 : decode cX8_day 45 = .ok (.iconst 2, 1) := by decide +kernel
theorem dX8_day_46 : decode cX8_day 46 = .ok (.invokevirtual 74, 3) := by decide +kernel
theorem dX8_day_49 : decode cX8_day 49 = .ok (.ireturn, 1) := by decide +kernel
theorem dX8_day_50 : decode cX8_day 50 = .ok (.aload 5, 2) := by decide +kernel
theorem dX8_day_52 : decode cX8_day 52 = .ok (.invokevirtual 77, 3) := by decide +kernel
theorem dX8_day_55 : decode cX8_day 55 = .ok (.ifCond .eq 9, 3) := by decide +kernel
theorem dX8_day_58 : decode cX8_day 58 = .ok (.aload_n 0, 1) := by decide +kernel
theorem dX8_day_59 : decode cX8_day 59 = .ok (.iconst 1, 1) := by decide +kernel
theorem dX8_day_60 : decode cX8_day 60 = .ok (.invokevirtual 74, 3) := by decide +kernel
theorem dX8_day_63 : decode cX8_day 63 = .ok (.ireturn, 1) := by decide +kernel
theorem dX8_day_64 : decode cX8_day 64 = .ok (.iload 4, 2) := by decide +kernel
theorem dX8_day_66 : decode cX8_day 66 = .ok (.ifCond .ge 9, 3) := by decide +kernel
theorem dX8_day_69 : decode cX8_day 69 = .ok (.aload_n 0, 1) := by decide +kernel
theorem dX8_day_70 : decode cX8_day 70 = .ok (.iconst 4, 1) := by decide +kernel
theorem dX8_day_71 : decode cX8_day 71 = .ok (.invokevirtual 74, 3) := by decide +kernel
theorem dX8_day_74 : decode cX8_day 74 = .ok (.ireturn, 1) := by decide +kernel
theorem dX8_day_75 : decode cX8_day 75 = .ok (.aload 5, 2) := by decide +kernel
theorem dX8_day_77 : decode cX8_day 77 = .ok (.iload_n 3, 1) := by decide +kernel
theorem dX8_day_78 : decode cX8_day 78 = .ok (.iload 4, 2) := by decide +kernel
theorem dX8_day_80 : decode cX8_day 80 = .ok (.invokevirtual 81, 3) := by decide +kernel
theorem dX8_day_83 : decode cX8_day 83 = .ok (.ifCond .ne 9, 3) := by decide +kernel
theorem dX8_day_86 : decode cX8_day 86 = .ok (.aload_n 0, 1) := by decide +kernel
theorem dX8_day_87 : decode cX8_day 87 = .ok (.iconst 3, 1) := by decide +kernel
theorem dX8_day_88 : decode cX8_day 88 = .ok (.invokevirtual 74, 3) := by decide +kernel
theorem dX8_day_91 : decode cX8_day 91 = .ok (.ireturn, 1) := by decide +kernel
theorem dX8_day_92 : decode cX8_day 92 = .ok (.aload 5, 2) := by decide +kernel
theorem dX8_day_94 : decode cX8_day 94 = .ok (.iload_n 3, 1) := by decide +kernel
theorem dX8_day_95 : decode cX8_day 95 = .ok (.iload 4, 2) := by decide +kernel
theorem dX8_day_97 : decode cX8_day 97 = .ok (.invokestatic 85, 3) := by decide +kernel
theorem dX8_day_100 : decode cX8_day 100 = .ok (.istore 6, 2) := by decide +kernel
theorem dX8_day_102 : decode cX8_day 102 = .ok (.iload 6, 2) := by decide +kernel
theorem dX8_day_104 : decode cX8_day 104 = .ok (.bipush (-9), 2) := by decide +kernel
theorem dX8_day_106 : decode cX8_day 106 = .ok (.if_icmp .eq 13, 3) := by decide +kernel
theorem dX8_day_109 : decode cX8_day 109 = .ok (.aload_n 0, 1) := by decide +kernel
theorem dX8_day_110 : decode cX8_day 110 = .ok (.bipush (-100), 2) := by decide +kernel
theorem dX8_day_112 : decode cX8_day 112 = .ok (.iload 6, 2) := by decide +kernel
theorem dX8_day_114 : decode cX8_day 114 = .ok (.isub, 1) := by decide +kernel
theorem dX8_day_115 : decode cX8_day 115 = .ok (.invokevirtual 64, 3) := by decide +kernel
theorem dX8_day_118 : decode cX8_day 118 = .ok (.ireturn, 1) := by decide +kernel
theorem dX8_day_119 : decode cX8_day 119 = .ok (.aload_n 0, 1) := by decide +kernel
theorem dX8_day_120 : decode cX8_day 120 = .ok (.getfield 12, 3) := by decide +kernel
theorem dX8_day_123 : decode cX8_day 123 = .ok (.aload 5, 2) := by decide +kernel
theorem dX8_day_125 : decode cX8_day 125 = .ok (.iload_n 3, 1) := by decide +kernel
theorem dX8_day_126 : decode cX8_day 126 = .ok (.iload 4, 2) := by decide +kernel
theorem dX8_day_128 : decode cX8_day 128 = .ok (.invokestatic 91, 3) := by decide +kernel
theorem dX8_day_131 : decode cX8_day 131 = .ok (.aload_n 0, 1) := by decide +kernel
theorem dX8_day_132 : decode cX8_day 132 = .ok (.getfield 42, 3) := by decide +kernel
theorem dX8_day_135 : decode cX8_day 135 = .ok (.iconst 0, 1) := by decide +kernel
theorem dX8_day_136 : decode cX8_day 136 = .ok (.putfield 95, 3) := by decide +kernel
theorem dX8_day_139 : decode cX8_day 139 = .ok (.aload_n 0, 1) := by decide +kernel
theorem dX8_day_140 : decode cX8_day 140 = .ok (.aload_n 0, 1) := by decide +kernel
theorem dX8_day_141 : decode cX8_day 141 = .ok (.getfield 12, 3) := by decide +kernel
theorem dX8_day_144 : decode cX8_day 144 = .ok (.getfield 98, 3) := by decide +kernel
theorem dX8_day_147 : decode cX8_day 147 = .ok (.invokevirtual 64, 3) := by decide +kernel
theorem dX8_day_150 : decode cX8_day 150 = .ok (.ireturn, 1) := by decide +kernel
set_option maxRecDepth 20000 in
theorem ggX8_ofPerson_X3_has : GoodIn wsX8_ofPerson wsX3_has := goodIn_r _ [10, 11, 20, 21, 22, 23, 24, 25, 26] (by decide +kernel) (by decide +kernel)
set_option maxRecDepth 20000 in
theorem gX8_ofPerson_X3_has : GoodIn wsX8_ofPerson (wsV RX8 99 RX3 yX3_has wsX3_has) := goodIn_app (goodIn_of _ (by decide +kernel)) ggX8_ofPerson_X3_has
theorem dX8_ofPerson_0 : decode cX8_ofPerson 0 = .ok (.aload_n 0, 1) := by decide +kernel
theorem dX8_ofPerson_1 : decode cX8_ofPerson 1 = .ok (.getfield 12, 3) := by decide +kernel
theorem dX8_ofPerson_4 : decode cX8_ofPerson 4 = .ok (.iload_n 1, 1) := by decide +kernel
theorem dX8_ofPerson_5 : decode cX8_ofPerson 5 = .ok (.invokevirtual 99, 3) := by decide +kernel
theorem dX8_ofPerson_8 : decode cX8_ofPerson 8 = .ok (.ifCond .ne 5, 3) := by decide +kernel
theorem dX8_ofPerson_11 : decode cX8_ofPerson 11 = .ok (.iconst (-1), 1) := by decide +kernel
theorem dX8_ofPerson_12 : decode cX8_ofPerson 12 = .ok (.ireturn, 1) := by decide +kernel
theorem dX8_ofPerson_13 : decode cX8_ofPerson 13 = .ok (.iload_n 2, 1) := by decide +kernel
theorem dX8_ofPerson_14 : decode cX8_ofPerson 14 = .ok (.tableswitch 70 0 3 #[30, 40, 50, 60], 30) := by decide +kernel
theorem dX8_ofPerson_44 : decode cX8_ofPerson 44 = .ok (.aload_n 0, 1) := by decide +kernel
theorem dX8_ofPerson_45 : decode cX8_ofPerson 45 = .ok (.getfield 12, 3) := by decide +kernel
theorem dX8_ofPerson_48 : decode cX8_ofPerson 48 = .ok (.getfield 102, 3) := by decide +kernel
theorem dX8_ofPerson_51 : decode cX8_ofPerson 51 = .ok (.iload_n 1, 1) := by decide +kernel
theorem dX8_ofPerson_52 : decode cX8_ofPerson 52 = .ok (.iaload, 1) := by decide +kernel
theorem dX8_ofPerson_53 : decode cX8_ofPerson 53 = .ok (.ireturn, 1) := by decide +kernel
theorem dX8_ofPerson_54 : decode cX8_ofPerson 54 = .ok (.aload_n 0, 1) := by decide +kernel
theorem dX8_ofPerson_55 : decode cX8_ofPerson 55 = .ok (.getfield 12, 3) := by decide +kernel
theorem dX8_ofPerson_58 : decode cX8_ofPerson 58 = .ok (.getfield 106, 3) := by decide +kernel
theorem dX8_ofPerson_61 : decode cX8_ofPerson 61 = .ok (.iload_n 1, 1) := by decide +kernel
theorem dX8_ofPerson_62 : decode cX8_ofPerson 62 = .ok (.iaload, 1) := by decide +kernel
theorem dX8_ofPerson_63 : decode cX8_ofPerson 63 = .ok (.ireturn, 1) := by decide +kernel
theorem dX8_ofPerson_64 : decode cX8_ofPerson 64 = .ok (.aload_n 0, 1) := by decide +kernel
theorem dX8_ofPerson_65 : decode cX8_ofPerson 65 = .ok (.getfield 12, 3) := by decide +kernel
theorem dX8_ofPerson_68 : decode cX8_ofPerson 68 = .ok (.getfield 109, 3) := by decide +kernel
theorem dX8_ofPerson_71 : decode cX8_ofPerson 71 = .ok (.iload_n 1, 1) := by decide +kernel
theorem dX8_ofPerson_72 : decode cX8_ofPerson 72 = .ok (.iaload, 1) := by decide +kernel
theorem dX8_ofPerson_73 : decode cX8_ofPerson 73 = .ok (.ireturn, 1) := by decide +kernel
theorem dX8_ofPerson_74 : decode cX8_ofPerson 74 = .ok (.aload_n 0, 1) := by decide +kernel
theorem dX8_ofPerson_75 : decode cX8_ofPerson 75 = .ok (.getfield 12, 3) := by decide +kernel
theorem dX8_ofPerson_78 : decode cX8_ofPerson 78 = .ok (.getfield 112, 3) := by decide +kernel
theorem dX8_ofPerson_81 : decode cX8_ofPerson 81 = .ok (.iload_n 1, 1) := by decide +kernel
theorem dX8_ofPerson_82 : decode cX8_ofPerson 82 = .ok (.iaload, 1) := by decide +kernel
theorem dX8_ofPerson_83 : decode cX8_ofPerson 83 = .ok (.ireturn, 1) := by decide +kernel
theorem dX8_ofPerson_84 : decode cX8_ofPerson 84 = .ok (.bipush (-2), 2) := by decide +kernel
theorem dX8_ofPerson_86 : decode cX8_ofPerson 86 = .ok (.ireturn, 1) := by decide +kernel
set_option maxRecDepth 20000 in
theorem ggX8_come_X3_has : GoodIn wsX8_come wsX3_has := goodIn_r _ [7, 8, 21, 22, 23, 24, 25, 26, 27] (by decide +kernel) (by decide +kernel)
set_option maxRecDepth 20000 in
theorem gX8_come_X3_has : GoodIn wsX8_come (wsV RX8 99 RX3 yX3_has wsX3_has) := goodIn_app (goodIn_of _ (by decide +kernel)) ggX8_come_X3_has
set_option maxRecDepth 20000 in
theorem ggX8_come_X8_isMinute : GoodIn wsX8_come wsX8_isMinute := goodIn_r _ [12] (by decide +kernel) (by decide +kernel)
set_option maxRecDepth 20000 in
theorem gX8_come_X8_isMinute : GoodIn wsX8_come (va_wsS RX8 115 yX8_isMinute wsX8_isMinute) := goodIn_app (goodIn_of _ (by decide +kernel)) ggX8_come_X8_isMinute
theorem dX8_come_0 : decode cX8_come 0 = .ok (.aload_n 0, 1) := by decide +kernel
theorem dX8_come_1 : decode cX8_come 1 = .ok (.getfield 12, 3) := by decide +kernel
theorem dX8_come_4 : decode cX8_come 4 = .ok (.iload_n 1, 1) := by decide +kernel
theorem dX8_come_5 : decode cX8_come 5 = .ok (.invokevirtual 99, 3) := by decide +kernel
theorem dX8_come_8 : decode cX8_come 8 = .ok (.ifCond .ne 5, 3) := by decide +kernel
theorem dX8_come_11 : decode cX8_come 11 = .ok (.iconst (-1), 1) := by decide +kernel
theorem dX8_come_12 : decode cX8_come 12 = .ok (.ireturn, 1) := by decide +kernel
theorem dX8_come_13 : decode cX8_come 13 = .ok (.iload_n 2, 1) := by decide +kernel
theorem dX8_come_14 : decode cX8_come 14 = .ok (.invokestatic 115, 3) := by decide +kernel
theorem dX8_come_17 : decode cX8_come 17 = .ok (.ifCond .ne 6, 3) := by decide +kernel
theorem dX8_come_20 : decode cX8_come 20 = .ok (.bipush (-2), 2) := by decide +kernel
theorem dX8_come_22 : decode cX8_come 22 = .ok (.ireturn, 1) := by decide +kernel
theorem dX8_come_23 : decode cX8_come 23 = .ok (.aload_n 0, 1) := by decide +kernel
theorem dX8_come_24 : decode cX8_come 24 = .ok (.getfield 12, 3) := by decide +kernel
theorem dX8_come_27 : decode cX8_come 27 = .ok (.getfield 106, 3) := by decide +kernel
theorem dX8_come_30 : decode cX8_come 30 = .ok (.iload_n 1, 1) := by decide +kernel
theorem dX8_come_31 : decode cX8_come 31 = .ok (.iaload, 1) := by decide +kernel
theorem dX8_come_32 : decode cX8_come 32 = .ok (.istore_n 3, 1) := by decide +kernel
theorem dX8_come_33 : decode cX8_come 33 = .ok (.aload_n 0, 1) := by decide +kernel
theorem dX8_come_34 : decode cX8_come 34 = .ok (.getfield 12, 3) := by decide +kernel
theorem dX8_come_37 : decode cX8_come 37 = .ok (.getfield 106, 3) := by decide +kernel
theorem dX8_come_40 : decode cX8_come 40 = .ok (.iload_n 1, 1) := by decide +kernel
theorem dX8_come_41 : decode cX8_come 41 = .ok (.iload_n 2, 1) := by decide +kernel
theorem dX8_come_42 : decode cX8_come 42 = .ok (.iastore, 1) := by decide +kernel
theorem dX8_come_43 : decode cX8_come 43 = .ok (.iload_n 3, 1) := by decide +kernel
theorem dX8_come_44 : decode cX8_come 44 = .ok (.ireturn, 1) := by decide +kernel
set_option maxRecDepth 20000 in
theorem ggX8_runOut_X3_has : GoodIn wsX8_runOut wsX3_has := goodIn_r _ [7, 8, 21, 22, 23, 24, 25, 26, 27] (by decide +kernel) (by decide +kernel)
set_option maxRecDepth 20000 in
theorem gX8_runOut_X3_has : GoodIn wsX8_runOut (wsV RX8 99 RX3 yX3_has wsX3_has) := goodIn_app (goodIn_of _ (by decide +kernel)) ggX8_runOut_X3_has
set_option maxRecDepth 20000 in
theorem ggX8_runOut_X8_isMinute : GoodIn wsX8_runOut wsX8_isMinute := goodIn_r _ [12] (by decide +kernel) (by decide +kernel)
set_option maxRecDepth 20000 in
theorem gX8_runOut_X8_isMinute : GoodIn wsX8_runOut (va_wsS RX8 115 yX8_isMinute wsX8_isMinute) := goodIn_app (goodIn_of _ (by decide +kernel)) ggX8_runOut_X8_isMinute
theorem dX8_runOut_0 : decode cX8_runOut 0 = .ok (.aload_n 0, 1) := by decide +kernel
theorem dX8_runOut_1 : decode cX8_runOut 1 = .ok (.getfield 12, 3) := by decide +kernel
theorem dX8_runOut_4 : decode cX8_runOut 4 = .ok (.iload_n 1, 1) := by decide +kernel
theorem dX8_runOut_5 : decode cX8_runOut 5 = .ok (.invokevirtual 99, 3) := by decide +kernel
theorem dX8_runOut_8 : decode cX8_runOut 8 = .ok (.ifCond .ne 5, 3) := by decide +kernel
theorem dX8_runOut_11 : decode cX8_runOut 11 = .ok (.iconst (-1), 1) := by decide +kernel
theorem dX8_runOut_12 : decode cX8_runOut 12 = .ok (.ireturn, 1) := by decide +kernel
theorem dX8_runOut_13 : decode cX8_runOut 13 = .ok (.iload_n 2, 1) := by decide +kernel
theorem dX8_runOut_14 : decode cX8_runOut 14 = .ok (.bipush (-9), 2) := by decide +kernel
theorem dX8_runOut_16 : decode cX8_runOut 16 = .ok (.if_icmp .eq 13, 3) := by decide +kernel
theorem dX8_runOut_19 : decode cX8_runOut 19 = .ok (.iload_n 2, 1) := by decide +kernel
theorem dX8_runOut_20 : decode cX8_runOut 20 = .ok (.invokestatic 115, 3) := by decide +kernel
theorem dX8_runOut_23 : decode cX8_runOut 23 = .ok (.ifCond .ne 6, 3) := by decide +kernel
theorem dX8_runOut_26 : decode cX8_runOut 26 = .ok (.bipush (-2), 2) := by decide +kernel
theorem dX8_runOut_28 : decode cX8_runOut 28 = .ok (.ireturn, 1) := by decide +kernel
theorem dX8_runOut_29 : decode cX8_runOut 29 = .ok (.aload_n 0, 1) := by decide +kernel
theorem dX8_runOut_30 : decode cX8_runOut 30 = .ok (.getfield 12, 3) := by decide +kernel
theorem dX8_runOut_33 : decode cX8_runOut 33 = .ok (.getfield 112, 3) := by decide +kernel
theorem dX8_runOut_36 : decode cX8_runOut 36 = .ok (.iload_n 1, 1) := by decide +kernel
theorem dX8_runOut_37 : decode cX8_runOut 37 = .ok (.iaload, 1) := by decide +kernel
theorem dX8_runOut_38 : decode cX8_runOut 38 = .ok (.istore_n 3, 1) := by decide +kernel
theorem dX8_runOut_39 : decode cX8_runOut 39 = .ok (.aload_n 0, 1) := by decide +kernel
theorem dX8_runOut_40 : decode cX8_runOut 40 = .ok (.getfield 12, 3) := by decide +kernel
theorem dX8_runOut_43 : decode cX8_runOut 43 = .ok (.getfield 112, 3) := by decide +kernel
theorem dX8_runOut_46 : decode cX8_runOut 46 = .ok (.iload_n 1, 1) := by decide +kernel
theorem dX8_runOut_47 : decode cX8_runOut 47 = .ok (.iload_n 2, 1) := by decide +kernel
theorem dX8_runOut_48 : decode cX8_runOut 48 = .ok (.iastore, 1) := by decide +kernel
theorem dX8_runOut_49 : decode cX8_runOut 49 = .ok (.iload_n 3, 1) := by decide +kernel
theorem dX8_runOut_50 : decode cX8_runOut 50 = .ok (.ireturn, 1) := by decide +kernel
set_option maxRecDepth 20000 in
theorem ggX8_bell_X8_isMinute : GoodIn wsX8_bell wsX8_isMinute := goodIn_r _ [6] (by decide +kernel) (by decide +kernel)
set_option maxRecDepth 20000 in
theorem gX8_bell_X8_isMinute : GoodIn wsX8_bell (va_wsS RX8 115 yX8_isMinute wsX8_isMinute) := goodIn_app (goodIn_of _ (by decide +kernel)) ggX8_bell_X8_isMinute
set_option maxRecDepth 20000 in
theorem ggX8_bell_X3_isNone : GoodIn wsX8_bell wsX3_isNone := goodIn_r _ [11, 12, 24, 25, 26, 27, 28, 29, 30] (by decide +kernel) (by decide +kernel)
set_option maxRecDepth 20000 in
theorem gX8_bell_X3_isNone : GoodIn wsX8_bell (wsV RX8 118 RX3 yX3_isNone wsX3_isNone) := goodIn_app (goodIn_of _ (by decide +kernel)) ggX8_bell_X3_isNone
set_option maxRecDepth 20000 in
theorem ggX8_bell_X8_hasMinute : GoodIn wsX8_bell wsX8_hasMinute := goodIn_r _ [15, 3, 4, 5, 6] (by decide +kernel) (by decide +kernel)
set_option maxRecDepth 20000 in
theorem gX8_bell_X8_hasMinute : GoodIn wsX8_bell (va_wsS RX8 125 yX8_hasMinute wsX8_hasMinute) := goodIn_app (goodIn_of _ (by decide +kernel)) ggX8_bell_X8_hasMinute
theorem dX8_bell_0 : decode cX8_bell 0 = .ok (.iload_n 1, 1) := by decide +kernel
theorem dX8_bell_1 : decode cX8_bell 1 = .ok (.invokestatic 115, 3) := by decide +kernel
theorem dX8_bell_4 : decode cX8_bell 4 = .ok (.ifCond .ne 5, 3) := by decide +kernel
theorem dX8_bell_7 : decode cX8_bell 7 = .ok (.iconst (-1), 1) := by decide +kernel
theorem dX8_bell_8 : decode cX8_bell 8 = .ok (.ireturn, 1) := by decide +kernel
theorem dX8_bell_9 : decode cX8_bell 9 = .ok (.aload_n 0, 1) := by decide +kernel
theorem dX8_bell_10 : decode cX8_bell 10 = .ok (.getfield 12, 3) := by decide +kernel
theorem dX8_bell_13 : decode cX8_bell 13 = .ok (.invokevirtual 118, 3) := by decide +kernel
theorem dX8_bell_16 : decode cX8_bell 16 = .ok (.ifCond .eq 6, 3) := by decide +kernel
theorem dX8_bell_19 : decode cX8_bell 19 = .ok (.bipush (-3), 2) := by decide +kernel
theorem dX8_bell_21 : decode cX8_bell 21 = .ok (.ireturn, 1) := by decide +kernel
theorem dX8_bell_22 : decode cX8_bell 22 = .ok (.aload_n 0, 1) := by decide +kernel
theorem dX8_bell_23 : decode cX8_bell 23 = .ok (.getfield 12, 3) := by decide +kernel
theorem dX8_bell_26 : decode cX8_bell 26 = .ok (.getfield 121, 3) := by decide +kernel
theorem dX8_bell_29 : decode cX8_bell 29 = .ok (.iload_n 1, 1) := by decide +kernel
theorem dX8_bell_30 : decode cX8_bell 30 = .ok (.invokestatic 125, 3) := by decide +kernel
theorem dX8_bell_33 : decode cX8_bell 33 = .ok (.iload_n 2, 1) := by decide +kernel
theorem dX8_bell_34 : decode cX8_bell 34 = .ok (.if_icmp .ne 5, 3) := by decide +kernel
theorem dX8_bell_37 : decode cX8_bell 37 = .ok (.iconst 0, 1) := by decide +kernel
theorem dX8_bell_38 : decode cX8_bell 38 = .ok (.ireturn, 1) := by decide +kernel
theorem dX8_bell_39 : decode cX8_bell 39 = .ok (.aload_n 0, 1) := by decide +kernel
theorem dX8_bell_40 : decode cX8_bell 40 = .ok (.getfield 12, 3) := by decide +kernel
theorem dX8_bell_43 : decode cX8_bell 43 = .ok (.dup, 1) := by decide +kernel
theorem dX8_bell_44 : decode cX8_bell 44 = .ok (.getfield 121, 3) := by decide +kernel
theorem dX8_bell_47 : decode cX8_bell 47 = .ok (.lconst 1, 1) := by decide +kernel
theorem dX8_bell_48 : decode cX8_bell 48 = .ok (.iload_n 1, 1) := by decide +kernel
theorem dX8_bell_49 : decode cX8_bell 49 = .ok (.lshl, 1) := by decide +kernel
theorem dX8_bell_50 : decode cX8_bell 50 = .ok (.lxor, 1) := by decide +kernel
theorem dX8_bell_51 : decode cX8_bell 51 = .ok (.putfield 121, 3) := by decide +kernel
theorem dX8_bell_54 : decode cX8_bell 54 = .ok (.iconst 1, 1) := by decide +kernel
theorem dX8_bell_55 : decode cX8_bell 55 = .ok (.ireturn, 1) := by decide +kernel
theorem dX8_bells_0 : decode cX8_bells 0 = .ok (.aload_n 0, 1) := by decide +kernel
theorem dX8_bells_1 : decode cX8_bells 1 = .ok (.getfield 12, 3) := by decide +kernel
theorem dX8_bells_4 : decode cX8_bells 4 = .ok (.getfield 121, 3) := by decide +kernel
theorem dX8_bells_7 : decode cX8_bells 7 = .ok (.lreturn, 1) := by decide +kernel
set_option maxRecDepth 20000 in
theorem ggX8_served_X3_has : GoodIn wsX8_served wsX3_has := goodIn_r _ [7, 8, 100, 101, 102, 103, 104, 105, 106] (by decide +kernel) (by decide +kernel)
set_option maxRecDepth 20000 in
theorem gX8_served_X3_has : GoodIn wsX8_served (wsV RX8 99 RX3 yX3_has wsX3_has) := goodIn_app (goodIn_of _ (by decide +kernel)) ggX8_served_X3_has
set_option maxRecDepth 20000 in
theorem ggX8_served_X1_servedOf : GoodIn wsX8_served wsX1_servedOf := goodIn_r _ [13, 14, 15, 16, 17, 6, 18, 8, 19, 20, 21, 12, 22, 23, 24, 25, 26, 27, 28, 29, 30, 31, 32, 33, 34, 35, 36, 37, 38, 39, 40, 41, 42, 43, 44, 45, 46, 47, 48, 49, 50, 51, 52, 53, 54, 55, 56, 57, 58, 59, 60, 61, 62, 63, 64, 65, 66, 67, 68, 69, 70, 71, 72, 73, 74, 75, 76, 77, 78, 79, 80, 81, 82, 83, 84, 85, 86, 87, 88, 89, 90, 91, 107, 108, 109, 110, 111, 112, 100, 101, 102, 103, 104, 105, 106, 113, 114] (by decide +kernel) (by decide +kernel)
set_option maxRecDepth 20000 in
theorem gX8_served_X1_servedOf : GoodIn wsX8_served (wsV RX8 129 RX1 yX1_servedOf wsX1_servedOf) := goodIn_app (goodIn_of _ (by decide +kernel)) ggX8_served_X1_servedOf
theorem dX8_served_0 : decode cX8_served 0 = .ok (.aload_n 0, 1) := by decide +kernel
theorem dX8_served_1 : decode cX8_served 1 = .ok (.getfield 12, 3) := by decide +kernel
theorem dX8_served_4 : decode cX8_served 4 = .ok (.iload_n 1, 1) := by decide +kernel
theorem dX8_served_5 : decode cX8_served 5 = .ok (.invokevirtual 99, 3) := by decide +kernel
theorem dX8_served_8 : decode cX8_served 8 = .ok (.ifCond .eq 18, 3) := by decide +kernel
theorem dX8_served_11 : decode cX8_served 11 = .ok (.aload_n 0, 1) := by decide +kernel
theorem dX8_served_12 : decode cX8_served 12 = .ok (.getfield 21, 3) := by decide +kernel
theorem dX8_served_15 : decode cX8_served 15 = .ok (.aload_n 0, 1) := by decide +kernel
theorem dX8_served_16 : decode cX8_served 16 = .ok (.getfield 12, 3) := by decide +kernel
theorem dX8_served_19 : decode cX8_served 19 = .ok (.iload_n 1, 1) := by decide +kernel
theorem dX8_served_20 : decode cX8_served 20 = .ok (.invokevirtual 129, 3) := by decide +kernel
theorem dX8_served_23 : decode cX8_served 23 = .ok (.goto 4, 3) := by decide +kernel
theorem dX8_served_26 : decode cX8_served 26 = .ok (.iconst (-1), 1) := by decide +kernel
theorem dX8_served_27 : decode cX8_served 27 = .ok (.ireturn, 1) := by decide +kernel
set_option maxRecDepth 20000 in
theorem ggX8_queue_X1_runThrough : GoodIn wsX8_queue wsX1_runThrough := goodIn_r _ [9, 10, 11, 12, 13, 14, 15, 16, 17, 18, 8, 19, 20, 21, 22, 23, 24, 25, 26, 27, 28, 29, 30, 31, 32, 33, 34, 35, 36, 37, 38, 39, 40, 41, 42, 43, 44, 45, 46, 47, 48, 49, 50, 51, 52, 53, 54, 55, 56, 57, 58, 59, 60, 61, 62, 63, 64, 65, 66, 67, 68, 69, 70, 71, 72, 73, 74, 75, 76, 77, 78, 79, 80, 81, 82, 83, 84, 85, 86, 87, 88, 89, 108, 109, 110, 111, 112, 113, 114, 102, 103, 104, 105, 106, 107, 115, 116] (by decide +kernel) (by decide +kernel)
set_option maxRecDepth 20000 in
theorem gX8_queue_X1_runThrough : GoodIn wsX8_queue (wsV RX8 133 RX1 yX1_runThrough wsX1_runThrough) := goodIn_app (goodIn_of _ (by decide +kernel)) ggX8_queue_X1_runThrough
set_option maxRecDepth 20000 in
theorem ggX8_queue_X2_at : GoodIn wsX8_queue wsX2_at := goodIn_r _ [93, 49, 50, 115, 116] (by decide +kernel) (by decide +kernel)
set_option maxRecDepth 20000 in
theorem gX8_queue_X2_at : GoodIn wsX8_queue (wsV RX8 144 RX2 yX2_at wsX2_at) := goodIn_app (goodIn_of _ (by decide +kernel)) ggX8_queue_X2_at
theorem dX8_queue_0 : decode cX8_queue 0 = .ok (.iload_n 1, 1) := by decide +kernel
theorem dX8_queue_1 : decode cX8_queue 1 = .ok (.ifCond .lt 15, 3) := by decide +kernel
theorem dX8_queue_4 : decode cX8_queue 4 = .ok (.iload_n 1, 1) := by decide +kernel
theorem dX8_queue_5 : decode cX8_queue 5 = .ok (.sipush 199, 3) := by decide +kernel
theorem dX8_queue_8 : decode cX8_queue 8 = .ok (.if_icmp .gt 8, 3) := by decide +kernel
theorem dX8_queue_11 : decode cX8_queue 11 = .ok (.iload_n 2, 1) := by decide +kernel
theorem dX8_queue_12 : decode cX8_queue 12 = .ok (.iconst (-1), 1) := by decide +kernel
theorem dX8_queue_13 : decode cX8_queue 13 = .ok (.if_icmp .ge 5, 3) := by decide +kernel
theorem dX8_queue_16 : decode cX8_queue 16 = .ok (.iconst (-1), 1) := by decide +kernel
theorem dX8_queue_17 : decode cX8_queue 17 = .ok (.ireturn, 1) := by decide +kernel
theorem dX8_queue_18 : decode cX8_queue 18 = .ok (.aload_n 0, 1) := by decide +kernel
theorem dX8_queue_19 : decode cX8_queue 19 = .ok (.getfield 21, 3) := by decide +kernel
theorem dX8_queue_22 : decode cX8_queue 22 = .ok (.aload_n 0, 1) := by decide +kernel
theorem dX8_queue_23 : decode cX8_queue 23 = .ok (.getfield 12, 3) := by decide +kernel
theorem dX8_queue_26 : decode cX8_queue 26 = .ok (.iload_n 1, 1) := by decide +kernel
theorem dX8_queue_27 : decode cX8_queue 27 = .ok (.invokevirtual 133, 3) := by decide +kernel
theorem dX8_queue_30 : decode cX8_queue 30 = .ok (.iload_n 2, 1) := by decide +kernel
theorem dX8_queue_31 : decode cX8_queue 31 = .ok (.iconst (-1), 1) := by decide +kernel
theorem dX8_queue_32 : decode cX8_queue 32 = .ok (.if_icmp .ne 13, 3) := by decide +kernel
theorem dX8_queue_35 : decode cX8_queue 35 = .ok (.aload_n 0, 1) := by decide +kernel
theorem dX8_queue_36 : decode cX8_queue 36 = .ok (.getfield 21, 3) := by decide +kernel
theorem dX8_queue_39 : decode cX8_queue 39 = .ok (.getfield 137, 3) := by decide +kernel
theorem dX8_queue_42 : decode cX8_queue 42 = .ok (.goto 14, 3) := by decide +kernel
theorem dX8_queue_45 : decode cX8_queue 45 = .ok (.aload_n 0, 1) := by decide +kernel
theorem dX8_queue_46 : decode cX8_queue 46 = .ok (.getfield 21, 3) := by decide +kernel
theorem dX8_queue_49 : decode cX8_queue 49 = .ok (.getfield 140, 3) := by decide +kernel
theorem dX8_queue_52 : decode cX8_queue 52 = .ok (.iload_n 2, 1) := by decide +kernel
theorem dX8_queue_53 : decode cX8_queue 53 = .ok (.invokevirtual 144, 3) := by decide +kernel
theorem dX8_queue_56 : decode cX8_queue 56 = .ok (.ireturn, 1) := by decide +kernel
set_option maxRecDepth 20000 in
theorem ggX8_waits_X3_isNone : GoodIn wsX8_waits wsX3_isNone := goodIn_r _ [9, 10, 105, 106, 107, 108, 109, 110, 111] (by decide +kernel) (by decide +kernel)
set_option maxRecDepth 20000 in
theorem gX8_waits_X3_isNone : GoodIn wsX8_waits (wsV RX8 118 RX3 yX3_isNone wsX3_isNone) := goodIn_app (goodIn_of _ (by decide +kernel)) ggX8_waits_X3_isNone
set_option maxRecDepth 20000 in
theorem ggX8_waits_X1_waitOfAll : GoodIn wsX8_waits wsX1_waitOfAll := goodIn_r _ [15, 16, 17, 18, 19, 20, 21, 8, 22, 10, 23, 24, 25, 14, 26, 27, 28, 29, 30, 31, 32, 33, 34, 35, 36, 37, 38, 39, 40, 41, 42, 43, 44, 45, 46, 47, 48, 49, 50, 51, 52, 53, 54, 55, 56, 57, 58, 59, 60, 61, 62, 63, 64, 65, 66, 67, 68, 69, 70, 71, 72, 73, 74, 75, 76, 77, 78, 79, 80, 81, 82, 83, 84, 85, 86, 87, 88, 89, 90, 91, 92, 93, 105, 106, 107, 108, 109, 110, 111, 112, 113, 114, 115, 116, 117, 118, 119] (by decide +kernel) (by decide +kernel)
set_option maxRecDepth 20000 in
theorem gX8_waits_X1_waitOfAll : GoodIn wsX8_waits (wsV RX8 151 RX1 yX1_waitOfAll wsX1_waitOfAll) := goodIn_app (goodIn_of _ (by decide +kernel)) ggX8_waits_X1_waitOfAll
set_option maxRecDepth 20000 in
theorem ggX8_waits_X8_commonDivisor : GoodIn wsX8_waits wsX8_commonDivisor := goodIn_r _ [96] (by decide +kernel) (by decide +kernel)
set_option maxRecDepth 20000 in
theorem gX8_waits_X8_commonDivisor : GoodIn wsX8_waits (va_wsS RX8 155 yX8_commonDivisor wsX8_commonDivisor) := goodIn_app (goodIn_of _ (by decide +kernel)) ggX8_waits_X8_commonDivisor
theorem dX8_waits_0 : decode cX8_waits 0 = .ok (.iload_n 1, 1) := by decide +kernel
theorem dX8_waits_1 : decode cX8_waits 1 = .ok (.ifCond .eq 12, 3) := by decide +kernel
theorem dX8_waits_4 : decode cX8_waits 4 = .ok (.iload_n 1, 1) := by decide +kernel
theorem dX8_waits_5 : decode cX8_waits 5 = .ok (.iconst 1, 1) := by decide +kernel
theorem dX8_waits_6 : decode cX8_waits 6 = .ok (.if_icmp .eq 7, 3) := by decide +kernel
theorem dX8_waits_9 : decode cX8_waits 9 = .ok (.ldc2_w 149, 3) := by decide +kernel
theorem dX8_waits_12 : decode cX8_waits 12 = .ok (.lreturn, 1) := by decide +kernel
theorem dX8_waits_13 : decode cX8_waits 13 = .ok (.aload_n 0, 1) := by decide +kernel
theorem dX8_waits_14 : decode cX8_waits 14 = .ok (.getfield 12, 3) := by decide +kernel
theorem dX8_waits_17 : decode cX8_waits 17 = .ok (.invokevirtual 118, 3) := by decide +kernel
theorem dX8_waits_20 : decode cX8_waits 20 = .ok (.ifCond .eq 7, 3) := by decide +kernel
theorem dX8_waits_23 : decode cX8_waits 23 = .ok (.ldc2_w 149, 3) := by decide +kernel
theorem dX8_waits_26 : decode cX8_waits 26 = .ok (.lreturn, 1) := by decide +kernel
theorem dX8_waits_27 : decode cX8_waits 27 = .ok (.aload_n 0, 1) := by decide +kernel
theorem dX8_waits_28 : decode cX8_waits 28 = .ok (.getfield 21, 3) := by decide +kernel
theorem dX8_waits_31 : decode cX8_waits 31 = .ok (.aload_n 0, 1) := by decide +kernel
theorem dX8_waits_32 : decode cX8_waits 32 = .ok (.getfield 12, 3) := by decide +kernel
theorem dX8_waits_35 : decode cX8_waits 35 = .ok (.invokevirtual 151, 3) := by decide +kernel
theorem dX8_waits_38 : decode cX8_waits 38 = .ok (.istore_n 2, 1) := by decide +kernel
theorem dX8_waits_39 : decode cX8_waits 39 = .ok (.iload_n 2, 1) := by decide +kernel
theorem dX8_waits_40 : decode cX8_waits 40 = .ok (.aload_n 0, 1) := by decide +kernel
theorem dX8_waits_41 : decode cX8_waits 41 = .ok (.getfield 12, 3) := by decide +kernel
theorem dX8_waits_44 : decode cX8_waits 44 = .ok (.getfield 98, 3) := by decide +kernel
theorem dX8_waits_47 : decode cX8_waits 47 = .ok (.invokestatic 155, 3) := by decide +kernel
theorem dX8_waits_50 : decode cX8_waits 50 = .ok (.istore_n 3, 1) := by decide +kernel
theorem dX8_waits_51 : decode cX8_waits 51 = .ok (.iload_n 1, 1) := by decide +kernel
theorem dX8_waits_52 : decode cX8_waits 52 = .ok (.ifCond .ne 7, 3) := by decide +kernel
theorem dX8_waits_55 : decode cX8_waits 55 = .ok (.iload_n 2, 1) := by decide +kernel
theorem dX8_waits_56 : decode cX8_waits 56 = .ok (.goto 10, 3) := by decide +kernel
theorem dX8_waits_59 : decode cX8_waits 59 = .ok (.aload_n 0, 1) := by decide +kernel
theorem dX8_waits_60 : decode cX8_waits 60 = .ok (.getfield 12, 3) := by decide +kernel
theorem dX8_waits_63 : decode cX8_waits 63 = .ok (.getfield 98, 3) := by decide +kernel
theorem dX8_waits_66 : decode cX8_waits 66 = .ok (.iload_n 3, 1) := by decide +kernel
theorem dX8_waits_67 : decode cX8_waits 67 = .ok (.idiv, 1) := by decide +kernel
theorem dX8_waits_68 : decode cX8_waits 68 = .ok (.i2l, 1) := by decide +kernel
theorem dX8_waits_69 : decode cX8_waits 69 = .ok (.lreturn, 1) := by decide +kernel
set_option maxRecDepth 20000 in
theorem ggX8_best_X3_has : GoodIn wsX8_best wsX3_has := goodIn_r _ [9, 10, 127, 128, 129, 130, 131, 132, 133] (by decide +kernel) (by decide +kernel)
set_option maxRecDepth 20000 in
theorem gX8_best_X3_has : GoodIn wsX8_best (wsV RX8 99 RX3 yX3_has wsX3_has) := goodIn_app (goodIn_of _ (by decide +kernel)) ggX8_best_X3_has
set_option maxRecDepth 20000 in
theorem ggX8_best_X0_findBest : GoodIn wsX8_best wsX0_findBest := goodIn_r _ [15, 16, 17, 18, 19, 20, 21, 22, 23, 8, 24, 25, 10, 26, 27, 28, 29, 30, 31, 32, 33, 34, 35, 36, 37, 38, 39, 40, 41, 42, 43, 44, 45, 46, 47, 48, 49, 50, 51, 52, 53, 54, 55, 56, 57, 58, 59, 60, 61, 62, 63, 64, 65, 66, 67, 68, 69, 70, 71, 72, 73, 74, 75, 76, 77, 78, 79, 80, 81, 82, 83, 84, 85, 86, 87, 88, 89, 90, 91, 92, 93, 94, 95, 96, 97, 98, 99, 100, 101, 102, 103, 104, 105, 106, 107, 108, 109, 110, 111, 112, 113, 122, 123, 124, 125, 126, 127, 128, 129, 130, 131, 132, 133, 134, 135, 136, 137, 138, 139, 140, 141] (by decide +kernel) (by decide +kernel)
set_option maxRecDepth 20000 in
theorem gX8_best_X0_findBest : GoodIn wsX8_best (wsV RX8 159 RX0 yX0_findBest wsX0_findBest) := goodIn_app (goodIn_of _ (by decide +kernel)) ggX8_best_X0_findBest
theorem dX8_best_0 : decode cX8_best 0 = .ok (.aload_n 0, 1) := by decide +kernel
theorem dX8_best_1 : decode cX8_best 1 = .ok (.getfield 12, 3) := by decide +kernel
theorem dX8_best_4 : decode cX8_best 4 = .ok (.iload_n 1, 1) := by decide +kernel
theorem dX8_best_5 : decode cX8_best 5 = .ok (.invokevirtual 99, 3) := by decide +kernel
theorem dX8_best_8 : decode cX8_best 8 = .ok (.ifCond .ne 5, 3) := by decide +kernel
theorem dX8_best_11 : decode cX8_best 11 = .ok (.iconst (-1), 1) := by decide +kernel
theorem dX8_best_12 : decode cX8_best 12 = .ok (.ireturn, 1) := by decide +kernel
theorem dX8_best_13 : decode cX8_best 13 = .ok (.iload_n 2, 1) := by decide +kernel
theorem dX8_best_14 : decode cX8_best 14 = .ok (.ifCond .eq 11, 3) := by decide +kernel
theorem dX8_best_17 : decode cX8_best 17 = .ok (.iload_n 2, 1) := by decide +kernel
theorem dX8_best_18 : decode cX8_best 18 = .ok (.iconst 1, 1) := by decide +kernel
theorem dX8_best_19 : decode cX8_best 19 = .ok (.if_icmp .eq 6, 3) := by decide +kernel
theorem dX8_best_22 : decode cX8_best 22 = .ok (.bipush (-2), 2) := by decide +kernel
theorem dX8_best_24 : decode cX8_best 24 = .ok (.ireturn, 1) := by decide +kernel
theorem dX8_best_25 : decode cX8_best 25 = .ok (.aload_n 0, 1) := by decide +kernel
theorem dX8_best_26 : decode cX8_best 26 = .ok (.getfield 28, 3) := by decide +kernel
theorem dX8_best_29 : decode cX8_best 29 = .ok (.aload_n 0, 1) := by decide +kernel
theorem dX8_best_30 : decode cX8_best 30 = .ok (.getfield 12, 3) := by decide +kernel
theorem dX8_best_33 : decode cX8_best 33 = .ok (.iload_n 1, 1) := by decide +kernel
theorem dX8_best_34 : decode cX8_best 34 = .ok (.invokevirtual 159, 3) := by decide +kernel
theorem dX8_best_37 : decode cX8_best 37 = .ok (.iload_n 2, 1) := by decide +kernel
theorem dX8_best_38 : decode cX8_best 38 = .ok (.ifCond .ne 13, 3) := by decide +kernel
theorem dX8_best_41 : decode cX8_best 41 = .ok (.aload_n 0, 1) := by decide +kernel
theorem dX8_best_42 : decode cX8_best 42 = .ok (.getfield 28, 3) := by decide +kernel
theorem dX8_best_45 : decode cX8_best 45 = .ok (.getfield 162, 3) := by decide +kernel
theorem dX8_best_48 : decode cX8_best 48 = .ok (.goto 10, 3) := by decide +kernel
theorem dX8_best_51 : decode cX8_best 51 = .ok (.aload_n 0, 1) := by decide +kernel
theorem dX8_best_52 : decode cX8_best 52 = .ok (.getfield 28, 3) := by decide +kernel
theorem dX8_best_55 : decode cX8_best 55 = .ok (.getfield 165, 3) := by decide +kernel
theorem dX8_best_58 : decode cX8_best 58 = .ok (.ireturn, 1) := by decide +kernel
set_option maxRecDepth 20000 in
theorem ggX8_calm_X3_has : GoodIn wsX8_calm wsX3_has := goodIn_r _ [10, 11, 136, 137, 138, 139, 140, 141, 142] (by decide +kernel) (by decide +kernel)
set_option maxRecDepth 20000 in
theorem gX8_calm_X3_has : GoodIn wsX8_calm (wsV RX8 99 RX3 yX3_has wsX3_has) := goodIn_app (goodIn_of _ (by decide +kernel)) ggX8_calm_X3_has
set_option maxRecDepth 20000 in
theorem ggX8_calm_X3_isNone : GoodIn wsX8_calm wsX3_isNone := goodIn_r _ [15, 11, 136, 137, 138, 139, 140, 141, 142] (by decide +kernel) (by decide +kernel)
set_option maxRecDepth 20000 in
theorem gX8_calm_X3_isNone : GoodIn wsX8_calm (wsV RX8 118 RX3 yX3_isNone wsX3_isNone) := goodIn_app (goodIn_of _ (by decide +kernel)) ggX8_calm_X3_isNone
set_option maxRecDepth 20000 in
theorem ggX8_calm_X0_findCalm : GoodIn wsX8_calm wsX0_findCalm := goodIn_r _ [20, 21, 22, 23, 24, 25, 26, 9, 27, 28, 11, 29, 30, 31, 32, 33, 34, 35, 36, 19, 37, 38, 39, 40, 41, 42, 43, 44, 45, 46, 47, 48, 49, 50, 51, 52, 53, 54, 55, 56, 57, 58, 59, 60, 61, 62, 63, 64, 65, 66, 67, 68, 69, 70, 71, 72, 73, 74, 75, 76, 77, 78, 79, 80, 81, 82, 83, 84, 85, 86, 87, 88, 89, 90, 91, 92, 93, 94, 95, 96, 97, 98, 99, 100, 101, 102, 103, 104, 105, 106, 107, 108, 109, 110, 111, 112, 113, 114, 115, 116, 117, 118, 119, 120, 121, 122, 131, 132, 133, 134, 135, 136, 137, 138, 139, 140, 141, 142, 143, 144, 145, 146, 147, 148, 149, 150] (by decide +kernel) (by decide +kernel)
set_option maxRecDepth 20000 in
theorem gX8_calm_X0_findCalm : GoodIn wsX8_calm (wsV RX8 168 RX0 yX0_findCalm wsX0_findCalm) := goodIn_app (goodIn_of _ (by decide +kernel)) ggX8_calm_X0_findCalm
theorem dX8_calm_0 : decode cX8_calm 0 = .ok (.iload_n 1, 1) := by decide +kernel
theorem dX8_calm_1 : decode cX8_calm 1 = .ok (.iconst (-1), 1) := by decide +kernel
theorem dX8_calm_2 : decode cX8_calm 2 = .ok (.if_icmp .lt 18, 3) := by decide +kernel
theorem dX8_calm_5 : decode cX8_calm 5 = .ok (.iload_n 1, 1) := by decide +kernel
theorem dX8_calm_6 : decode cX8_calm 6 = .ok (.ifCond .lt 16, 3) := by decide +kernel
theorem dX8_calm_9 : decode cX8_calm 9 = .ok (.aload_n 0, 1) := by decide +kernel
theorem dX8_calm_10 : decode cX8_calm 10 = .ok (.getfield 12, 3) := by decide +kernel
theorem dX8_calm_13 : decode cX8_calm 13 = .ok (.iload_n 1, 1) := by decide +kernel
theorem dX8_calm_14 : decode cX8_calm 14 = .ok (.invokevirtual 99, 3) := by decide +kernel
theorem dX8_calm_17 : decode cX8_calm 17 = .ok (.ifCond .ne 5, 3) := by decide +kernel
theorem dX8_calm_20 : decode cX8_calm 20 = .ok (.iconst (-1), 1) := by decide +kernel
theorem dX8_calm_21 : decode cX8_calm 21 = .ok (.ireturn, 1) := by decide +kernel
theorem dX8_calm_22 : decode cX8_calm 22 = .ok (.aload_n 0, 1) := by decide +kernel
theorem dX8_calm_23 : decode cX8_calm 23 = .ok (.getfield 12, 3) := by decide +kernel
theorem dX8_calm_26 : decode cX8_calm 26 = .ok (.invokevirtual 118, 3) := by decide +kernel
theorem dX8_calm_29 : decode cX8_calm 29 = .ok (.ifCond .eq 6, 3) := by decide +kernel
theorem dX8_calm_32 : decode cX8_calm 32 = .ok (.bipush (-3), 2) := by decide +kernel
theorem dX8_calm_34 : decode cX8_calm 34 = .ok (.ireturn, 1) := by decide +kernel
theorem dX8_calm_35 : decode cX8_calm 35 = .ok (.aload_n 0, 1) := by decide +kernel
theorem dX8_calm_36 : decode cX8_calm 36 = .ok (.getfield 28, 3) := by decide +kernel
theorem dX8_calm_39 : decode cX8_calm 39 = .ok (.aload_n 0, 1) := by decide +kernel
theorem dX8_calm_40 : decode cX8_calm 40 = .ok (.getfield 12, 3) := by decide +kernel
theorem dX8_calm_43 : decode cX8_calm 43 = .ok (.invokevirtual 168, 3) := by decide +kernel
theorem dX8_calm_46 : decode cX8_calm 46 = .ok (.iload_n 1, 1) := by decide +kernel
theorem dX8_calm_47 : decode cX8_calm 47 = .ok (.iconst (-1), 1) := by decide +kernel
theorem dX8_calm_48 : decode cX8_calm 48 = .ok (.if_icmp .ne 13, 3) := by decide +kernel
theorem dX8_calm_51 : decode cX8_calm 51 = .ok (.aload_n 0, 1) := by decide +kernel
theorem dX8_calm_52 : decode cX8_calm 52 = .ok (.getfield 28, 3) := by decide +kernel
theorem dX8_calm_55 : decode cX8_calm 55 = .ok (.getfield 172, 3) := by decide +kernel
theorem dX8_calm_58 : decode cX8_calm 58 = .ok (.goto 15, 3) := by decide +kernel
theorem dX8_calm_61 : decode cX8_calm 61 = .ok (.aload_n 0, 1) := by decide +kernel
theorem dX8_calm_62 : decode cX8_calm 62 = .ok (.getfield 28, 3) := by decide +kernel
theorem dX8_calm_65 : decode cX8_calm 65 = .ok (.getfield 175, 3) := by decide +kernel
theorem dX8_calm_68 : decode cX8_calm 68 = .ok (.getfield 106, 3) := by decide +kernel
theorem dX8_calm_71 : decode cX8_calm 71 = .ok (.iload_n 1, 1) := by decide +kernel
theorem dX8_calm_72 : decode cX8_calm 72 = .ok (.iaload, 1) := by decide +kernel
theorem dX8_calm_73 : decode cX8_calm 73 = .ok (.ireturn, 1) := by decide +kernel
set_option maxRecDepth 20000 in
theorem ggX8_loss_X3_isNone : GoodIn wsX8_loss wsX3_isNone := goodIn_r _ [8, 9, 113, 114, 115, 116, 117, 118, 119] (by decide +kernel) (by decide +kernel)
set_option maxRecDepth 20000 in
theorem gX8_loss_X3_isNone : GoodIn wsX8_loss (wsV RX8 118 RX3 yX3_isNone wsX3_isNone) := goodIn_app (goodIn_of _ (by decide +kernel)) ggX8_loss_X3_isNone
set_option maxRecDepth 20000 in
theorem ggX8_loss_X1_waitOfAll : GoodIn wsX8_loss wsX1_waitOfAll := goodIn_r _ [14, 15, 16, 17, 18, 19, 20, 7, 21, 9, 22, 23, 24, 13, 25, 26, 27, 28, 29, 30, 31, 32, 33, 34, 35, 36, 37, 38, 39, 40, 41, 42, 43, 44, 45, 46, 47, 48, 49, 50, 51, 52, 53, 54, 55, 56, 57, 58, 59, 60, 61, 62, 63, 64, 65, 66, 67, 68, 69, 70, 71, 72, 73, 74, 75, 76, 77, 78, 79, 80, 81, 82, 83, 84, 85, 86, 87, 88, 89, 90, 91, 92, 113, 114, 115, 116, 117, 118, 119, 120, 121, 122, 123, 124, 125, 126, 127] (by decide +kernel) (by decide +kernel)
set_option maxRecDepth 20000 in
theorem gX8_loss_X1_waitOfAll : GoodIn wsX8_loss (wsV RX8 151 RX1 yX1_waitOfAll wsX1_waitOfAll) := goodIn_app (goodIn_of _ (by decide +kernel)) ggX8_loss_X1_waitOfAll

set_option maxRecDepth 20000 in
theorem ggX8_loss_X0_waitByLeastFirst : GoodIn wsX8_loss wsX0_waitByLeastFirst := goodIn_r _ [97, 98, 99, 100, 19, 20, 7, 21, 9, 101, 102, 96, 103, 104, 67, 39, 68, 113, 114, 115, 116, 117, 118, 119] (by decide +kernel) (by decide +kernel)
set_option maxRecDepth 20000 in
theorem gX8_loss_X0_waitByLeastFirst : GoodIn wsX8_loss (wsV RX8 178 RX0 yX0_waitByLeastFirst wsX0_waitByLeastFirst) := goodIn_app (goodIn_of _ (by decide +kernel)) ggX8_loss_X0_waitByLeastFirst
theorem dX8_loss_0 : decode cX8_loss 0 = .ok (.aload_n 0, 1) := by decide +kernel
theorem dX8_loss_1 : decode cX8_loss 1 = .ok (.getfield 12, 3) := by decide +kernel
theorem dX8_loss_4 : decode cX8_loss 4 = .ok (.invokevirtual 118, 3) := by decide +kernel
theorem dX8_loss_7 : decode cX8_loss 7 = .ok (.ifCond .eq 6, 3) := by decide +kernel
theorem dX8_loss_10 : decode cX8_loss 10 = .ok (.bipush (-3), 2) := by decide +kernel
theorem dX8_loss_12 : decode cX8_loss 12 = .ok (.ireturn, 1) := by decide +kernel
theorem dX8_loss_13 : decode cX8_loss 13 = .ok (.aload_n 0, 1) := by decide +kernel
theorem dX8_loss_14 : decode cX8_loss 14 = .ok (.getfield 21, 3) := by decide +kernel
theorem dX8_loss_17 : decode cX8_loss 17 = .ok (.aload_n 0, 1) := by decide +kernel
theorem dX8_loss_18 : decode cX8_loss 18 = .ok (.getfield 12, 3) := by decide +kernel
theorem dX8_loss_21 : decode cX8_loss 21 = .ok (.invokevirtual 151, 3) := by decide +kernel
theorem dX8_loss_24 : decode cX8_loss 24 = .ok (.aload_n 0, 1) := by decide +kernel
theorem dX8_loss_25 : decode cX8_loss 25 = .ok (.getfield 28, 3) := by decide +kernel
theorem dX8_loss_28 : decode cX8_loss 28 = .ok (.aload_n 0, 1) := by decide +kernel
theorem dX8_loss_29 : decode cX8_loss 29 = .ok (.getfield 12, 3) := by decide +kernel
theorem dX8_loss_32 : decode cX8_loss 32 = .ok (.invokevirtual 178, 3) := by decide +kernel
theorem dX8_loss_35 : decode cX8_loss 35 = .ok (.isub, 1) := by decide +kernel
theorem dX8_loss_36 : decode cX8_loss 36 = .ok (.sipush 10000, 3) := by decide +kernel
theorem dX8_loss_39 : decode cX8_loss 39 = .ok (.iadd, 1) := by decide +kernel
theorem dX8_loss_40 : decode cX8_loss 40 = .ok (.ireturn, 1) := by decide +kernel
set_option maxRecDepth 20000 in
theorem ggX8_ringer_X3_has : GoodIn wsX8_ringer wsX3_has := goodIn_r _ [9, 10, 134, 135, 136, 137, 138, 139, 140] (by decide +kernel) (by decide +kernel)
set_option maxRecDepth 20000 in
theorem gX8_ringer_X3_has : GoodIn wsX8_ringer (wsV RX8 99 RX3 yX3_has wsX3_has) := goodIn_app (goodIn_of _ (by decide +kernel)) ggX8_ringer_X3_has
set_option maxRecDepth 20000 in
theorem ggX8_ringer_X5_findMove : GoodIn wsX8_ringer wsX5_findMove := goodIn_r _ [15, 16, 17, 18, 19, 20, 21, 22, 23, 8, 24, 25, 10, 26, 27, 28, 29, 30, 31, 32, 33, 34, 35, 36, 37, 38, 39, 40, 41, 42, 43, 44, 45, 46, 47, 48, 49, 50, 51, 52, 53, 54, 55, 56, 57, 58, 59, 60, 61, 62, 63, 64, 65, 66, 67, 68, 69, 70, 71, 72, 73, 74, 75, 76, 77, 78, 79, 80, 81, 82, 83, 84, 85, 86, 87, 88, 89, 90, 91, 92, 93, 94, 95, 96, 97, 98, 99, 100, 101, 102, 103, 104, 105, 106, 107, 108, 109, 110, 111, 112, 113, 114, 115, 116, 14, 117, 126, 127, 128, 129, 130, 131, 132, 133, 134, 135, 136, 137, 138, 139, 140, 141, 142, 143, 144, 145, 146, 147, 148] (by decide +kernel) (by decide +kernel)
set_option maxRecDepth 20000 in
theorem gX8_ringer_X5_findMove : GoodIn wsX8_ringer (wsV RX8 181 RX5 yX5_findMove wsX5_findMove) := goodIn_app (goodIn_of _ (by decide +kernel)) ggX8_ringer_X5_findMove
theorem dX8_ringer_0 : decode cX8_ringer 0 = .ok (.aload_n 0, 1) := by decide +kernel
theorem dX8_ringer_1 : decode cX8_ringer 1 = .ok (.getfield 12, 3) := by decide +kernel
theorem dX8_ringer_4 : decode cX8_ringer 4 = .ok (.iload_n 1, 1) := by decide +kernel
theorem dX8_ringer_5 : decode cX8_ringer 5 = .ok (.invokevirtual 99, 3) := by decide +kernel
theorem dX8_ringer_8 : decode cX8_ringer 8 = .ok (.ifCond .ne 5, 3) := by decide +kernel
theorem dX8_ringer_11 : decode cX8_ringer 11 = .ok (.iconst (-1), 1) := by decide +kernel
theorem dX8_ringer_12 : decode cX8_ringer 12 = .ok (.ireturn, 1) := by decide +kernel
theorem dX8_ringer_13 : decode cX8_ringer 13 = .ok (.iload_n 2, 1) := by decide +kernel
theorem dX8_ringer_14 : decode cX8_ringer 14 = .ok (.ifCond .eq 11, 3) := by decide +kernel
theorem dX8_ringer_17 : decode cX8_ringer 17 = .ok (.iload_n 2, 1) := by decide +kernel
theorem dX8_ringer_18 : decode cX8_ringer 18 = .ok (.iconst 1, 1) := by decide +kernel
theorem dX8_ringer_19 : decode cX8_ringer 19 = .ok (.if_icmp .eq 6, 3) := by decide +kernel
theorem dX8_ringer_22 : decode cX8_ringer 22 = .ok (.bipush (-2), 2) := by decide +kernel
theorem dX8_ringer_24 : decode cX8_ringer 24 = .ok (.ireturn, 1) := by decide +kernel
theorem dX8_ringer_25 : decode cX8_ringer 25 = .ok (.aload_n 0, 1) := by decide +kernel
theorem dX8_ringer_26 : decode cX8_ringer 26 = .ok (.getfield 35, 3) := by decide +kernel
theorem dX8_ringer_29 : decode cX8_ringer 29 = .ok (.aload_n 0, 1) := by decide +kernel
theorem dX8_ringer_30 : decode cX8_ringer 30 = .ok (.getfield 12, 3) := by decide +kernel
theorem dX8_ringer_33 : decode cX8_ringer 33 = .ok (.iload_n 1, 1) := by decide +kernel
theorem dX8_ringer_34 : decode cX8_ringer 34 = .ok (.invokevirtual 181, 3) := by decide +kernel
theorem dX8_ringer_37 : decode cX8_ringer 37 = .ok (.iload_n 2, 1) := by decide +kernel
theorem dX8_ringer_38 : decode cX8_ringer 38 = .ok (.ifCond .ne 13, 3) := by decide +kernel
theorem dX8_ringer_41 : decode cX8_ringer 41 = .ok (.aload_n 0, 1) := by decide +kernel
theorem dX8_ringer_42 : decode cX8_ringer 42 = .ok (.getfield 35, 3) := by decide +kernel
theorem dX8_ringer_45 : decode cX8_ringer 45 = .ok (.getfield 184, 3) := by decide +kernel
theorem dX8_ringer_48 : decode cX8_ringer 48 = .ok (.goto 10, 3) := by decide +kernel
theorem dX8_ringer_51 : decode cX8_ringer 51 = .ok (.aload_n 0, 1) := by decide +kernel
theorem dX8_ringer_52 : decode cX8_ringer 52 = .ok (.getfield 35, 3) := by decide +kernel
theorem dX8_ringer_55 : decode cX8_ringer 55 = .ok (.getfield 187, 3) := by decide +kernel
theorem dX8_ringer_58 : decode cX8_ringer 58 = .ok (.ireturn, 1) := by decide +kernel
set_option maxRecDepth 20000 in
theorem ggX8_pays_X3_has : GoodIn wsX8_pays wsX3_has := goodIn_r _ [10, 11, 129, 130, 131, 132, 133, 134, 135] (by decide +kernel) (by decide +kernel)
set_option maxRecDepth 20000 in
theorem gX8_pays_X3_has : GoodIn wsX8_pays (wsV RX8 99 RX3 yX3_has wsX3_has) := goodIn_app (goodIn_of _ (by decide +kernel)) ggX8_pays_X3_has
set_option maxRecDepth 20000 in
theorem ggX8_pays_X0_findRunOut : GoodIn wsX8_pays wsX0_findRunOut := goodIn_r _ [16, 17, 18, 19, 20, 21, 22, 23, 24, 9, 25, 26, 11, 27, 28, 29, 30, 31, 32, 33, 34, 35, 36, 37, 38, 39, 40, 41, 42, 43, 44, 45, 46, 47, 48, 49, 50, 51, 52, 53, 54, 55, 56, 57, 58, 59, 60, 61, 62, 63, 64, 65, 66, 67, 68, 69, 70, 71, 72, 73, 74, 75, 76, 77, 78, 79, 80, 81, 82, 83, 84, 85, 86, 87, 88, 89, 90, 91, 92, 93, 94, 95, 96, 97, 98, 99, 100, 101, 102, 103, 104, 105, 106, 107, 108, 109, 110, 111, 112, 113, 114, 124, 125, 126, 127, 128, 129, 130, 131, 132, 133, 134, 135, 136, 137, 138, 139, 140, 141, 142, 143] (by decide +kernel) (by decide +kernel)
set_option maxRecDepth 20000 in
theorem gX8_pays_X0_findRunOut : GoodIn wsX8_pays (wsV RX8 188 RX0 yX0_findRunOut wsX0_findRunOut) := goodIn_app (goodIn_of _ (by decide +kernel)) ggX8_pays_X0_findRunOut
set_option maxRecDepth 20000 in
theorem ggX8_pays_X1_servedOf : GoodIn wsX8_pays wsX1_servedOf := goodIn_r _ [36, 37, 38, 39, 40, 9, 41, 11, 42, 43, 44, 35, 45, 46, 47, 48, 49, 50, 51, 52, 53, 54, 55, 56, 57, 58, 59, 60, 61, 62, 63, 64, 65, 66, 67, 68, 69, 70, 71, 72, 73, 74, 75, 76, 77, 78, 79, 80, 81, 82, 83, 84, 85, 86, 87, 88, 89, 90, 91, 92, 93, 94, 95, 96, 97, 98, 99, 100, 101, 102, 103, 104, 105, 106, 107, 108, 109, 110, 111, 112, 113, 114, 136, 137, 138, 139, 140, 141, 129, 130, 131, 132, 133, 134, 135, 142, 143] (by decide +kernel) (by decide +kernel)
set_option maxRecDepth 20000 in
theorem gX8_pays_X1_servedOf : GoodIn wsX8_pays (wsV RX8 129 RX1 yX1_servedOf wsX1_servedOf) := goodIn_app (goodIn_of _ (by decide +kernel)) ggX8_pays_X1_servedOf
theorem dX8_pays_0 : decode cX8_pays 0 = .ok (.aload_n 0, 1) := by decide +kernel
theorem dX8_pays_1 : decode cX8_pays 1 = .ok (.getfield 12, 3) := by decide +kernel
theorem dX8_pays_4 : decode cX8_pays 4 = .ok (.iload_n 1, 1) := by decide +kernel
theorem dX8_pays_5 : decode cX8_pays 5 = .ok (.invokevirtual 99, 3) := by decide +kernel
theorem dX8_pays_8 : decode cX8_pays 8 = .ok (.ifCond .ne 5, 3) := by decide +kernel
theorem dX8_pays_11 : decode cX8_pays 11 = .ok (.iconst (-1), 1) := by decide +kernel
theorem dX8_pays_12 : decode cX8_pays 12 = .ok (.ireturn, 1) := by decide +kernel
theorem dX8_pays_13 : decode cX8_pays 13 = .ok (.iload_n 2, 1) := by decide +kernel
theorem dX8_pays_14 : decode cX8_pays 14 = .ok (.ifCond .eq 11, 3) := by decide +kernel
theorem dX8_pays_17 : decode cX8_pays 17 = .ok (.iload_n 2, 1) := by decide +kernel
theorem dX8_pays_18 : decode cX8_pays 18 = .ok (.iconst 1, 1) := by decide +kernel
theorem dX8_pays_19 : decode cX8_pays 19 = .ok (.if_icmp .eq 6, 3) := by decide +kernel
theorem dX8_pays_22 : decode cX8_pays 22 = .ok (.bipush (-2), 2) := by decide +kernel
theorem dX8_pays_24 : decode cX8_pays 24 = .ok (.ireturn, 1) := by decide +kernel
theorem dX8_pays_25 : decode cX8_pays 25 = .ok (.aload_n 0, 1) := by decide +kernel
theorem dX8_pays_26 : decode cX8_pays 26 = .ok (.getfield 28, 3) := by decide +kernel
theorem dX8_pays_29 : decode cX8_pays 29 = .ok (.aload_n 0, 1) := by decide +kernel
theorem dX8_pays_30 : decode cX8_pays 30 = .ok (.getfield 12, 3) := by decide +kernel
theorem dX8_pays_33 : decode cX8_pays 33 = .ok (.iload_n 1, 1) := by decide +kernel
theorem dX8_pays_34 : decode cX8_pays 34 = .ok (.invokevirtual 188, 3) := by decide +kernel
theorem dX8_pays_37 : decode cX8_pays 37 = .ok (.iload_n 2, 1) := by decide +kernel
theorem dX8_pays_38 : decode cX8_pays 38 = .ok (.iconst 1, 1) := by decide +kernel
theorem dX8_pays_39 : decode cX8_pays 39 = .ok (.if_icmp .ne 11, 3) := by decide +kernel
theorem dX8_pays_42 : decode cX8_pays 42 = .ok (.aload_n 0, 1) := by decide +kernel
theorem dX8_pays_43 : decode cX8_pays 43 = .ok (.getfield 28, 3) := by decide +kernel
theorem dX8_pays_46 : decode cX8_pays 46 = .ok (.getfield 162, 3) := by decide +kernel
theorem dX8_pays_49 : decode cX8_pays 49 = .ok (.ireturn, 1) := by decide +kernel
theorem dX8_pays_50 : decode cX8_pays 50 = .ok (.aload_n 0, 1) := by decide +kernel
theorem dX8_pays_51 : decode cX8_pays 51 = .ok (.getfield 21, 3) := by decide +kernel
theorem dX8_pays_54 : decode cX8_pays 54 = .ok (.aload_n 0, 1) := by decide +kernel
theorem dX8_pays_55 : decode cX8_pays 55 = .ok (.getfield 12, 3) := by decide +kernel
theorem dX8_pays_58 : decode cX8_pays 58 = .ok (.iload_n 1, 1) := by decide +kernel
theorem dX8_pays_59 : decode cX8_pays 59 = .ok (.invokevirtual 129, 3) := by decide +kernel
theorem dX8_pays_62 : decode cX8_pays 62 = .ok (.aload_n 0, 1) := by decide +kernel
theorem dX8_pays_63 : decode cX8_pays 63 = .ok (.getfield 28, 3) := by decide +kernel
theorem dX8_pays_66 : decode cX8_pays 66 = .ok (.getfield 165, 3) := by decide +kernel
theorem dX8_pays_69 : decode cX8_pays 69 = .ok (.isub, 1) := by decide +kernel
theorem dX8_pays_70 : decode cX8_pays 70 = .ok (.ireturn, 1) := by decide +kernel
set_option maxRecDepth 20000 in
theorem ggX8_reading_X3_has : GoodIn wsX8_reading wsX3_has := goodIn_r _ [7, 8, 25, 26, 27, 28, 29, 30, 31] (by decide +kernel) (by decide +kernel)
set_option maxRecDepth 20000 in
theorem gX8_reading_X3_has : GoodIn wsX8_reading (wsV RX8 99 RX3 yX3_has wsX3_has) := goodIn_app (goodIn_of _ (by decide +kernel)) ggX8_reading_X3_has
set_option maxRecDepth 20000 in
theorem ggX8_reading_X4_add : GoodIn wsX8_reading wsX4_add := goodIn_r _ [13, 14, 15, 16, 32, 33, 34] (by decide +kernel) (by decide +kernel)
set_option maxRecDepth 20000 in
theorem gX8_reading_X4_add : GoodIn wsX8_reading (wsV RX8 191 RX4 yX4_add wsX4_add) := goodIn_app (goodIn_of _ (by decide +kernel)) ggX8_reading_X4_add
theorem dX8_reading_0 : decode cX8_reading 0 = .ok (.aload_n 0, 1) := by decide +kernel
theorem dX8_reading_1 : decode cX8_reading 1 = .ok (.getfield 12, 3) := by decide +kernel
theorem dX8_reading_4 : decode cX8_reading 4 = .ok (.iload_n 1, 1) := by decide +kernel
theorem dX8_reading_5 : decode cX8_reading 5 = .ok (.invokevirtual 99, 3) := by decide +kernel
theorem dX8_reading_8 : decode cX8_reading 8 = .ok (.ifCond .ne 5, 3) := by decide +kernel
theorem dX8_reading_11 : decode cX8_reading 11 = .ok (.iconst (-1), 1) := by decide +kernel
theorem dX8_reading_12 : decode cX8_reading 12 = .ok (.ireturn, 1) := by decide +kernel
theorem dX8_reading_13 : decode cX8_reading 13 = .ok (.iload_n 2, 1) := by decide +kernel
theorem dX8_reading_14 : decode cX8_reading 14 = .ok (.ifCond .lt 10, 3) := by decide +kernel
theorem dX8_reading_17 : decode cX8_reading 17 = .ok (.iload_n 2, 1) := by decide +kernel
theorem dX8_reading_18 : decode cX8_reading 18 = .ok (.sipush 199, 3) := by decide +kernel
theorem dX8_reading_21 : decode cX8_reading 21 = .ok (.if_icmp .le 6, 3) := by decide +kernel
theorem dX8_reading_24 : decode cX8_reading 24 = .ok (.bipush (-2), 2) := by decide +kernel
theorem dX8_reading_26 : decode cX8_reading 26 = .ok (.ireturn, 1) := by decide +kernel
theorem dX8_reading_27 : decode cX8_reading 27 = .ok (.aload_n 0, 1) := by decide +kernel
theorem dX8_reading_28 : decode cX8_reading 28 = .ok (.getfield 42, 3) := by decide +kernel
theorem dX8_reading_31 : decode cX8_reading 31 = .ok (.iload_n 1, 1) := by decide +kernel
theorem dX8_reading_32 : decode cX8_reading 32 = .ok (.iload_n 2, 1) := by decide +kernel
theorem dX8_reading_33 : decode cX8_reading 33 = .ok (.invokevirtual 191, 3) := by decide +kernel
theorem dX8_reading_36 : decode cX8_reading 36 = .ok (.ireturn, 1) := by decide +kernel
theorem dX8_back_0 : decode cX8_back 0 = .ok (.iload_n 1, 1) := by decide +kernel
theorem dX8_back_1 : decode cX8_back 1 = .ok (.ifCond .lt 14, 3) := by decide +kernel
theorem dX8_back_4 : decode cX8_back 4 = .ok (.iload_n 1, 1) := by decide +kernel
theorem dX8_back_5 : decode cX8_back 5 = .ok (.aload_n 0, 1) := by decide +kernel
theorem dX8_back_6 : decode cX8_back 6 = .ok (.getfield 42, 3) := by decide +kernel
theorem dX8_back_9 : decode cX8_back 9 = .ok (.getfield 95, 3) := by decide +kernel
theorem dX8_back_12 : decode cX8_back 12 = .ok (.if_icmp .le 6, 3) := by decide +kernel
theorem dX8_back_15 : decode cX8_back 15 = .ok (.bipush (-2), 2) := by decide +kernel
theorem dX8_back_17 : decode cX8_back 17 = .ok (.ireturn, 1) := by decide +kernel
theorem dX8_back_18 : decode cX8_back 18 = .ok (.aload_n 0, 1) := by decide +kernel
theorem dX8_back_19 : decode cX8_back 19 = .ok (.getfield 42, 3) := by decide +kernel
theorem dX8_back_22 : decode cX8_back 22 = .ok (.dup, 1) := by decide +kernel
theorem dX8_back_23 : decode cX8_back 23 = .ok (.getfield 95, 3) := by decide +kernel
theorem dX8_back_26 : decode cX8_back 26 = .ok (.iload_n 1, 1) := by decide +kernel
theorem dX8_back_27 : decode cX8_back 27 = .ok (.isub, 1) := by decide +kernel
theorem dX8_back_28 : decode cX8_back 28 = .ok (.putfield 95, 3) := by decide +kernel
theorem dX8_back_31 : decode cX8_back 31 = .ok (.aload_n 0, 1) := by decide +kernel
theorem dX8_back_32 : decode cX8_back 32 = .ok (.getfield 42, 3) := by decide +kernel
theorem dX8_back_35 : decode cX8_back 35 = .ok (.getfield 95, 3) := by decide +kernel
theorem dX8_back_38 : decode cX8_back 38 = .ok (.ireturn, 1) := by decide +kernel
set_option maxRecDepth 20000 in
theorem ggX8_which_X3_isNone : GoodIn wsX8_which wsX3_isNone := goodIn_r _ [11, 12, 156, 157, 158, 159, 160, 161, 162] (by decide +kernel) (by decide +kernel)
set_option maxRecDepth 20000 in
theorem gX8_which_X3_isNone : GoodIn wsX8_which (wsV RX8 118 RX3 yX3_isNone wsX3_isNone) := goodIn_app (goodIn_of _ (by decide +kernel)) ggX8_which_X3_isNone
set_option maxRecDepth 20000 in
theorem ggX8_which_X5_findSets : GoodIn wsX8_which wsX5_findSets := goodIn_r _ [17, 18, 19, 20, 21, 22, 23, 24, 25, 26, 27, 10, 28, 29, 12, 30, 31, 32, 33, 34, 35, 36, 37, 16, 38, 39, 40, 41, 42, 43, 44, 45, 46, 47, 48, 49, 50, 51, 52, 53, 54, 55, 56, 57, 58, 59, 60, 61, 62, 63, 64, 65, 66, 67, 68, 69, 70, 71, 72, 73, 74, 75, 76, 77, 78, 79, 80, 81, 82, 83, 84, 85, 86, 87, 88, 89, 90, 91, 92, 93, 94, 95, 96, 97, 98, 99, 100, 101, 102, 103, 104, 105, 106, 107, 108, 109, 110, 111, 112, 113, 114, 115, 116, 117, 118, 119, 120, 121, 122, 123, 124, 125, 126, 127, 128, 129, 130, 131, 132, 133, 134, 135, 136, 137, 138, 139, 148, 149, 150, 151, 152, 153, 154, 155, 163, 164, 165, 166, 167, 168, 156, 157, 158, 159, 160, 161, 162, 169, 170, 171, 172, 173] (by decide +kernel) (by decide +kernel)
set_option maxRecDepth 20000 in
theorem gX8_which_X5_findSets : GoodIn wsX8_which (wsV RX8 194 RX5 yX5_findSets wsX5_findSets) := goodIn_app (goodIn_of _ (by decide +kernel)) ggX8_which_X5_findSets
theorem dX8_which_0 : decode cX8_which 0 = .ok (.iload_n 1, 1) := by decide +kernel
theorem dX8_which_1 : decode cX8_which 1 = .ok (.iconst (-1), 1) := by decide +kernel
theorem dX8_which_2 : decode cX8_which 2 = .ok (.if_icmp .lt 8, 3) := by decide +kernel
theorem dX8_which_5 : decode cX8_which 5 = .ok (.iload_n 1, 1) := by decide +kernel
theorem dX8_which_6 : decode cX8_which 6 = .ok (.iconst 1, 1) := by decide +kernel
theorem dX8_which_7 : decode cX8_which 7 = .ok (.if_icmp .le 5, 3) := by decide +kernel
theorem dX8_which_10 : decode cX8_which 10 = .ok (.iconst (-1), 1) := by decide +kernel
theorem dX8_which_11 : decode cX8_which 11 = .ok (.ireturn, 1) := by decide +kernel
theorem dX8_which_12 : decode cX8_which 12 = .ok (.aload_n 0, 1) := by decide +kernel
theorem dX8_which_13 : decode cX8_which 13 = .ok (.getfield 12, 3) := by decide +kernel
theorem dX8_which_16 : decode cX8_which 16 = .ok (.invokevirtual 118, 3) := by decide +kernel
theorem dX8_which_19 : decode cX8_which 19 = .ok (.ifCond .eq 6, 3) := by decide +kernel
theorem dX8_which_22 : decode cX8_which 22 = .ok (.bipush (-3), 2) := by decide +kernel
theorem dX8_which_24 : decode cX8_which 24 = .ok (.ireturn, 1) := by decide +kernel
theorem dX8_which_25 : decode cX8_which 25 = .ok (.aload_n 0, 1) := by decide +kernel
theorem dX8_which_26 : decode cX8_which 26 = .ok (.getfield 35, 3) := by decide +kernel
theorem dX8_which_29 : decode cX8_which 29 = .ok (.aload_n 0, 1) := by decide +kernel
theorem dX8_which_30 : decode cX8_which 30 = .ok (.getfield 12, 3) := by decide +kernel
theorem dX8_which_33 : decode cX8_which 33 = .ok (.aload_n 0, 1) := by decide +kernel
theorem dX8_which_34 : decode cX8_which 34 = .ok (.getfield 42, 3) := by decide +kernel
theorem dX8_which_37 : decode cX8_which 37 = .ok (.invokevirtual 194, 3) := by decide +kernel
theorem dX8_which_40 : decode cX8_which 40 = .ok (.iload_n 1, 1) := by decide +kernel
theorem dX8_which_41 : decode cX8_which 41 = .ok (.iconst (-1), 1) := by decide +kernel
theorem dX8_which_42 : decode cX8_which 42 = .ok (.if_icmp .ne 11, 3) := by decide +kernel
theorem dX8_which_45 : decode cX8_which 45 = .ok (.aload_n 0, 1) := by decide +kernel
theorem dX8_which_46 : decode cX8_which 46 = .ok (.getfield 35, 3) := by decide +kernel
theorem dX8_which_49 : decode cX8_which 49 = .ok (.getfield 198, 3) := by decide +kernel
theorem dX8_which_52 : decode cX8_which 52 = .ok (.ireturn, 1) := by decide +kernel
theorem dX8_which_53 : decode cX8_which 53 = .ok (.iload_n 1, 1) := by decide +kernel
theorem dX8_which_54 : decode cX8_which 54 = .ok (.ifCond .ne 13, 3) := by decide +kernel
theorem dX8_which_57 : decode cX8_which 57 = .ok (.aload_n 0, 1) := by decide +kernel
theorem dX8_which_58 : decode cX8_which 58 = .ok (.getfield 35, 3) := by decide +kernel
theorem dX8_which_61 : decode cX8_which 61 = .ok (.getfield 201, 3) := by decide +kernel
theorem dX8_which_64 : decode cX8_which 64 = .ok (.goto 10, 3) := by decide +kernel
theorem dX8_which_67 : decode cX8_which 67 = .ok (.aload_n 0, 1) := by decide +kernel
theorem dX8_which_68 : decode cX8_which 68 = .ok (.getfield 35, 3) := by decide +kernel
theorem dX8_which_71 : decode cX8_which 71 = .ok (.getfield 204, 3) := by decide +kernel
theorem dX8_which_74 : decode cX8_which 74 = .ok (.ireturn, 1) := by decide +kernel
set_option maxRecDepth 20000 in
theorem ggX8_noon_X3_isNone : GoodIn wsX8_noon wsX3_isNone := goodIn_r _ [7, 8, 110, 111, 112, 113, 114, 115, 116] (by decide +kernel) (by decide +kernel)
set_option maxRecDepth 20000 in
theorem gX8_noon_X3_isNone : GoodIn wsX8_noon (wsV RX8 118 RX3 yX3_isNone wsX3_isNone) := goodIn_app (goodIn_of _ (by decide +kernel)) ggX8_noon_X3_isNone
set_option maxRecDepth 20000 in
theorem ggX8_noon_X5_greatestServedBy : GoodIn wsX8_noon wsX5_greatestServedBy := goodIn_r _ [13, 14, 15, 16, 17, 18, 6, 19, 8, 20, 21, 22, 23, 24, 25, 26, 27, 28, 29, 30, 31, 32, 33, 34, 35, 36, 37, 38, 39, 40, 41, 42, 43, 44, 45, 46, 47, 48, 49, 50, 51, 52, 53, 54, 55, 56, 57, 58, 59, 60, 61, 62, 63, 64, 65, 66, 67, 68, 69, 70, 71, 72, 73, 74, 75, 76, 77, 78, 79, 80, 81, 82, 83, 84, 85, 86, 87, 88, 89, 90, 91, 92, 93, 94, 95, 96, 97, 98, 99, 100, 101, 117, 118, 119, 120, 121, 122, 123, 124, 125, 126, 127, 128, 129, 130, 110, 111, 112, 113, 114, 115, 116, 131, 132] (by decide +kernel) (by decide +kernel)
set_option maxRecDepth 20000 in
theorem gX8_noon_X5_greatestServedBy : GoodIn wsX8_noon (wsV RX8 207 RX5 yX5_greatestServedBy wsX5_greatestServedBy) := goodIn_app (goodIn_of _ (by decide +kernel)) ggX8_noon_X5_greatestServedBy
theorem dX8_noon_0 : decode cX8_noon 0 = .ok (.iload_n 1, 1) := by decide +kernel
theorem dX8_noon_1 : decode cX8_noon 1 = .ok (.ifCond .lt 10, 3) := by decide +kernel
theorem dX8_noon_4 : decode cX8_noon 4 = .ok (.iload_n 1, 1) := by decide +kernel
theorem dX8_noon_5 : decode cX8_noon 5 = .ok (.sipush 199, 3) := by decide +kernel
theorem dX8_noon_8 : decode cX8_noon 8 = .ok (.if_icmp .le 6, 3) := by decide +kernel
theorem dX8_noon_11 : decode cX8_noon 11 = .ok (.bipush (-2), 2) := by decide +kernel
theorem dX8_noon_13 : decode cX8_noon 13 = .ok (.ireturn, 1) := by decide +kernel
theorem dX8_noon_14 : decode cX8_noon 14 = .ok (.aload_n 0, 1) := by decide +kernel
theorem dX8_noon_15 : decode cX8_noon 15 = .ok (.getfield 12, 3) := by decide +kernel
theorem dX8_noon_18 : decode cX8_noon 18 = .ok (.invokevirtual 118, 3) := by decide +kernel
theorem dX8_noon_21 : decode cX8_noon 21 = .ok (.ifCond .eq 6, 3) := by decide +kernel
theorem dX8_noon_24 : decode cX8_noon 24 = .ok (.bipush (-3), 2) := by decide +kernel
theorem dX8_noon_26 : decode cX8_noon 26 = .ok (.ireturn, 1) := by decide +kernel
theorem dX8_noon_27 : decode cX8_noon 27 = .ok (.aload_n 0, 1) := by decide +kernel
theorem dX8_noon_28 : decode cX8_noon 28 = .ok (.getfield 35, 3) := by decide +kernel
theorem dX8_noon_31 : decode cX8_noon 31 = .ok (.aload_n 0, 1) := by decide +kernel
theorem dX8_noon_32 : decode cX8_noon 32 = .ok (.getfield 12, 3) := by decide +kernel
theorem dX8_noon_35 : decode cX8_noon 35 = .ok (.iload_n 1, 1) := by decide +kernel
theorem dX8_noon_36 : decode cX8_noon 36 = .ok (.invokevirtual 207, 3) := by decide +kernel
theorem dX8_noon_39 : decode cX8_noon 39 = .ok (.ireturn, 1) := by decide +kernel
set_option maxRecDepth 20000 in
theorem ggX8_sheet_X8_isSheet : GoodIn wsX8_sheet wsX8_isSheet := goodIn_r _ [5] (by decide +kernel) (by decide +kernel)
set_option maxRecDepth 20000 in
theorem gX8_sheet_X8_isSheet : GoodIn wsX8_sheet (va_wsS RX8 60 yX8_isSheet wsX8_isSheet) := goodIn_app (goodIn_of _ (by decide +kernel)) ggX8_sheet_X8_isSheet
set_option maxRecDepth 20000 in
theorem ggX8_sheet_X8_faultless : GoodIn wsX8_sheet wsX8_faultless := goodIn_r _ [9, 10, 26, 27, 28, 29, 30, 31, 32, 33] (by decide +kernel) (by decide +kernel)
set_option maxRecDepth 20000 in
theorem gX8_sheet_X8_faultless : GoodIn wsX8_sheet (wsV RX8 64 RX8 yX8_faultless wsX8_faultless) := goodIn_app (goodIn_of _ (by decide +kernel)) ggX8_sheet_X8_faultless
set_option maxRecDepth 20000 in
theorem ggX8_sheet_X8_isLane : GoodIn wsX8_sheet wsX8_isLane := goodIn_r _ [13] (by decide +kernel) (by decide +kernel)
set_option maxRecDepth 20000 in
theorem gX8_sheet_X8_isLane : GoodIn wsX8_sheet (va_wsS RX8 68 yX8_isLane wsX8_isLane) := goodIn_app (goodIn_of _ (by decide +kernel)) ggX8_sheet_X8_isLane
set_option maxRecDepth 20000 in
theorem ggX8_sheet_X8_faulted : GoodIn wsX8_sheet wsX8_faulted := goodIn_r _ [17, 10, 26, 27, 28, 29, 30, 31, 32, 33] (by decide +kernel) (by decide +kernel)
set_option maxRecDepth 20000 in
theorem gX8_sheet_X8_faulted : GoodIn wsX8_sheet (wsV RX8 74 RX8 yX8_faulted wsX8_faulted) := goodIn_app (goodIn_of _ (by decide +kernel)) ggX8_sheet_X8_faulted
set_option maxRecDepth 20000 in
theorem ggX8_sheet_X6_begin : GoodIn wsX8_sheet wsX6_begin := goodIn_r _ [22, 23, 24, 25, 34, 35, 36] (by decide +kernel) (by decide +kernel)
set_option maxRecDepth 20000 in
theorem gX8_sheet_X6_begin : GoodIn wsX8_sheet (wsV RX8 210 RX6 yX6_begin wsX6_begin) := goodIn_app (goodIn_of _ (by decide +kernel)) ggX8_sheet_X6_begin
theorem dX8_sheet_0 : decode cX8_sheet 0 = .ok (.iload_n 1, 1) := by decide +kernel
theorem dX8_sheet_1 : decode cX8_sheet 1 = .ok (.invokestatic 60, 3) := by decide +kernel
theorem dX8_sheet_4 : decode cX8_sheet 4 = .ok (.ifCond .ne 9, 3) := by decide +kernel
theorem dX8_sheet_7 : decode cX8_sheet 7 = .ok (.aload_n 0, 1) := by decide +kernel
theorem dX8_sheet_8 : decode cX8_sheet 8 = .ok (.iconst (-1), 1) := by decide +kernel
theorem dX8_sheet_9 : decode cX8_sheet 9 = .ok (.invokevirtual 64, 3) := by decide +kernel
theorem dX8_sheet_12 : decode cX8_sheet 12 = .ok (.ireturn, 1) := by decide +kernel
theorem dX8_sheet_13 : decode cX8_sheet 13 = .ok (.iload_n 2, 1) := by decide +kernel
theorem dX8_sheet_14 : decode cX8_sheet 14 = .ok (.invokestatic 68, 3) := by decide +kernel
theorem dX8_sheet_17 : decode cX8_sheet 17 = .ok (.ifCond .eq 9, 3) := by decide +kernel
theorem dX8_sheet_20 : decode cX8_sheet 20 = .ok (.iload_n 3, 1) := by decide +kernel
theorem dX8_sheet_21 : decode cX8_sheet 21 = .ok (.bipush 60, 2) := by decide +kernel
theorem dX8_sheet_23 : decode cX8_sheet 23 = .ok (.if_icmp .le 10, 3) := by decide +kernel
theorem dX8_sheet_26 : decode cX8_sheet 26 = .ok (.aload_n 0, 1) := by decide +kernel
theorem dX8_sheet_27 : decode cX8_sheet 27 = .ok (.bipush (-2), 2) := by decide +kernel
theorem dX8_sheet_29 : decode cX8_sheet 29 = .ok (.invokevirtual 64, 3) := by decide +kernel
theorem dX8_sheet_32 : decode cX8_sheet 32 = .ok (.ireturn, 1) := by decide +kernel
theorem dX8_sheet_33 : decode cX8_sheet 33 = .ok (.iload_n 3, 1) := by decide +kernel
theorem dX8_sheet_34 : decode cX8_sheet 34 = .ok (.ifCond .ge 9, 3) := by decide +kernel
theorem dX8_sheet_37 : decode cX8_sheet 37 = .ok (.aload_n 0, 1) := by decide +kernel
theorem dX8_sheet_38 : decode cX8_sheet 38 = .ok (.iconst 4, 1) := by decide +kernel
theorem dX8_sheet_39 : decode cX8_sheet 39 = .ok (.invokevirtual 74, 3) := by decide +kernel
theorem dX8_sheet_42 : decode cX8_sheet 42 = .ok (.ireturn, 1) := by decide +kernel
theorem dX8_sheet_43 : decode cX8_sheet 43 = .ok (.aload_n 0, 1) := by decide +kernel
theorem dX8_sheet_44 : decode cX8_sheet 44 = .ok (.getfield 48, 3) := by decide +kernel
theorem dX8_sheet_47 : decode cX8_sheet 47 = .ok (.iload_n 1, 1) := by decide +kernel
theorem dX8_sheet_48 : decode cX8_sheet 48 = .ok (.aaload, 1) := by decide +kernel
theorem dX8_sheet_49 : decode cX8_sheet 49 = .ok (.iload_n 2, 1) := by decide +kernel
theorem dX8_sheet_50 : decode cX8_sheet 50 = .ok (.iload_n 3, 1) := by decide +kernel
theorem dX8_sheet_51 : decode cX8_sheet 51 = .ok (.invokevirtual 210, 3) := by decide +kernel
theorem dX8_sheet_54 : decode cX8_sheet 54 = .ok (.aload_n 0, 1) := by decide +kernel
theorem dX8_sheet_55 : decode cX8_sheet 55 = .ok (.iconst 1, 1) := by decide +kernel
theorem dX8_sheet_56 : decode cX8_sheet 56 = .ok (.invokevirtual 64, 3) := by decide +kernel
theorem dX8_sheet_59 : decode cX8_sheet 59 = .ok (.ireturn, 1) := by decide +kernel
set_option maxRecDepth 20000 in
theorem ggX8_lose_X8_isSheet : GoodIn wsX8_lose wsX8_isSheet := goodIn_r _ [5] (by decide +kernel) (by decide +kernel)
set_option maxRecDepth 20000 in
theorem gX8_lose_X8_isSheet : GoodIn wsX8_lose (va_wsS RX8 60 yX8_isSheet wsX8_isSheet) := goodIn_app (goodIn_of _ (by decide +kernel)) ggX8_lose_X8_isSheet
set_option maxRecDepth 20000 in
theorem ggX8_lose_X6_hasNothing : GoodIn wsX8_lose wsX6_hasNothing := goodIn_r _ [10, 11, 25, 26, 27] (by decide +kernel) (by decide +kernel)
set_option maxRecDepth 20000 in
theorem gX8_lose_X6_hasNothing : GoodIn wsX8_lose (wsV RX8 77 RX6 yX6_hasNothing wsX6_hasNothing) := goodIn_app (goodIn_of _ (by decide +kernel)) ggX8_lose_X6_hasNothing
set_option maxRecDepth 20000 in
theorem ggX8_lose_X6_drop : GoodIn wsX8_lose wsX6_drop := goodIn_r _ [15, 11, 16, 25, 26, 27] (by decide +kernel) (by decide +kernel)
set_option maxRecDepth 20000 in
theorem gX8_lose_X6_drop : GoodIn wsX8_lose (wsV RX8 214 RX6 yX6_drop wsX6_drop) := goodIn_app (goodIn_of _ (by decide +kernel)) ggX8_lose_X6_drop
theorem dX8_lose_0 : decode cX8_lose 0 = .ok (.iload_n 1, 1) := by decide +kernel
theorem dX8_lose_1 : decode cX8_lose 1 = .ok (.invokestatic 60, 3) := by decide +kernel
theorem dX8_lose_4 : decode cX8_lose 4 = .ok (.ifCond .ne 5, 3) := by decide +kernel
theorem dX8_lose_7 : decode cX8_lose 7 = .ok (.iconst (-1), 1) := by decide +kernel
theorem dX8_lose_8 : decode cX8_lose 8 = .ok (.ireturn, 1) := by decide +kernel
theorem dX8_lose_9 : decode cX8_lose 9 = .ok (.aload_n 0, 1) := by decide +kernel
theorem dX8_lose_10 : decode cX8_lose 10 = .ok (.getfield 48, 3) := by decide +kernel
theorem dX8_lose_13 : decode cX8_lose 13 = .ok (.iload_n 1, 1) := by decide +kernel
theorem dX8_lose_14 : decode cX8_lose 14 = .ok (.aaload, 1) := by decide +kernel
theorem dX8_lose_15 : decode cX8_lose 15 = .ok (.invokevirtual 77, 3) := by decide +kernel
theorem dX8_lose_18 : decode cX8_lose 18 = .ok (.ifCond .eq 5, 3) := by decide +kernel
theorem dX8_lose_21 : decode cX8_lose 21 = .ok (.iconst 0, 1) := by decide +kernel
theorem dX8_lose_22 : decode cX8_lose 22 = .ok (.ireturn, 1) := by decide +kernel
theorem dX8_lose_23 : decode cX8_lose 23 = .ok (.aload_n 0, 1) := by decide +kernel
theorem dX8_lose_24 : decode cX8_lose 24 = .ok (.getfield 48, 3) := by decide +kernel
theorem dX8_lose_27 : decode cX8_lose 27 = .ok (.iload_n 1, 1) := by decide +kernel
theorem dX8_lose_28 : decode cX8_lose 28 = .ok (.aaload, 1) := by decide +kernel
theorem dX8_lose_29 : decode cX8_lose 29 = .ok (.invokevirtual 214, 3) := by decide +kernel
theorem dX8_lose_32 : decode cX8_lose 32 = .ok (.iconst 1, 1) := by decide +kernel
theorem dX8_lose_33 : decode cX8_lose 33 = .ok (.ireturn, 1) := by decide +kernel
set_option maxRecDepth 20000 in
theorem ggX8_put_X8_isSheet : GoodIn wsX8_put wsX8_isSheet := goodIn_r _ [5] (by decide +kernel) (by decide +kernel)
set_option maxRecDepth 20000 in
theorem gX8_put_X8_isSheet : GoodIn wsX8_put (va_wsS RX8 60 yX8_isSheet wsX8_isSheet) := goodIn_app (goodIn_of _ (by decide +kernel)) ggX8_put_X8_isSheet
set_option maxRecDepth 20000 in
theorem ggX8_put_X8_faultless : GoodIn wsX8_put wsX8_faultless := goodIn_r _ [9, 10, 35, 36, 37, 38, 39, 40, 41, 42] (by decide +kernel) (by decide +kernel)
set_option maxRecDepth 20000 in
theorem gX8_put_X8_faultless : GoodIn wsX8_put (wsV RX8 64 RX8 yX8_faultless wsX8_faultless) := goodIn_app (goodIn_of _ (by decide +kernel)) ggX8_put_X8_faultless
set_option maxRecDepth 20000 in
theorem ggX8_put_X6_hasNothing : GoodIn wsX8_put wsX6_hasNothing := goodIn_r _ [15, 16, 43, 44, 45] (by decide +kernel) (by decide +kernel)
set_option maxRecDepth 20000 in
theorem gX8_put_X6_hasNothing : GoodIn wsX8_put (wsV RX8 77 RX6 yX6_hasNothing wsX6_hasNothing) := goodIn_app (goodIn_of _ (by decide +kernel)) ggX8_put_X6_hasNothing
set_option maxRecDepth 20000 in
theorem ggX8_put_X8_faulted : GoodIn wsX8_put wsX8_faulted := goodIn_r _ [20, 10, 35, 36, 37, 38, 39, 40, 41, 42] (by decide +kernel) (by decide +kernel)
set_option maxRecDepth 20000 in
theorem gX8_put_X8_faulted : GoodIn wsX8_put (wsV RX8 74 RX8 yX8_faulted wsX8_faulted) := goodIn_app (goodIn_of _ (by decide +kernel)) ggX8_put_X8_faulted
set_option maxRecDepth 20000 in
theorem ggX8_put_X6_holds : GoodIn wsX8_put wsX6_holds := goodIn_r _ [24, 25, 43, 44, 45] (by decide +kernel) (by decide +kernel)
set_option maxRecDepth 20000 in
theorem gX8_put_X6_holds : GoodIn wsX8_put (wsV RX8 81 RX6 yX6_holds wsX6_holds) := goodIn_app (goodIn_of _ (by decide +kernel)) ggX8_put_X6_holds
set_option maxRecDepth 20000 in
theorem ggX8_put_X6_write : GoodIn wsX8_put wsX6_write := goodIn_r _ [29, 25, 30, 31, 32, 33, 14, 34, 16, 43, 44, 45] (by decide +kernel) (by decide +kernel)
set_option maxRecDepth 20000 in
theorem gX8_put_X6_write : GoodIn wsX8_put (wsV RX8 217 RX6 yX6_write wsX6_write) := goodIn_app (goodIn_of _ (by decide +kernel)) ggX8_put_X6_write
theorem dX8_put_0 : decode cX8_put 0 = .ok (.iload_n 1, 1) := by decide +kernel
theorem dX8_put_1 : decode cX8_put 1 = .ok (.invokestatic 60, 3) := by decide +kernel
theorem dX8_put_4 : decode cX8_put 4 = .ok (.ifCond .ne 9, 3) := by decide +kernel
theorem dX8_put_7 : decode cX8_put 7 = .ok (.aload_n 0, 1) := by decide +kernel
theorem dX8_put_8 : decode cX8_put 8 = .ok (.iconst (-1), 1) := by decide +kernel
theorem dX8_put_9 : decode cX8_put 9 = .ok (.invokevirtual 64, 3) := by decide +kernel
theorem dX8_put_12 : decode cX8_put 12 = .ok (.ireturn, 1) := by decide +kernel
theorem dX8_put_13 : decode cX8_put 13 = .ok (.aload_n 0, 1) := by decide +kernel
theorem dX8_put_14 : decode cX8_put 14 = .ok (.getfield 48, 3) := by decide +kernel
theorem dX8_put_17 : decode cX8_put 17 = .ok (.iload_n 1, 1) := by decide +kernel
theorem dX8_put_18 : decode cX8_put 18 = .ok (.aaload, 1) := by decide +kernel
theorem dX8_put_19 : decode cX8_put 19 = .ok (.astore 4, 2) := by decide +kernel
theorem dX8_put_21 : decode cX8_put 21 = .ok (.aload 4, 2) := by decide +kernel
theorem dX8_put_23 : decode cX8_put 23 = .ok (.invokevirtual 77, 3) := by decide +kernel
theorem dX8_put_26 : decode cX8_put 26 = .ok (.ifCond .eq 9, 3) := by decide +kernel
theorem dX8_put_29 : decode cX8_put 29 = .ok (.aload_n 0, 1) := by decide +kernel
theorem dX8_put_30 : decode cX8_put 30 = .ok (.iconst 1, 1) := by decide +kernel
theorem dX8_put_31 : decode cX8_put 31 = .ok (.invokevirtual 74, 3) := by decide +kernel
theorem dX8_put_34 : decode cX8_put 34 = .ok (.ireturn, 1) := by decide +kernel
theorem dX8_put_35 : decode cX8_put 35 = .ok (.aload 4, 2) := by decide +kernel
theorem dX8_put_37 : decode cX8_put 37 = .ok (.iload_n 2, 1) := by decide +kernel
theorem dX8_put_38 : decode cX8_put 38 = .ok (.iconst 1, 1) := by decide +kernel
theorem dX8_put_39 : decode cX8_put 39 = .ok (.invokevirtual 81, 3) := by decide +kernel
theorem dX8_put_42 : decode cX8_put 42 = .ok (.ifCond .ne 9, 3) := by decide +kernel
theorem dX8_put_45 : decode cX8_put 45 = .ok (.aload_n 0, 1) := by decide +kernel
theorem dX8_put_46 : decode cX8_put 46 = .ok (.iconst 3, 1) := by decide +kernel
theorem dX8_put_47 : decode cX8_put 47 = .ok (.invokevirtual 74, 3) := by decide +kernel
theorem dX8_put_50 : decode cX8_put 50 = .ok (.ireturn, 1) := by decide +kernel
theorem dX8_put_51 : decode cX8_put 51 = .ok (.aload 4, 2) := by decide +kernel
theorem dX8_put_53 : decode cX8_put 53 = .ok (.iload_n 2, 1) := by decide +kernel
theorem dX8_put_54 : decode cX8_put 54 = .ok (.iload_n 3, 1) := by decide +kernel
theorem dX8_put_55 : decode cX8_put 55 = .ok (.invokevirtual 217, 3) := by decide +kernel
theorem dX8_put_58 : decode cX8_put 58 = .ok (.aload_n 0, 1) := by decide +kernel
theorem dX8_put_59 : decode cX8_put 59 = .ok (.iconst 1, 1) := by decide +kernel
theorem dX8_put_60 : decode cX8_put 60 = .ok (.invokevirtual 64, 3) := by decide +kernel
theorem dX8_put_63 : decode cX8_put 63 = .ok (.ireturn, 1) := by decide +kernel
set_option maxRecDepth 20000 in
theorem ggX8_cell_X8_isSheet : GoodIn wsX8_cell wsX8_isSheet := goodIn_r _ [5] (by decide +kernel) (by decide +kernel)
set_option maxRecDepth 20000 in
theorem gX8_cell_X8_isSheet : GoodIn wsX8_cell (va_wsS RX8 60 yX8_isSheet wsX8_isSheet) := goodIn_app (goodIn_of _ (by decide +kernel)) ggX8_cell_X8_isSheet
set_option maxRecDepth 20000 in
theorem ggX8_cell_X8_isLane : GoodIn wsX8_cell wsX8_isLane := goodIn_r _ [8] (by decide +kernel) (by decide +kernel)
set_option maxRecDepth 20000 in
theorem gX8_cell_X8_isLane : GoodIn wsX8_cell (va_wsS RX8 68 yX8_isLane wsX8_isLane) := goodIn_app (goodIn_of _ (by decide +kernel)) ggX8_cell_X8_isLane
set_option maxRecDepth 20000 in
theorem ggX8_cell_X8_lostBy : GoodIn wsX8_cell wsX8_lostBy := goodIn_r _ [12, 13, 14, 39, 40, 41, 42, 43, 44, 45, 46] (by decide +kernel) (by decide +kernel)
set_option maxRecDepth 20000 in
theorem gX8_cell_X8_lostBy : GoodIn wsX8_cell (wsV RX8 220 RX8 yX8_lostBy wsX8_lostBy) := goodIn_app (goodIn_of _ (by decide +kernel)) ggX8_cell_X8_lostBy
set_option maxRecDepth 20000 in
theorem ggX8_cell_X6_isOfAnother : GoodIn wsX8_cell wsX6_isOfAnother := goodIn_r _ [19, 20, 47, 48, 49] (by decide +kernel) (by decide +kernel)
set_option maxRecDepth 20000 in
theorem gX8_cell_X6_isOfAnother : GoodIn wsX8_cell (wsV RX8 71 RX6 yX6_isOfAnother wsX6_isOfAnother) := goodIn_app (goodIn_of _ (by decide +kernel)) ggX8_cell_X6_isOfAnother
set_option maxRecDepth 20000 in
theorem ggX8_cell_X6_hasNothing : GoodIn wsX8_cell wsX6_hasNothing := goodIn_r _ [24, 20, 47, 48, 49] (by decide +kernel) (by decide +kernel)
set_option maxRecDepth 20000 in
theorem gX8_cell_X6_hasNothing : GoodIn wsX8_cell (wsV RX8 77 RX6 yX6_hasNothing wsX6_hasNothing) := goodIn_app (goodIn_of _ (by decide +kernel)) ggX8_cell_X6_hasNothing
set_option maxRecDepth 20000 in
theorem ggX8_cell_X6_holds : GoodIn wsX8_cell wsX6_holds := goodIn_r _ [28, 29, 47, 48, 49] (by decide +kernel) (by decide +kernel)
set_option maxRecDepth 20000 in
theorem gX8_cell_X6_holds : GoodIn wsX8_cell (wsV RX8 81 RX6 yX6_holds wsX6_holds) := goodIn_app (goodIn_of _ (by decide +kernel)) ggX8_cell_X6_holds
set_option maxRecDepth 20000 in
theorem ggX8_cell_X6_at : GoodIn wsX8_cell wsX6_at := goodIn_r _ [33, 29, 34, 47, 48, 49] (by decide +kernel) (by decide +kernel)
set_option maxRecDepth 20000 in
theorem gX8_cell_X6_at : GoodIn wsX8_cell (wsV RX8 224 RX6 yX6_at wsX6_at) := goodIn_app (goodIn_of _ (by decide +kernel)) ggX8_cell_X6_at
set_option maxRecDepth 20000 in
theorem ggX8_cell_X8_faultless : GoodIn wsX8_cell wsX8_faultless := goodIn_r _ [38, 13, 39, 40, 41, 42, 43, 44, 45, 46] (by decide +kernel) (by decide +kernel)
set_option maxRecDepth 20000 in
theorem gX8_cell_X8_faultless : GoodIn wsX8_cell (wsV RX8 64 RX8 yX8_faultless wsX8_faultless) := goodIn_app (goodIn_of _ (by decide +kernel)) ggX8_cell_X8_faultless
theorem dX8_cell_0 : decode cX8_cell 0 = .ok (.iload_n 1, 1) := by decide +kernel
theorem dX8_cell_1 : decode cX8_cell 1 = .ok (.invokestatic 60, 3) := by decide +kernel
theorem dX8_cell_4 : decode cX8_cell 4 = .ok (.ifCond .eq 10, 3) := by decide +kernel
theorem dX8_cell_7 : decode cX8_cell 7 = .ok (.iload_n 3, 1) := by decide +kernel
theorem dX8_cell_8 : decode cX8_cell 8 = .ok (.invokestatic 68, 3) := by decide +kernel
theorem dX8_cell_11 : decode cX8_cell 11 = .ok (.ifCond .ne 9, 3) := by decide +kernel
theorem dX8_cell_14 : decode cX8_cell 14 = .ok (.aload_n 0, 1) := by decide +kernel
theorem dX8_cell_15 : decode cX8_cell 15 = .ok (.iconst 0, 1) := by decide +kernel
theorem dX8_cell_16 : decode cX8_cell 16 = .ok (.invokevirtual 220, 3) := by decide +kernel
theorem dX8_cell_19 : decode cX8_cell 19 = .ok (.lreturn, 1) := by decide +kernel
theorem dX8_cell_20 : decode cX8_cell 20 = .ok (.aload_n 0, 1) := by decide +kernel
theorem dX8_cell_21 : decode cX8_cell 21 = .ok (.getfield 48, 3) := by decide +kernel
theorem dX8_cell_24 : decode cX8_cell 24 = .ok (.iload_n 1, 1) := by decide +kernel
theorem dX8_cell_25 : decode cX8_cell 25 = .ok (.aaload, 1) := by decide +kernel
theorem dX8_cell_26 : decode cX8_cell 26 = .ok (.astore 4, 2) := by decide +kernel
theorem dX8_cell_28 : decode cX8_cell 28 = .ok (.aload 4, 2) := by decide +kernel
theorem dX8_cell_30 : decode cX8_cell 30 = .ok (.iload_n 3, 1) := by decide +kernel
theorem dX8_cell_31 : decode cX8_cell 31 = .ok (.invokevirtual 71, 3) := by decide +kernel
theorem dX8_cell_34 : decode cX8_cell 34 = .ok (.ifCond .eq 9, 3) := by decide +kernel
theorem dX8_cell_37 : decode cX8_cell 37 = .ok (.aload_n 0, 1) := by decide +kernel
theorem dX8_cell_38 : decode cX8_cell 38 = .ok (.iconst 2, 1) := by decide +kernel
theorem dX8_cell_39 : decode cX8_cell 39 = .ok (.invokevirtual 220, 3) := by decide +kernel
theorem dX8_cell_42 : decode cX8_cell 42 = .ok (.lreturn, 1) := by decide +kernel
theorem dX8_cell_43 : decode cX8_cell 43 = .ok (.aload 4, 2) := by decide +kernel
theorem dX8_cell_45 : decode cX8_cell 45 = .ok (.invokevirtual 77, 3) := by decide +kernel
theorem dX8_cell_48 : decode cX8_cell 48 = .ok (.ifCond .eq 9, 3) := by decide +kernel
theorem dX8_cell_51 : decode cX8_cell 51 = .ok (.aload_n 0, 1) := by decide +kernel
theorem dX8_cell_52 : decode cX8_cell 52 = .ok (.iconst 1, 1) := by decide +kernel
theorem dX8_cell_53 : decode cX8_cell 53 = .ok (.invokevirtual 220, 3) := by decide +kernel
theorem dX8_cell_56 : decode cX8_cell 56 = .ok (.lreturn, 1) := by decide +kernel
theorem dX8_cell_57 : decode cX8_cell 57 = .ok (.aload 4, 2) := by decide +kernel
theorem dX8_cell_59 : decode cX8_cell 59 = .ok (.iload_n 2, 1) := by decide +kernel
theorem dX8_cell_60 : decode cX8_cell 60 = .ok (.iconst 1, 1) := by decide +kernel
theorem dX8_cell_61 : decode cX8_cell 61 = .ok (.invokevirtual 81, 3) := by decide +kernel
theorem dX8_cell_64 : decode cX8_cell 64 = .ok (.ifCond .ne 9, 3) := by decide +kernel
theorem dX8_cell_67 : decode cX8_cell 67 = .ok (.aload_n 0, 1) := by decide +kernel
theorem dX8_cell_68 : decode cX8_cell 68 = .ok (.iconst 3, 1) := by decide +kernel
theorem dX8_cell_69 : decode cX8_cell 69 = .ok (.invokevirtual 220, 3) := by decide +kernel
theorem dX8_cell_72 : decode cX8_cell 72 = .ok (.lreturn, 1) := by decide +kernel
theorem dX8_cell_73 : decode cX8_cell 73 = .ok (.aload_n 0, 1) := by decide +kernel
theorem dX8_cell_74 : decode cX8_cell 74 = .ok (.aload 4, 2) := by decide +kernel
theorem dX8_cell_76 : decode cX8_cell 76 = .ok (.iload_n 2, 1) := by decide +kernel
theorem dX8_cell_77 : decode cX8_cell 77 = .ok (.invokevirtual 224, 3) := by decide +kernel
theorem dX8_cell_80 : decode cX8_cell 80 = .ok (.invokevirtual 64, 3) := by decide +kernel
theorem dX8_cell_83 : decode cX8_cell 83 = .ok (.i2l, 1) := by decide +kernel
theorem dX8_cell_84 : decode cX8_cell 84 = .ok (.lreturn, 1) := by decide +kernel
set_option maxRecDepth 20000 in
theorem ggX8_copy_X8_isSheet : GoodIn wsX8_copy wsX8_isSheet := goodIn_r _ [9] (by decide +kernel) (by decide +kernel)
set_option maxRecDepth 20000 in
theorem gX8_copy_X8_isSheet : GoodIn wsX8_copy (va_wsS RX8 60 yX8_isSheet wsX8_isSheet) := goodIn_app (goodIn_of _ (by decide +kernel)) ggX8_copy_X8_isSheet
set_option maxRecDepth 20000 in
theorem ggX8_copy_X8_faultless : GoodIn wsX8_copy wsX8_faultless := goodIn_r _ [13, 14, 34, 35, 36, 37, 38, 39, 40, 41] (by decide +kernel) (by decide +kernel)
set_option maxRecDepth 20000 in
theorem gX8_copy_X8_faultless : GoodIn wsX8_copy (wsV RX8 64 RX8 yX8_faultless wsX8_faultless) := goodIn_app (goodIn_of _ (by decide +kernel)) ggX8_copy_X8_faultless
set_option maxRecDepth 20000 in
theorem ggX8_copy_X6_hasNothing : GoodIn wsX8_copy wsX6_hasNothing := goodIn_r _ [19, 20, 42, 43, 44] (by decide +kernel) (by decide +kernel)
set_option maxRecDepth 20000 in
theorem gX8_copy_X6_hasNothing : GoodIn wsX8_copy (wsV RX8 77 RX6 yX6_hasNothing wsX6_hasNothing) := goodIn_app (goodIn_of _ (by decide +kernel)) ggX8_copy_X6_hasNothing
set_option maxRecDepth 20000 in
theorem ggX8_copy_X8_faulted : GoodIn wsX8_copy wsX8_faulted := goodIn_r _ [24, 14, 34, 35, 36, 37, 38, 39, 40, 41] (by decide +kernel) (by decide +kernel)
set_option maxRecDepth 20000 in
theorem gX8_copy_X8_faulted : GoodIn wsX8_copy (wsV RX8 74 RX8 yX8_faulted wsX8_faulted) := goodIn_app (goodIn_of _ (by decide +kernel)) ggX8_copy_X8_faulted
set_option maxRecDepth 20000 in
theorem ggX8_copy_X6_isOfAnother : GoodIn wsX8_copy wsX6_isOfAnother := goodIn_r _ [28, 20, 42, 43, 44] (by decide +kernel) (by decide +kernel)
set_option maxRecDepth 20000 in
theorem gX8_copy_X6_isOfAnother : GoodIn wsX8_copy (wsV RX8 71 RX6 yX6_isOfAnother wsX6_isOfAnother) := goodIn_app (goodIn_of _ (by decide +kernel)) ggX8_copy_X6_isOfAnother
set_option maxRecDepth 20000 in
theorem ggX8_copy_X6_holds : GoodIn wsX8_copy wsX6_holds := goodIn_r _ [32, 33, 42, 43, 44] (by decide +kernel) (by decide +kernel)
set_option maxRecDepth 20000 in
theorem gX8_copy_X6_holds : GoodIn wsX8_copy (wsV RX8 81 RX6 yX6_holds wsX6_holds) := goodIn_app (goodIn_of _ (by decide +kernel)) ggX8_copy_X6_holds
theorem dX8_copy_0 : decode cX8_copy 0 = .ok (.iload_n 1, 1) := by decide +kernel
theorem dX8_copy_1 : decode cX8_copy 1 = .ok (.invokestatic 60, 3) := by decide +kernel
theorem dX8_copy_4 : decode cX8_copy 4 = .ok (.ifCond .eq 10, 3) := by decide +kernel
theorem dX8_copy_7 : decode cX8_copy 7 = .ok (.iload_n 3, 1) := by decide +kernel
theorem dX8_copy_8 : decode cX8_copy 8 = .ok (.invokestatic 60, 3) := by decide +kernel
theorem dX8_copy_11 : decode cX8_copy 11 = .ok (.ifCond .ne 9, 3) := by decide +kernel
theorem dX8_copy_14 : decode cX8_copy 14 = .ok (.aload_n 0, 1) := by decide +kernel
theorem dX8_copy_15 : decode cX8_copy 15 = .ok (.iconst (-1), 1) := by decide +kernel
theorem dX8_copy_16 : decode cX8_copy 16 = .ok (.invokevirtual 64, 3) := by decide +kernel
theorem dX8_copy_19 : decode cX8_copy 19 = .ok (.ireturn, 1) := by decide +kernel
theorem dX8_copy_20 : decode cX8_copy 20 = .ok (.aload_n 0, 1) := by decide +kernel
theorem dX8_copy_21 : decode cX8_copy 21 = .ok (.getfield 48, 3) := by decide +kernel
theorem dX8_copy_24 : decode cX8_copy 24 = .ok (.iload_n 1, 1) := by decide +kernel
theorem dX8_copy_25 : decode cX8_copy 25 = .ok (.aaload, 1) := by decide +kernel
theorem dX8_copy_26 : decode cX8_copy 26 = .ok (.astore 6, 2) := by decide +kernel
theorem dX8_copy_28 : decode cX8_copy 28 = .ok (.aload_n 0, 1) := by decide +kernel
theorem dX8_copy_29 : decode cX8_copy 29 = .ok (.getfield 48, 3) := by decide +kernel
theorem dX8_copy_32 : decode cX8_copy 32 = .ok (.iload_n 3, 1) := by decide +kernel
theorem dX8_copy_33 : decode cX8_copy 33 = .ok (.aaload, 1) := by decide +kernel
theorem dX8_copy_34 : decode cX8_copy 34 = .ok (.astore 7, 2) := by decide +kernel
theorem dX8_copy_36 : decode cX8_copy 36 = .ok (.aload 6, 2) := by decide +kernel
theorem dX8_copy_38 : decode cX8_copy 38 = .ok (.invokevirtual 77, 3) := by decide +kernel
theorem dX8_copy_41 : decode cX8_copy 41 = .ok (.ifCond .ne 11, 3) := by decide +kernel
theorem dX8_copy_44 : decode cX8_copy 44 = .ok (.aload 7, 2) := by decide +kernel
theorem dX8_copy_46 : decode cX8_copy 46 = .ok (.invokevirtual 77, 3) := by decide +kernel
theorem dX8_copy_49 : decode cX8_copy 49 = .ok (.ifCond .eq 9, 3) := by decide +kernel
theorem dX8_copy_52 : decode cX8_copy 52 = .ok (.aload_n 0, 1) := by decide +kernel
theorem dX8_copy_53 : decode cX8_copy 53 = .ok (.iconst 1, 1) := by decide +kernel
theorem dX8_copy_54 : decode cX8_copy 54 = .ok (.invokevirtual 74, 3) := by decide +kernel
theorem dX8_copy_57 : decode cX8_copy 57 = .ok (.ireturn, 1) := by decide +kernel
theorem dX8_copy_58 : decode cX8_copy 58 = .ok (.aload 7, 2) := by decide +kernel
theorem dX8_copy_60 : decode cX8_copy 60 = .ok (.aload 6, 2) := by decide +kernel
theorem dX8_copy_62 : decode cX8_copy 62 = .ok (.getfield 225, 3) := by decide +kernel
theorem dX8_copy_65 : decode cX8_copy 65 = .ok (.invokevirtual 71, 3) := by decide +kernel
theorem dX8_copy_68 : decode cX8_copy 68 = .ok (.ifCond .eq 9, 3) := by decide +kernel
theorem dX8_copy_71 : decode cX8_copy 71 = .ok (.aload_n 0, 1) := by decide +kernel
theorem dX8_copy_72 : decode cX8_copy 72 = .ok (.iconst 2, 1) := by decide +kernel
theorem dX8_copy_73 : decode cX8_copy 73 = .ok (.invokevirtual 74, 3) := by decide +kernel
theorem dX8_copy_76 : decode cX8_copy 76 = .ok (.ireturn, 1) := by decide +kernel
theorem dX8_copy_77 : decode cX8_copy 77 = .ok (.aload 6, 2) := by decide +kernel
theorem dX8_copy_79 : decode cX8_copy 79 = .ok (.iload_n 2, 1) := by decide +kernel
theorem dX8_copy_80 : decode cX8_copy 80 = .ok (.iload 5, 2) := by decide +kernel
theorem dX8_copy_82 : decode cX8_copy 82 = .ok (.invokevirtual 81, 3) := by decide +kernel
theorem dX8_copy_85 : decode cX8_copy 85 = .ok (.ifCond .eq 15, 3) := by decide +kernel
theorem dX8_copy_88 : decode cX8_copy 88 = .ok (.aload 7, 2) := by decide +kernel
theorem dX8_copy_90 : decode cX8_copy 90 = .ok (.iload 4, 2) := by decide +kernel
theorem dX8_copy_92 : decode cX8_copy 92 = .ok (.iload 5, 2) := by decide +kernel
theorem dX8_copy_94 : decode cX8_copy 94 = .ok (.invokevirtual 81, 3) := by decide +kernel
theorem dX8_copy_97 : decode cX8_copy 97 = .ok (.ifCond .ne 9, 3) := by decide +kernel
theorem dX8_copy_100 : decode cX8_copy 100 = .ok (.aload_n 0, 1) := by decide +kernel
theorem dX8_copy_101 : decode cX8_copy 101 = .ok (.iconst 3, 1) := by decide +kernel
theorem dX8_copy_102 : decode cX8_copy 102 = .ok (.invokevirtual 74, 3) := by decide +kernel
theorem dX8_copy_105 : decode cX8_copy 105 = .ok (.ireturn, 1) := by decide +kernel
theorem dX8_copy_106 : decode cX8_copy 106 = .ok (.aload 6, 2) := by decide +kernel
theorem dX8_copy_108 : decode cX8_copy 108 = .ok (.getfield 228, 3) := by decide +kernel
theorem dX8_copy_111 : decode cX8_copy 111 = .ok (.iload_n 2, 1) := by decide +kernel
theorem dX8_copy_112 : decode cX8_copy 112 = .ok (.aload 7, 2) := by decide +kernel
theorem dX8_copy_114 : decode cX8_copy 114 = .ok (.getfield 228, 3) := by decide +kernel
theorem dX8_copy_117 : decode cX8_copy 117 = .ok (.iload 4, 2) := by decide +kernel
theorem dX8_copy_119 : decode cX8_copy 119 = .ok (.iload 5, 2) := by decide +kernel
theorem dX8_copy_121 : decode cX8_copy 121 = .ok (.invokestatic 231, 3) := by decide +kernel
theorem dX8_copy_124 : decode cX8_copy 124 = .ok (.aload_n 0, 1) := by decide +kernel
theorem dX8_copy_125 : decode cX8_copy 125 = .ok (.iload 5, 2) := by decide +kernel
theorem dX8_copy_127 : decode cX8_copy 127 = .ok (.invokevirtual 64, 3) := by decide +kernel
theorem dX8_copy_130 : decode cX8_copy 130 = .ok (.ireturn, 1) := by decide +kernel
set_option maxRecDepth 20000 in
theorem ggX8_tell_X3_has : GoodIn wsX8_tell wsX3_has := goodIn_r _ [7, 8, 36, 37, 38, 39, 40, 41, 42] (by decide +kernel) (by decide +kernel)
set_option maxRecDepth 20000 in
theorem gX8_tell_X3_has : GoodIn wsX8_tell (wsV RX8 99 RX3 yX3_has wsX3_has) := goodIn_app (goodIn_of _ (by decide +kernel)) ggX8_tell_X3_has
set_option maxRecDepth 20000 in
theorem ggX8_tell_X8_cousinTells : GoodIn wsX8_tell wsX8_cousinTells := goodIn_r _ [13, 14, 15, 16, 12, 17, 18, 19, 20, 21, 22, 23, 24, 25, 26, 1, 27, 28, 29, 30, 31, 32, 33, 34, 35, 36, 37, 38, 39, 40, 41, 42] (by decide +kernel) (by decide +kernel)
set_option maxRecDepth 20000 in
theorem gX8_tell_X8_cousinTells : GoodIn wsX8_tell (wsV RX8 237 RX8 yX8_cousinTells wsX8_cousinTells) := goodIn_app (goodIn_of _ (by decide +kernel)) ggX8_tell_X8_cousinTells
set_option maxRecDepth 20000 in
theorem ggX8_tell_X8_motherTells : GoodIn wsX8_tell wsX8_motherTells := goodIn_r _ [22, 14, 15, 16, 12, 17, 18, 23, 24, 25, 26, 1, 27, 28, 29, 30, 31, 32, 33, 34, 35, 36, 37, 38, 39, 40, 41, 42] (by decide +kernel) (by decide +kernel)
set_option maxRecDepth 20000 in
theorem gX8_tell_X8_motherTells : GoodIn wsX8_tell (wsV RX8 240 RX8 yX8_motherTells wsX8_motherTells) := goodIn_app (goodIn_of _ (by decide +kernel)) ggX8_tell_X8_motherTells
set_option maxRecDepth 20000 in
theorem ggX8_tell_X8_personTells : GoodIn wsX8_tell wsX8_personTells := goodIn_r _ [26, 1, 27, 14, 15, 16, 12, 17, 18, 28, 29, 30, 31, 32, 33, 34, 35, 36, 37, 38, 39, 40, 41, 42] (by decide +kernel) (by decide +kernel)
set_option maxRecDepth 20000 in
theorem gX8_tell_X8_personTells : GoodIn wsX8_tell (wsV RX8 243 RX8 yX8_personTells wsX8_personTells) := goodIn_app (goodIn_of _ (by decide +kernel)) ggX8_tell_X8_personTells
theorem dX8_tell_0 : decode cX8_tell 0 = .ok (.aload_n 0, 1) := by decide +kernel
theorem dX8_tell_1 : decode cX8_tell 1 = .ok (.getfield 12, 3) := by decide +kernel
theorem dX8_tell_4 : decode cX8_tell 4 = .ok (.iload_n 1, 1) := by decide +kernel
theorem dX8_tell_5 : decode cX8_tell 5 = .ok (.invokevirtual 99, 3) := by decide +kernel
theorem dX8_tell_8 : decode cX8_tell 8 = .ok (.ifCond .ne 5, 3) := by decide +kernel
theorem dX8_tell_11 : decode cX8_tell 11 = .ok (.iconst (-1), 1) := by decide +kernel
theorem dX8_tell_12 : decode cX8_tell 12 = .ok (.ireturn, 1) := by decide +kernel
theorem dX8_tell_13 : decode cX8_tell 13 = .ok (.aload_n 0, 1) := by decide +kernel
theorem dX8_tell_14 : decode cX8_tell 14 = .ok (.getfield 12, 3) := by decide +kernel
theorem dX8_tell_17 : decode cX8_tell 17 = .ok (.getfield 102, 3) := by decide +kernel
theorem dX8_tell_20 : decode cX8_tell 20 = .ok (.iload_n 1, 1) := by decide +kernel
theorem dX8_tell_21 : decode cX8_tell 21 = .ok (.iaload, 1) := by decide +kernel
theorem dX8_tell_22 : decode cX8_tell 22 = .ok (.lookupswitch 38 #[(1, 32), (2, 26)], 26) := by decide +kernel
theorem dX8_tell_48 : decode cX8_tell 48 = .ok (.aload_n 0, 1) := by decide +kernel
theorem dX8_tell_49 : decode cX8_tell 49 = .ok (.iload_n 1, 1) := by decide +kernel
theorem dX8_tell_50 : decode cX8_tell 50 = .ok (.invokevirtual 237, 3) := by decide +kernel
theorem dX8_tell_53 : decode cX8_tell 53 = .ok (.ireturn, 1) := by decide +kernel
theorem dX8_tell_54 : decode cX8_tell 54 = .ok (.aload_n 0, 1) := by decide +kernel
theorem dX8_tell_55 : decode cX8_tell 55 = .ok (.iload_n 1, 1) := by decide +kernel
theorem dX8_tell_56 : decode cX8_tell 56 = .ok (.invokevirtual 240, 3) := by decide +kernel
theorem dX8_tell_59 : decode cX8_tell 59 = .ok (.ireturn, 1) := by decide +kernel
theorem dX8_tell_60 : decode cX8_tell 60 = .ok (.aload_n 0, 1) := by decide +kernel
theorem dX8_tell_61 : decode cX8_tell 61 = .ok (.iload_n 1, 1) := by decide +kernel
theorem dX8_tell_62 : decode cX8_tell 62 = .ok (.invokevirtual 243, 3) := by decide +kernel
theorem dX8_tell_65 : decode cX8_tell 65 = .ok (.ireturn, 1) := by decide +kernel
set_option maxRecDepth 20000 in
theorem ggX8_greet_X3_has : GoodIn wsX8_greet wsX3_has := goodIn_r _ [7, 8, 23, 24, 25, 26, 27, 28, 29] (by decide +kernel) (by decide +kernel)
set_option maxRecDepth 20000 in
theorem gX8_greet_X3_has : GoodIn wsX8_greet (wsV RX8 99 RX3 yX3_has wsX3_has) := goodIn_app (goodIn_of _ (by decide +kernel)) ggX8_greet_X3_has
set_option maxRecDepth 20000 in
theorem ggX8_greet_X8_leave : GoodIn wsX8_greet wsX8_leave := goodIn_r _ [13, 14, 15, 16, 17, 18, 19, 20, 21, 22] (by decide +kernel) (by decide +kernel)
set_option maxRecDepth 20000 in
theorem gX8_greet_X8_leave : GoodIn wsX8_greet (wsV RX8 246 RX8 yX8_leave wsX8_leave) := goodIn_app (goodIn_of _ (by decide +kernel)) ggX8_greet_X8_leave
theorem dX8_greet_0 : decode cX8_greet 0 = .ok (.aload_n 0, 1) := by decide +kernel
theorem dX8_greet_1 : decode cX8_greet 1 = .ok (.getfield 12, 3) := by decide +kernel
theorem dX8_greet_4 : decode cX8_greet 4 = .ok (.iload_n 1, 1) := by decide +kernel
theorem dX8_greet_5 : decode cX8_greet 5 = .ok (.invokevirtual 99, 3) := by decide +kernel
theorem dX8_greet_8 : decode cX8_greet 8 = .ok (.ifCond .ne 5, 3) := by decide +kernel
theorem dX8_greet_11 : decode cX8_greet 11 = .ok (.iconst (-1), 1) := by decide +kernel
theorem dX8_greet_12 : decode cX8_greet 12 = .ok (.ireturn, 1) := by decide +kernel
theorem dX8_greet_13 : decode cX8_greet 13 = .ok (.aload_n 0, 1) := by decide +kernel
theorem dX8_greet_14 : decode cX8_greet 14 = .ok (.getfield 12, 3) := by decide +kernel
theorem dX8_greet_17 : decode cX8_greet 17 = .ok (.getfield 102, 3) := by decide +kernel
theorem dX8_greet_20 : decode cX8_greet 20 = .ok (.iload_n 1, 1) := by decide +kernel
theorem dX8_greet_21 : decode cX8_greet 21 = .ok (.iaload, 1) := by decide +kernel
theorem dX8_greet_22 : decode cX8_greet 22 = .ok (.iconst 2, 1) := by decide +kernel
theorem dX8_greet_23 : decode cX8_greet 23 = .ok (.if_icmp .ne 7, 3) := by decide +kernel
theorem dX8_greet_26 : decode cX8_greet 26 = .ok (.iconst 1, 1) := by decide +kernel
theorem dX8_greet_27 : decode cX8_greet 27 = .ok (.goto 4, 3) := by decide +kernel
theorem dX8_greet_30 : decode cX8_greet 30 = .ok (.iconst 0, 1) := by decide +kernel
theorem dX8_greet_31 : decode cX8_greet 31 = .ok (.istore_n 2, 1) := by decide +kernel
theorem dX8_greet_32 : decode cX8_greet 32 = .ok (.aload_n 0, 1) := by decide +kernel
theorem dX8_greet_33 : decode cX8_greet 33 = .ok (.iload_n 2, 1) := by decide +kernel
theorem dX8_greet_34 : decode cX8_greet 34 = .ok (.ifCond .eq 7, 3) := by decide +kernel
theorem dX8_greet_37 : decode cX8_greet 37 = .ok (.iconst 5, 1) := by decide +kernel
theorem dX8_greet_38 : decode cX8_greet 38 = .ok (.goto 4, 3) := by decide +kernel
theorem dX8_greet_41 : decode cX8_greet 41 = .ok (.iconst 4, 1) := by decide +kernel
theorem dX8_greet_42 : decode cX8_greet 42 = .ok (.invokevirtual 246, 3) := by decide +kernel
theorem dX8_greet_45 : decode cX8_greet 45 = .ok (.iload_n 2, 1) := by decide +kernel
theorem dX8_greet_46 : decode cX8_greet 46 = .ok (.ifCond .eq 8, 3) := by decide +kernel
theorem dX8_greet_49 : decode cX8_greet 49 = .ok (.bipush 90, 2) := by decide +kernel
theorem dX8_greet_51 : decode cX8_greet 51 = .ok (.goto 4, 3) := by decide +kernel
theorem dX8_greet_54 : decode cX8_greet 54 = .ok (.iload_n 1, 1) := by decide +kernel
theorem dX8_greet_55 : decode cX8_greet 55 = .ok (.ireturn, 1) := by decide +kernel
set_option maxRecDepth 20000 in
theorem ggX8_as_X3_has : GoodIn wsX8_as wsX3_has := goodIn_r _ [7, 8, 27, 28, 29, 30, 31, 32, 33] (by decide +kernel) (by decide +kernel)
set_option maxRecDepth 20000 in
theorem gX8_as_X3_has : GoodIn wsX8_as (wsV RX8 99 RX3 yX3_has wsX3_has) := goodIn_app (goodIn_of _ (by decide +kernel)) ggX8_as_X3_has
set_option maxRecDepth 20000 in
theorem ggX8_as_X8_faultless : GoodIn wsX8_as wsX8_faultless := goodIn_r _ [13, 14, 19, 20, 21, 22, 23, 24, 25, 26] (by decide +kernel) (by decide +kernel)
set_option maxRecDepth 20000 in
theorem gX8_as_X8_faultless : GoodIn wsX8_as (wsV RX8 64 RX8 yX8_faultless wsX8_faultless) := goodIn_app (goodIn_of _ (by decide +kernel)) ggX8_as_X8_faultless
set_option maxRecDepth 20000 in
theorem ggX8_as_X8_faulted : GoodIn wsX8_as wsX8_faulted := goodIn_r _ [18, 14, 19, 20, 21, 22, 23, 24, 25, 26] (by decide +kernel) (by decide +kernel)
set_option maxRecDepth 20000 in
theorem gX8_as_X8_faulted : GoodIn wsX8_as (wsV RX8 74 RX8 yX8_faulted wsX8_faulted) := goodIn_app (goodIn_of _ (by decide +kernel)) ggX8_as_X8_faulted
theorem dX8_as_0 : decode cX8_as 0 = .ok (.aload_n 0, 1) := by decide +kernel
theorem dX8_as_1 : decode cX8_as 1 = .ok (.getfield 12, 3) := by decide +kernel
theorem dX8_as_4 : decode cX8_as 4 = .ok (.iload_n 1, 1) := by decide +kernel
theorem dX8_as_5 : decode cX8_as 5 = .ok (.invokevirtual 99, 3) := by decide +kernel
theorem dX8_as_8 : decode cX8_as 8 = .ok (.ifCond .ne 9, 3) := by decide +kernel
theorem dX8_as_11 : decode cX8_as 11 = .ok (.aload_n 0, 1) := by decide +kernel
theorem dX8_as_12 : decode cX8_as 12 = .ok (.iconst (-1), 1) := by decide +kernel
theorem dX8_as_13 : decode cX8_as 13 = .ok (.invokevirtual 64, 3) := by decide +kernel
theorem dX8_as_16 : decode cX8_as 16 = .ok (.ireturn, 1) := by decide +kernel
theorem dX8_as_17 : decode cX8_as 17 = .ok (.iload_n 2, 1) := by decide +kernel
theorem dX8_as_18 : decode cX8_as 18 = .ok (.ifCond .lt 8, 3) := by decide +kernel
theorem dX8_as_21 : decode cX8_as 21 = .ok (.iload_n 2, 1) := by decide +kernel
theorem dX8_as_22 : decode cX8_as 22 = .ok (.iconst 2, 1) := by decide +kernel
theorem dX8_as_23 : decode cX8_as 23 = .ok (.if_icmp .le 10, 3) := by decide +kernel
theorem dX8_as_26 : decode cX8_as 26 = .ok (.aload_n 0, 1) := by decide +kernel
theorem dX8_as_27 : decode cX8_as 27 = .ok (.bipush (-2), 2) := by decide +kernel
theorem dX8_as_29 : decode cX8_as 29 = .ok (.invokevirtual 64, 3) := by decide +kernel
theorem dX8_as_32 : decode cX8_as 32 = .ok (.ireturn, 1) := by decide +kernel
theorem dX8_as_33 : decode cX8_as 33 = .ok (.aload_n 0, 1) := by decide +kernel
theorem dX8_as_34 : decode cX8_as 34 = .ok (.getfield 12, 3) := by decide +kernel
theorem dX8_as_37 : decode cX8_as 37 = .ok (.getfield 102, 3) := by decide +kernel
theorem dX8_as_40 : decode cX8_as 40 = .ok (.iload_n 1, 1) := by decide +kernel
theorem dX8_as_41 : decode cX8_as 41 = .ok (.iaload, 1) := by decide +kernel
theorem dX8_as_42 : decode cX8_as 42 = .ok (.iload_n 2, 1) := by decide +kernel
theorem dX8_as_43 : decode cX8_as 43 = .ok (.if_icmp .ge 11, 3) := by decide +kernel
theorem dX8_as_46 : decode cX8_as 46 = .ok (.aload_n 0, 1) := by decide +kernel
theorem dX8_as_47 : decode cX8_as 47 = .ok (.iconst 2, 1) := by decide +kernel
theorem dX8_as_48 : decode cX8_as 48 = .ok (.invokevirtual 74, 3) := by decide +kernel
theorem dX8_as_51 : decode cX8_as 51 = .ok (.goto 8, 3) := by decide +kernel
