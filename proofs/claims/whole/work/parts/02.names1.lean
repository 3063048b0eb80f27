set_option maxRecDepth 20000 in
theorem ggX0_init_X1_init : GoodIn wsX0_init wsX1_init := goodIn_r _ [16, 17, 2, 3, 18, 19, 20, 21, 22, 23, 24, 25, 26, 27, 28, 29, 30, 31, 32, 61, 62, 43, 44, 45, 46, 47, 48] (by decide +kernel) (by decide +kernel)
set_option maxRecDepth 20000 in
theorem gX0_init_X1_init_n11 : GoodIn wsX0_init (wsX1_init) := ggX0_init_X1_init
set_option maxRecDepth 20000 in
theorem ggX0_init_X3_init : GoodIn wsX0_init wsX3_init := goodIn_r _ [34, 35, 2, 3, 36, 37, 38, 22, 39, 40, 41, 42, 54, 55, 56, 57, 58, 59, 60] (by decide +kernel) (by decide +kernel)
set_option maxRecDepth 20000 in
theorem gX0_init_X3_init_n20 : GoodIn wsX0_init (wsX3_init) := ggX0_init_X3_init
theorem dX0_init_0 : decode cX0_init 0 = .ok (.aload_n 0, 1) := by decide +kernel
theorem dX0_init_1 : decode cX0_init 1 = .ok (.invokespecial 3, 3) := by decide +kernel
theorem dX0_init_4 : decode cX0_init 4 = .ok (.aload_n 0, 1) := by decide +kernel
theorem dX0_init_5 : decode cX0_init 5 = .ok (.new 9, 3) := by decide +kernel
theorem dX0_init_8 : decode cX0_init 8 = .ok (.dup, 1) := by decide +kernel
theorem dX0_init_9 : decode cX0_init 9 = .ok (.invokespecial 11, 3) := by decide +kernel
theorem dX0_init_12 : decode cX0_init 12 = .ok (.putfield 12, 3) := by decide +kernel
theorem dX0_init_15 : decode cX0_init 15 = .ok (.aload_n 0, 1) := by decide +kernel
theorem dX0_init_16 : decode cX0_init 16 = .ok (.new 18, 3) := by decide +kernel
theorem dX0_init_19 : decode cX0_init 19 = .ok (.dup, 1) := by decide +kernel
theorem dX0_init_20 : decode cX0_init 20 = .ok (.invokespecial 20, 3) := by decide +kernel
theorem dX0_init_23 : decode cX0_init 23 = .ok (.putfield 21, 3) := by decide +kernel
theorem dX0_init_26 : decode cX0_init 26 = .ok (.aload_n 0, 1) := by decide +kernel
theorem dX0_init_27 : decode cX0_init 27 = .ok (.bipush (-9), 2) := by decide +kernel
theorem dX0_init_29 : decode cX0_init 29 = .ok (.putfield 25, 3) := by decide +kernel
theorem dX0_init_32 : decode cX0_init 32 = .ok (.aload_n 0, 1) := by decide +kernel
theorem dX0_init_33 : decode cX0_init 33 = .ok (.iconst 0, 1) := by decide +kernel
theorem dX0_init_34 : decode cX0_init 34 = .ok (.putfield 29, 3) := by decide +kernel
theorem dX0_init_37 : decode cX0_init 37 = .ok (.aload_n 0, 1) := by decide +kernel
theorem dX0_init_38 : decode cX0_init 38 = .ok (.iconst 0, 1) := by decide +kernel
theorem dX0_init_39 : decode cX0_init 39 = .ok (.putfield 32, 3) := by decide +kernel
theorem dX0_init_42 : decode cX0_init 42 = .ok (.return_, 1) := by decide +kernel
set_option maxRecDepth 20000 in
theorem ggX0_findBest_X3_takeFrom : GoodIn wsX0_findBest wsX3_takeFrom := goodIn_r _ [10, 11, 12, 13, 14, 15, 16, 17, 106, 107, 108, 109, 110, 111, 112] (by decide +kernel) (by decide +kernel)
set_option maxRecDepth 20000 in
theorem gX0_findBest_X3_takeFrom : GoodIn wsX0_findBest (wsV RX0 35 RX3 yX3_takeFrom wsX3_takeFrom) := goodIn_app (goodIn_of _ (by decide +kernel)) ggX0_findBest_X3_takeFrom
set_option maxRecDepth 20000 in
theorem ggX0_findBest_X1_servedOf : GoodIn wsX0_findBest wsX1_servedOf := goodIn_r _ [22, 23, 24, 25, 26, 9, 27, 12, 28, 29, 30, 21, 31, 32, 33, 34, 35, 36, 37, 38, 39, 40, 41, 42, 43, 44, 45, 46, 47, 48, 49, 50, 51, 52, 53, 54, 55, 56, 57, 58, 59, 60, 61, 62, 63, 64, 65, 66, 67, 68, 69, 70, 71, 72, 73, 74, 75, 76, 77, 78, 79, 80, 81, 82, 83, 84, 85, 86, 87, 88, 89, 90, 91, 92, 93, 94, 95, 96, 97, 98, 99, 100, 113, 114, 115, 116, 117, 118, 106, 107, 108, 109, 110, 111, 112, 119, 120] (by decide +kernel) (by decide +kernel)
set_option maxRecDepth 20000 in
theorem gX0_findBest_X1_servedOf : GoodIn wsX0_findBest (wsV RX0 43 RX1 yX1_servedOf wsX1_servedOf) := goodIn_app (goodIn_of _ (by decide +kernel)) ggX0_findBest_X1_servedOf
theorem dX0_findBest_0 : decode cX0_findBest 0 = .ok (.aload_n 0, 1) := by decide +kernel
theorem dX0_findBest_1 : decode cX0_findBest 1 = .ok (.getfield 21, 3) := by decide +kernel
theorem dX0_findBest_4 : decode cX0_findBest 4 = .ok (.aload_n 1, 1) := by decide +kernel
theorem dX0_findBest_5 : decode cX0_findBest 5 = .ok (.invokevirtual 35, 3) := by decide +kernel
theorem dX0_findBest_8 : decode cX0_findBest 8 = .ok (.aload_n 0, 1) := by decide +kernel
theorem dX0_findBest_9 : decode cX0_findBest 9 = .ok (.bipush (-9), 2) := by decide +kernel
theorem dX0_findBest_11 : decode cX0_findBest 11 = .ok (.putfield 25, 3) := by decide +kernel
theorem dX0_findBest_14 : decode cX0_findBest 14 = .ok (.aload_n 0, 1) := by decide +kernel
theorem dX0_findBest_15 : decode cX0_findBest 15 = .ok (.sipush 199, 3) := by decide +kernel
theorem dX0_findBest_18 : decode cX0_findBest 18 = .ok (.putfield 29, 3) := by decide +kernel
theorem dX0_findBest_21 : decode cX0_findBest 21 = .ok (.iconst 0, 1) := by decide +kernel
theorem dX0_findBest_22 : decode cX0_findBest 22 = .ok (.istore_n 3, 1) := by decide +kernel
theorem dX0_findBest_23 : decode cX0_findBest 23 = .ok (.iload_n 3, 1) := by decide +kernel
theorem dX0_findBest_24 : decode cX0_findBest 24 = .ok (.bipush 60, 2) := by decide +kernel
theorem dX0_findBest_26 : decode cX0_findBest 26 = .ok (.if_icmp .ge 64, 3) := by decide +kernel
theorem dX0_findBest_29 : decode cX0_findBest 29 = .ok (.iload_n 3, 1) := by decide +kernel
theorem dX0_findBest_30 : decode cX0_findBest 30 = .ok (.aload_n 0, 1) := by decide +kernel
theorem dX0_findBest_31 : decode cX0_findBest 31 = .ok (.getfield 29, 3) := by decide +kernel
theorem dX0_findBest_34 : decode cX0_findBest 34 = .ok (.if_icmp .gt 56, 3) := by decide +kernel
theorem dX0_findBest_37 : decode cX0_findBest 37 = .ok (.aload_n 0, 1) := by decide +kernel
theorem dX0_findBest_38 : decode cX0_findBest 38 = .ok (.getfield 21, 3) := by decide +kernel
theorem dX0_findBest_41 : decode cX0_findBest 41 = .ok (.getfield 39, 3) := by decide +kernel
theorem dX0_findBest_44 : decode cX0_findBest 44 = .ok (.iload_n 2, 1) := by decide +kernel
theorem dX0_findBest_45 : decode cX0_findBest 45 = .ok (.iload_n 3, 1) := by decide +kernel
theorem dX0_findBest_46 : decode cX0_findBest 46 = .ok (.iastore, 1) := by decide +kernel
theorem dX0_findBest_47 : decode cX0_findBest 47 = .ok (.aload_n 0, 1) := by decide +kernel
theorem dX0_findBest_48 : decode cX0_findBest 48 = .ok (.getfield 12, 3) := by decide +kernel
theorem dX0_findBest_51 : decode cX0_findBest 51 = .ok (.aload_n 0, 1) := by decide +kernel
theorem dX0_findBest_52 : decode cX0_findBest 52 = .ok (.getfield 21, 3) := by decide +kernel
theorem dX0_findBest_55 : decode cX0_findBest 55 = .ok (.iload_n 2, 1) := by decide +kernel
theorem dX0_findBest_56 : decode cX0_findBest 56 = .ok (.invokevirtual 43, 3) := by decide +kernel
theorem dX0_findBest_59 : decode cX0_findBest 59 = .ok (.istore 4, 2) := by decide +kernel
theorem dX0_findBest_61 : decode cX0_findBest 61 = .ok (.iload 4, 2) := by decide +kernel
theorem dX0_findBest_63 : decode cX0_findBest 63 = .ok (.aload_n 0, 1) := by decide +kernel
theorem dX0_findBest_64 : decode cX0_findBest 64 = .ok (.getfield 29, 3) := by decide +kernel
theorem dX0_findBest_67 : decode cX0_findBest 67 = .ok (.if_icmp .le 6, 3) := by decide +kernel
theorem dX0_findBest_70 : decode cX0_findBest 70 = .ok (.goto 14, 3) := by decide +kernel
theorem dX0_findBest_73 : decode cX0_findBest 73 = .ok (.aload_n 0, 1) := by decide +kernel
theorem dX0_findBest_74 : decode cX0_findBest 74 = .ok (.iload_n 3, 1) := by decide +kernel
theorem dX0_findBest_75 : decode cX0_findBest 75 = .ok (.putfield 25, 3) := by decide +kernel
theorem dX0_findBest_78 : decode cX0_findBest 78 = .ok (.aload_n 0, 1) := by decide +kernel
theorem dX0_findBest_79 : decode cX0_findBest 79 = .ok (.iload 4, 2) := by decide +kernel
theorem dX0_findBest_81 : decode cX0_findBest 81 = .ok (.putfield 29, 3) := by decide +kernel
theorem dX0_findBest_84 : decode cX0_findBest 84 = .ok (.iinc 3 1, 3) := by decide +kernel
theorem dX0_findBest_87 : decode cX0_findBest 87 = .ok (.goto (-64), 3) := by decide +kernel
theorem dX0_findBest_90 : decode cX0_findBest 90 = .ok (.return_, 1) := by decide +kernel
set_option maxRecDepth 20000 in
theorem ggX0_findCalm_X3_takeFrom : GoodIn wsX0_findCalm wsX3_takeFrom := goodIn_r _ [8, 9, 10, 11, 12, 13, 14, 15, 111, 112, 113, 114, 115, 116, 117] (by decide +kernel) (by decide +kernel)
set_option maxRecDepth 20000 in
theorem gX0_findCalm_X3_takeFrom : GoodIn wsX0_findCalm (wsV RX0 35 RX3 yX3_takeFrom wsX3_takeFrom) := goodIn_app (goodIn_of _ (by decide +kernel)) ggX0_findCalm_X3_takeFrom
set_option maxRecDepth 20000 in
theorem ggX0_findCalm_X0_comesOtherwise : GoodIn wsX0_findCalm wsX0_comesOtherwise := goodIn_r _ [20, 1, 21, 22, 23, 24, 25, 26, 27, 28, 29, 30, 31, 7, 32, 10, 33, 34, 35, 36, 37, 38, 39, 40, 41, 42, 43, 44, 45, 46, 47, 48, 49, 50, 51, 52, 53, 54, 55, 56, 57, 58, 59, 60, 61, 62, 63, 64, 65, 66, 67, 68, 69, 70, 71, 72, 73, 74, 75, 76, 77, 78, 79, 80, 81, 82, 83, 84, 85, 86, 87, 88, 89, 90, 91, 92, 93, 94, 95, 96, 97, 98, 99, 100, 101, 102, 103, 104, 105, 106, 107, 108, 109, 110, 111, 112, 113, 114, 115, 116, 117, 118, 119, 120, 121, 122, 123, 124, 125] (by decide +kernel) (by decide +kernel)
set_option maxRecDepth 20000 in
theorem gX0_findCalm_X0_comesOtherwise : GoodIn wsX0_findCalm (wsV RX0 50 RX0 yX0_comesOtherwise wsX0_comesOtherwise) := goodIn_app (goodIn_of _ (by decide +kernel)) ggX0_findCalm_X0_comesOtherwise
theorem dX0_findCalm_0 : decode cX0_findCalm 0 = .ok (.aload_n 0, 1) := by decide +kernel
theorem dX0_findCalm_1 : decode cX0_findCalm 1 = .ok (.getfield 21, 3) := by decide +kernel
theorem dX0_findCalm_4 : decode cX0_findCalm 4 = .ok (.aload_n 1, 1) := by decide +kernel
theorem dX0_findCalm_5 : decode cX0_findCalm 5 = .ok (.invokevirtual 35, 3) := by decide +kernel
theorem dX0_findCalm_8 : decode cX0_findCalm 8 = .ok (.aload_n 0, 1) := by decide +kernel
theorem dX0_findCalm_9 : decode cX0_findCalm 9 = .ok (.bipush (-9), 2) := by decide +kernel
theorem dX0_findCalm_11 : decode cX0_findCalm 11 = .ok (.putfield 32, 3) := by decide +kernel
theorem dX0_findCalm_14 : decode cX0_findCalm 14 = .ok (.iconst 0, 1) := by decide +kernel
theorem dX0_findCalm_15 : decode cX0_findCalm 15 = .ok (.istore_n 2, 1) := by decide +kernel
theorem dX0_findCalm_16 : decode cX0_findCalm 16 = .ok (.iload_n 2, 1) := by decide +kernel
theorem dX0_findCalm_17 : decode cX0_findCalm 17 = .ok (.bipush 40, 2) := by decide +kernel
theorem dX0_findCalm_19 : decode cX0_findCalm 19 = .ok (.if_icmp .ge 61, 3) := by decide +kernel
theorem dX0_findCalm_22 : decode cX0_findCalm 22 = .ok (.aload_n 0, 1) := by decide +kernel
theorem dX0_findCalm_23 : decode cX0_findCalm 23 = .ok (.getfield 32, 3) := by decide +kernel
theorem dX0_findCalm_26 : decode cX0_findCalm 26 = .ok (.bipush (-9), 2) := by decide +kernel
theorem dX0_findCalm_28 : decode cX0_findCalm 28 = .ok (.if_icmp .ne 52, 3) := by decide +kernel
theorem dX0_findCalm_31 : decode cX0_findCalm 31 = .ok (.iconst 0, 1) := by decide +kernel
theorem dX0_findCalm_32 : decode cX0_findCalm 32 = .ok (.istore_n 3, 1) := by decide +kernel
theorem dX0_findCalm_33 : decode cX0_findCalm 33 = .ok (.iconst 0, 1) := by decide +kernel
theorem dX0_findCalm_34 : decode cX0_findCalm 34 = .ok (.istore 4, 2) := by decide +kernel
theorem dX0_findCalm_36 : decode cX0_findCalm 36 = .ok (.iload 4, 2) := by decide +kernel
theorem dX0_findCalm_38 : decode cX0_findCalm 38 = .ok (.aload_n 0, 1) := by decide +kernel
theorem dX0_findCalm_39 : decode cX0_findCalm 39 = .ok (.getfield 21, 3) := by decide +kernel
theorem dX0_findCalm_42 : decode cX0_findCalm 42 = .ok (.getfield 47, 3) := by decide +kernel
theorem dX0_findCalm_45 : decode cX0_findCalm 45 = .ok (.if_icmp .ge 20, 3) := by decide +kernel
theorem dX0_findCalm_48 : decode cX0_findCalm 48 = .ok (.aload_n 0, 1) := by decide +kernel
theorem dX0_findCalm_49 : decode cX0_findCalm 49 = .ok (.iload 4, 2) := by decide +kernel
theorem dX0_findCalm_51 : decode cX0_findCalm 51 = .ok (.invokevirtual 50, 3) := by decide +kernel
theorem dX0_findCalm_54 : decode cX0_findCalm 54 = .ok (.ifCond .eq 5, 3) := by decide +kernel
theorem dX0_findCalm_57 : decode cX0_findCalm 57 = .ok (.iconst 1, 1) := by decide +kernel
theorem dX0_findCalm_58 : decode cX0_findCalm 58 = .ok (.istore_n 3, 1) := by decide +kernel
theorem dX0_findCalm_59 : decode cX0_findCalm 59 = .ok (.iinc 4 1, 3) := by decide +kernel
theorem dX0_findCalm_62 : decode cX0_findCalm 62 = .ok (.goto (-26), 3) := by decide +kernel
theorem dX0_findCalm_65 : decode cX0_findCalm 65 = .ok (.iload_n 3, 1) := by decide +kernel
theorem dX0_findCalm_66 : decode cX0_findCalm 66 = .ok (.ifCond .ne 8, 3) := by decide +kernel
theorem dX0_findCalm_69 : decode cX0_findCalm 69 = .ok (.aload_n 0, 1) := by decide +kernel
theorem dX0_findCalm_70 : decode cX0_findCalm 70 = .ok (.iload_n 2, 1) := by decide +kernel
theorem dX0_findCalm_71 : decode cX0_findCalm 71 = .ok (.putfield 32, 3) := by decide +kernel
theorem dX0_findCalm_74 : decode cX0_findCalm 74 = .ok (.iinc 2 1, 3) := by decide +kernel
theorem dX0_findCalm_77 : decode cX0_findCalm 77 = .ok (.goto (-61), 3) := by decide +kernel
theorem dX0_findCalm_80 : decode cX0_findCalm 80 = .ok (.return_, 1) := by decide +kernel
set_option maxRecDepth 20000 in
theorem ggX0_comesOtherwise_X1_servedOf : GoodIn wsX0_comesOtherwise wsX1_servedOf := goodIn_r _ [8, 9, 10, 11, 12, 13, 14, 15, 16, 17, 18, 7, 19, 20, 21, 22, 23, 24, 25, 26, 27, 28, 29, 30, 31, 32, 33, 34, 35, 36, 37, 38, 39, 40, 41, 42, 43, 44, 45, 46, 47, 48, 49, 50, 51, 52, 53, 54, 55, 56, 57, 58, 59, 60, 61, 62, 63, 64, 65, 66, 67, 68, 69, 70, 71, 72, 73, 74, 75, 76, 77, 78, 79, 80, 81, 82, 83, 84, 85, 86, 87, 88, 101, 102, 103, 104, 105, 106, 94, 95, 96, 97, 98, 99, 100, 107, 108] (by decide +kernel) (by decide +kernel)
set_option maxRecDepth 20000 in
theorem gX0_comesOtherwise_X1_servedOf : GoodIn wsX0_comesOtherwise (wsV RX0 43 RX1 yX1_servedOf wsX1_servedOf) := goodIn_app (goodIn_of _ (by decide +kernel)) ggX0_comesOtherwise_X1_servedOf
theorem dX0_comesOtherwise_0 : decode cX0_comesOtherwise 0 = .ok (.aload_n 0, 1) := by decide +kernel
theorem dX0_comesOtherwise_1 : decode cX0_comesOtherwise 1 = .ok (.getfield 21, 3) := by decide +kernel
theorem dX0_comesOtherwise_4 : decode cX0_comesOtherwise 4 = .ok (.getfield 39, 3) := by decide +kernel
theorem dX0_comesOtherwise_7 : decode cX0_comesOtherwise 7 = .ok (.iload_n 1, 1) := by decide +kernel
theorem dX0_comesOtherwise_8 : decode cX0_comesOtherwise 8 = .ok (.iaload, 1) := by decide +kernel
theorem dX0_comesOtherwise_9 : decode cX0_comesOtherwise 9 = .ok (.istore_n 2, 1) := by decide +kernel
theorem dX0_comesOtherwise_10 : decode cX0_comesOtherwise 10 = .ok (.iload_n 2, 1) := by decide +kernel
theorem dX0_comesOtherwise_11 : decode cX0_comesOtherwise 11 = .ok (.istore_n 3, 1) := by decide +kernel
theorem dX0_comesOtherwise_12 : decode cX0_comesOtherwise 12 = .ok (.aload_n 0, 1) := by decide +kernel
theorem dX0_comesOtherwise_13 : decode cX0_comesOtherwise 13 = .ok (.getfield 12, 3) := by decide +kernel
theorem dX0_comesOtherwise_16 : decode cX0_comesOtherwise 16 = .ok (.aload_n 0, 1) := by decide +kernel
theorem dX0_comesOtherwise_17 : decode cX0_comesOtherwise 17 = .ok (.getfield 21, 3) := by decide +kernel
theorem dX0_comesOtherwise_20 : decode cX0_comesOtherwise 20 = .ok (.iload_n 1, 1) := by decide +kernel
theorem dX0_comesOtherwise_21 : decode cX0_comesOtherwise 21 = .ok (.invokevirtual 43, 3) := by decide +kernel
theorem dX0_comesOtherwise_24 : decode cX0_comesOtherwise 24 = .ok (.iload_n 2, 1) := by decide +kernel
theorem dX0_comesOtherwise_25 : decode cX0_comesOtherwise 25 = .ok (.isub, 1) := by decide +kernel
theorem dX0_comesOtherwise_26 : decode cX0_comesOtherwise 26 = .ok (.istore 4, 2) := by decide +kernel
theorem dX0_comesOtherwise_28 : decode cX0_comesOtherwise 28 = .ok (.iconst 0, 1) := by decide +kernel
theorem dX0_comesOtherwise_29 : decode cX0_comesOtherwise 29 = .ok (.istore 5, 2) := by decide +kernel
theorem dX0_comesOtherwise_31 : decode cX0_comesOtherwise 31 = .ok (.iload 5, 2) := by decide +kernel
theorem dX0_comesOtherwise_33 : decode cX0_comesOtherwise 33 = .ok (.bipush 60, 2) := by decide +kernel
theorem dX0_comesOtherwise_35 : decode cX0_comesOtherwise 35 = .ok (.if_icmp .ge 59, 3) := by decide +kernel
theorem dX0_comesOtherwise_38 : decode cX0_comesOtherwise 38 = .ok (.iload 4, 2) := by decide +kernel
theorem dX0_comesOtherwise_40 : decode cX0_comesOtherwise 40 = .ok (.ifCond .le 54, 3) := by decide +kernel
theorem dX0_comesOtherwise_43 : decode cX0_comesOtherwise 43 = .ok (.aload_n 0, 1) := by decide +kernel
theorem dX0_comesOtherwise_44 : decode cX0_comesOtherwise 44 = .ok (.getfield 21, 3) := by decide +kernel
theorem dX0_comesOtherwise_47 : decode cX0_comesOtherwise 47 = .ok (.getfield 39, 3) := by decide +kernel
theorem dX0_comesOtherwise_50 : decode cX0_comesOtherwise 50 = .ok (.iload_n 1, 1) := by decide +kernel
theorem dX0_comesOtherwise_51 : decode cX0_comesOtherwise 51 = .ok (.iload 5, 2) := by decide +kernel
theorem dX0_comesOtherwise_53 : decode cX0_comesOtherwise 53 = .ok (.iastore, 1) := by decide +kernel
theorem dX0_comesOtherwise_54 : decode cX0_comesOtherwise 54 = .ok (.aload_n 0, 1) := by decide +kernel
theorem dX0_comesOtherwise_55 : decode cX0_comesOtherwise 55 = .ok (.getfield 12, 3) := by decide +kernel
theorem dX0_comesOtherwise_58 : decode cX0_comesOtherwise 58 = .ok (.aload_n 0, 1) := by decide +kernel
theorem dX0_comesOtherwise_59 : decode cX0_comesOtherwise 59 = .ok (.getfield 21, 3) := by decide +kernel
theorem dX0_comesOtherwise_62 : decode cX0_comesOtherwise 62 = .ok (.iload_n 1, 1) := by decide +kernel
theorem dX0_comesOtherwise_63 : decode cX0_comesOtherwise 63 = .ok (.invokevirtual 43, 3) := by decide +kernel
theorem dX0_comesOtherwise_66 : decode cX0_comesOtherwise 66 = .ok (.iload 5, 2) := by decide +kernel
theorem dX0_comesOtherwise_68 : decode cX0_comesOtherwise 68 = .ok (.isub, 1) := by decide +kernel
theorem dX0_comesOtherwise_69 : decode cX0_comesOtherwise 69 = .ok (.istore 6, 2) := by decide +kernel
theorem dX0_comesOtherwise_71 : decode cX0_comesOtherwise 71 = .ok (.iload 6, 2) := by decide +kernel
theorem dX0_comesOtherwise_73 : decode cX0_comesOtherwise 73 = .ok (.iload 4, 2) := by decide +kernel
theorem dX0_comesOtherwise_75 : decode cX0_comesOtherwise 75 = .ok (.if_icmp .lt 6, 3) := by decide +kernel
theorem dX0_comesOtherwise_78 : decode cX0_comesOtherwise 78 = .ok (.goto 10, 3) := by decide +kernel
theorem dX0_comesOtherwise_81 : decode cX0_comesOtherwise 81 = .ok (.iload 6, 2) := by decide +kernel
theorem dX0_comesOtherwise_83 : decode cX0_comesOtherwise 83 = .ok (.istore 4, 2) := by decide +kernel
theorem dX0_comesOtherwise_85 : decode cX0_comesOtherwise 85 = .ok (.iload 5, 2) := by decide +kernel
theorem dX0_comesOtherwise_87 : decode cX0_comesOtherwise 87 = .ok (.istore_n 3, 1) := by decide +kernel
theorem dX0_comesOtherwise_88 : decode cX0_comesOtherwise 88 = .ok (.iinc 5 1, 3) := by decide +kernel
theorem dX0_comesOtherwise_91 : decode cX0_comesOtherwise 91 = .ok (.goto (-60), 3) := by decide +kernel
theorem dX0_comesOtherwise_94 : decode cX0_comesOtherwise 94 = .ok (.aload_n 0, 1) := by decide +kernel
theorem dX0_comesOtherwise_95 : decode cX0_comesOtherwise 95 = .ok (.getfield 21, 3) := by decide +kernel
theorem dX0_comesOtherwise_98 : decode cX0_comesOtherwise 98 = .ok (.getfield 39, 3) := by decide +kernel
theorem dX0_comesOtherwise_101 : decode cX0_comesOtherwise 101 = .ok (.iload_n 1, 1) := by decide +kernel
theorem dX0_comesOtherwise_102 : decode cX0_comesOtherwise 102 = .ok (.iload_n 3, 1) := by decide +kernel
theorem dX0_comesOtherwise_103 : decode cX0_comesOtherwise 103 = .ok (.iastore, 1) := by decide +kernel
theorem dX0_comesOtherwise_104 : decode cX0_comesOtherwise 104 = .ok (.iload_n 3, 1) := by decide +kernel
theorem dX0_comesOtherwise_105 : decode cX0_comesOtherwise 105 = .ok (.iload_n 2, 1) := by decide +kernel
theorem dX0_comesOtherwise_106 : decode cX0_comesOtherwise 106 = .ok (.if_icmp .eq 7, 3) := by decide +kernel
theorem dX0_comesOtherwise_109 : decode cX0_comesOtherwise 109 = .ok (.iconst 1, 1) := by decide +kernel
theorem dX0_comesOtherwise_110 : decode cX0_comesOtherwise 110 = .ok (.goto 4, 3) := by decide +kernel
theorem dX0_comesOtherwise_113 : decode cX0_comesOtherwise 113 = .ok (.iconst 0, 1) := by decide +kernel
theorem dX0_comesOtherwise_114 : decode cX0_comesOtherwise 114 = .ok (.ireturn, 1) := by decide +kernel
set_option maxRecDepth 20000 in
theorem ggX0_waitByLeastFirst_X3_everybody : GoodIn wsX0_waitByLeastFirst wsX3_everybody := goodIn_r _ [7, 8, 17, 18, 19, 20, 21, 22, 23] (by decide +kernel) (by decide +kernel)
set_option maxRecDepth 20000 in
theorem gX0_waitByLeastFirst_X3_everybody : GoodIn wsX0_waitByLeastFirst (wsV RX0 54 RX3 yX3_everybody wsX3_everybody) := goodIn_app (goodIn_of _ (by decide +kernel)) ggX0_waitByLeastFirst_X3_everybody
set_option maxRecDepth 20000 in
theorem ggX0_waitByLeastFirst_X0_leastWanting : GoodIn wsX0_waitByLeastFirst wsX0_leastWanting := goodIn_r _ [12, 13, 1, 2, 14, 15, 16, 17, 18, 19, 20, 21, 22, 23] (by decide +kernel) (by decide +kernel)
set_option maxRecDepth 20000 in
theorem gX0_waitByLeastFirst_X0_leastWanting : GoodIn wsX0_waitByLeastFirst (va_wsS RX0 58 yX0_leastWanting wsX0_leastWanting) := goodIn_app (goodIn_of _ (by decide +kernel)) ggX0_waitByLeastFirst_X0_leastWanting
theorem dX0_waitByLeastFirst_0 : decode cX0_waitByLeastFirst 0 = .ok (.aload_n 1, 1) := by decide +kernel
theorem dX0_waitByLeastFirst_1 : decode cX0_waitByLeastFirst 1 = .ok (.invokevirtual 54, 3) := by decide +kernel
theorem dX0_waitByLeastFirst_4 : decode cX0_waitByLeastFirst 4 = .ok (.istore_n 2, 1) := by decide +kernel
theorem dX0_waitByLeastFirst_5 : decode cX0_waitByLeastFirst 5 = .ok (.iconst 0, 1) := by decide +kernel
theorem dX0_waitByLeastFirst_6 : decode cX0_waitByLeastFirst 6 = .ok (.istore_n 3, 1) := by decide +kernel
theorem dX0_waitByLeastFirst_7 : decode cX0_waitByLeastFirst 7 = .ok (.iconst 0, 1) := by decide +kernel
theorem dX0_waitByLeastFirst_8 : decode cX0_waitByLeastFirst 8 = .ok (.istore 4, 2) := by decide +kernel
theorem dX0_waitByLeastFirst_10 : decode cX0_waitByLeastFirst 10 = .ok (.iconst 0, 1) := by decide +kernel
theorem dX0_waitByLeastFirst_11 : decode cX0_waitByLeastFirst 11 = .ok (.istore 5, 2) := by decide +kernel
theorem dX0_waitByLeastFirst_13 : decode cX0_waitByLeastFirst 13 = .ok (.iload 5, 2) := by decide +kernel
theorem dX0_waitByLeastFirst_15 : decode cX0_waitByLeastFirst 15 = .ok (.sipush 199, 3) := by decide +kernel
theorem dX0_waitByLeastFirst_18 : decode cX0_waitByLeastFirst 18 = .ok (.if_icmp .gt 76, 3) := by decide +kernel
theorem dX0_waitByLeastFirst_21 : decode cX0_waitByLeastFirst 21 = .ok (.iload_n 2, 1) := by decide +kernel
theorem dX0_waitByLeastFirst_22 : decode cX0_waitByLeastFirst 22 = .ok (.ifCond .eq 72, 3) := by decide +kernel
theorem dX0_waitByLeastFirst_25 : decode cX0_waitByLeastFirst 25 = .ok (.iload 5, 2) := by decide +kernel
theorem dX0_waitByLeastFirst_27 : decode cX0_waitByLeastFirst 27 = .ok (.iload_n 3, 1) := by decide +kernel
theorem dX0_waitByLeastFirst_28 : decode cX0_waitByLeastFirst 28 = .ok (.if_icmp .ge 6, 3) := by decide +kernel
theorem dX0_waitByLeastFirst_31 : decode cX0_waitByLeastFirst 31 = .ok (.goto 57, 3) := by decide +kernel
theorem dX0_waitByLeastFirst_34 : decode cX0_waitByLeastFirst 34 = .ok (.aload_n 1, 1) := by decide +kernel
theorem dX0_waitByLeastFirst_35 : decode cX0_waitByLeastFirst 35 = .ok (.iload_n 2, 1) := by decide +kernel
theorem dX0_waitByLeastFirst_36 : decode cX0_waitByLeastFirst 36 = .ok (.iload 5, 2) := by decide +kernel
theorem dX0_waitByLeastFirst_38 : decode cX0_waitByLeastFirst 38 = .ok (.invokestatic 58, 3) := by decide +kernel
theorem dX0_waitByLeastFirst_41 : decode cX0_waitByLeastFirst 41 = .ok (.istore 6, 2) := by decide +kernel
theorem dX0_waitByLeastFirst_43 : decode cX0_waitByLeastFirst 43 = .ok (.iload 6, 2) := by decide +kernel
theorem dX0_waitByLeastFirst_45 : decode cX0_waitByLeastFirst 45 = .ok (.bipush (-9), 2) := by decide +kernel
theorem dX0_waitByLeastFirst_47 : decode cX0_waitByLeastFirst 47 = .ok (.if_icmp .ne 6, 3) := by decide +kernel
theorem dX0_waitByLeastFirst_50 : decode cX0_waitByLeastFirst 50 = .ok (.goto 38, 3) := by decide +kernel
theorem dX0_waitByLeastFirst_53 : decode cX0_waitByLeastFirst 53 = .ok (.iload 4, 2) := by decide +kernel
theorem dX0_waitByLeastFirst_55 : decode cX0_waitByLeastFirst 55 = .ok (.iload 5, 2) := by decide +kernel
theorem dX0_waitByLeastFirst_57 : decode cX0_waitByLeastFirst 57 = .ok (.aload_n 1, 1) := by decide +kernel
theorem dX0_waitByLeastFirst_58 : decode cX0_waitByLeastFirst 58 = .ok (.getfield 39, 3) := by decide +kernel
theorem dX0_waitByLeastFirst_61 : decode cX0_waitByLeastFirst 61 = .ok (.iload 6, 2) := by decide +kernel
theorem dX0_waitByLeastFirst_63 : decode cX0_waitByLeastFirst 63 = .ok (.iaload, 1) := by decide +kernel
theorem dX0_waitByLeastFirst_64 : decode cX0_waitByLeastFirst 64 = .ok (.isub, 1) := by decide +kernel
theorem dX0_waitByLeastFirst_65 : decode cX0_waitByLeastFirst 65 = .ok (.iadd, 1) := by decide +kernel
theorem dX0_waitByLeastFirst_66 : decode cX0_waitByLeastFirst 66 = .ok (.istore 4, 2) := by decide +kernel
theorem dX0_waitByLeastFirst_68 : decode cX0_waitByLeastFirst 68 = .ok (.iload 5, 2) := by decide +kernel
theorem dX0_waitByLeastFirst_70 : decode cX0_waitByLeastFirst 70 = .ok (.aload_n 1, 1) := by decide +kernel
theorem dX0_waitByLeastFirst_71 : decode cX0_waitByLeastFirst 71 = .ok (.getfield 62, 3) := by decide +kernel
theorem dX0_waitByLeastFirst_74 : decode cX0_waitByLeastFirst 74 = .ok (.iload 6, 2) := by decide +kernel
theorem dX0_waitByLeastFirst_76 : decode cX0_waitByLeastFirst 76 = .ok (.iaload, 1) := by decide +kernel
theorem dX0_waitByLeastFirst_77 : decode cX0_waitByLeastFirst 77 = .ok (.iadd, 1) := by decide +kernel
theorem dX0_waitByLeastFirst_78 : decode cX0_waitByLeastFirst 78 = .ok (.istore_n 3, 1) := by decide +kernel
theorem dX0_waitByLeastFirst_79 : decode cX0_waitByLeastFirst 79 = .ok (.iload_n 2, 1) := by decide +kernel
theorem dX0_waitByLeastFirst_80 : decode cX0_waitByLeastFirst 80 = .ok (.iconst 1, 1) := by decide +kernel
theorem dX0_waitByLeastFirst_81 : decode cX0_waitByLeastFirst 81 = .ok (.iload 6, 2) := by decide +kernel
theorem dX0_waitByLeastFirst_83 : decode cX0_waitByLeastFirst 83 = .ok (.ishl, 1) := by decide +kernel
theorem dX0_waitByLeastFirst_84 : decode cX0_waitByLeastFirst 84 = .ok (.iconst (-1), 1) := by decide +kernel
theorem dX0_waitByLeastFirst_85 : decode cX0_waitByLeastFirst 85 = .ok (.ixor, 1) := by decide +kernel
theorem dX0_waitByLeastFirst_86 : decode cX0_waitByLeastFirst 86 = .ok (.iand, 1) := by decide +kernel
theorem dX0_waitByLeastFirst_87 : decode cX0_waitByLeastFirst 87 = .ok (.istore_n 2, 1) := by decide +kernel
theorem dX0_waitByLeastFirst_88 : decode cX0_waitByLeastFirst 88 = .ok (.iinc 5 1, 3) := by decide +kernel
theorem dX0_waitByLeastFirst_91 : decode cX0_waitByLeastFirst 91 = .ok (.goto (-78), 3) := by decide +kernel
theorem dX0_waitByLeastFirst_94 : decode cX0_waitByLeastFirst 94 = .ok (.iload 4, 2) := by decide +kernel
theorem dX0_waitByLeastFirst_96 : decode cX0_waitByLeastFirst 96 = .ok (.ireturn, 1) := by decide +kernel
set_option maxRecDepth 20000 in
theorem ggX0_leastWanting_X8_hasPerson : GoodIn wsX0_leastWanting wsX8_hasPerson := goodIn_r _ [6] (by decide +kernel) (by decide +kernel)
set_option maxRecDepth 20000 in
theorem gX0_leastWanting_X8_hasPerson_n65 : GoodIn wsX0_leastWanting (wsX8_hasPerson) := ggX0_leastWanting_X8_hasPerson
theorem dX0_leastWanting_0 : decode cX0_leastWanting 0 = .ok (.bipush (-9), 2) := by decide +kernel
theorem dX0_leastWanting_2 : decode cX0_leastWanting 2 = .ok (.istore_n 3, 1) := by decide +kernel
theorem dX0_leastWanting_3 : decode cX0_leastWanting 3 = .ok (.iconst 0, 1) := by decide +kernel
theorem dX0_leastWanting_4 : decode cX0_leastWanting 4 = .ok (.istore 4, 2) := by decide +kernel
theorem dX0_leastWanting_6 : decode cX0_leastWanting 6 = .ok (.iload 4, 2) := by decide +kernel
theorem dX0_leastWanting_8 : decode cX0_leastWanting 8 = .ok (.aload_n 0, 1) := by decide +kernel
theorem dX0_leastWanting_9 : decode cX0_leastWanting 9 = .ok (.getfield 47, 3) := by decide +kernel
theorem dX0_leastWanting_12 : decode cX0_leastWanting 12 = .ok (.if_icmp .ge 57, 3) := by decide +kernel
theorem dX0_leastWanting_15 : decode cX0_leastWanting 15 = .ok (.iload_n 1, 1) := by decide +kernel
theorem dX0_leastWanting_16 : decode cX0_leastWanting 16 = .ok (.iload 4, 2) := by decide +kernel
theorem dX0_leastWanting_18 : decode cX0_leastWanting 18 = .ok (.invokestatic 65, 3) := by decide +kernel
theorem dX0_leastWanting_21 : decode cX0_leastWanting 21 = .ok (.ifCond .eq 42, 3) := by decide +kernel
theorem dX0_leastWanting_24 : decode cX0_leastWanting 24 = .ok (.aload_n 0, 1) := by decide +kernel
theorem dX0_leastWanting_25 : decode cX0_leastWanting 25 = .ok (.getfield 39, 3) := by decide +kernel
theorem dX0_leastWanting_28 : decode cX0_leastWanting 28 = .ok (.iload 4, 2) := by decide +kernel
theorem dX0_leastWanting_30 : decode cX0_leastWanting 30 = .ok (.iaload, 1) := by decide +kernel
theorem dX0_leastWanting_31 : decode cX0_leastWanting 31 = .ok (.iload_n 2, 1) := by decide +kernel
theorem dX0_leastWanting_32 : decode cX0_leastWanting 32 = .ok (.if_icmp .le 6, 3) := by decide +kernel
theorem dX0_leastWanting_35 : decode cX0_leastWanting 35 = .ok (.goto 28, 3) := by decide +kernel
theorem dX0_leastWanting_38 : decode cX0_leastWanting 38 = .ok (.iload_n 3, 1) := by decide +kernel
theorem dX0_leastWanting_39 : decode cX0_leastWanting 39 = .ok (.bipush (-9), 2) := by decide +kernel
theorem dX0_leastWanting_41 : decode cX0_leastWanting 41 = .ok (.if_icmp .eq 19, 3) := by decide +kernel
theorem dX0_leastWanting_44 : decode cX0_leastWanting 44 = .ok (.aload_n 0, 1) := by decide +kernel
theorem dX0_leastWanting_45 : decode cX0_leastWanting 45 = .ok (.getfield 62, 3) := by decide +kernel
theorem dX0_leastWanting_48 : decode cX0_leastWanting 48 = .ok (.iload 4, 2) := by decide +kernel
theorem dX0_leastWanting_50 : decode cX0_leastWanting 50 = .ok (.iaload, 1) := by decide +kernel
theorem dX0_leastWanting_51 : decode cX0_leastWanting 51 = .ok (.aload_n 0, 1) := by decide +kernel
theorem dX0_leastWanting_52 : decode cX0_leastWanting 52 = .ok (.getfield 62, 3) := by decide +kernel
theorem dX0_leastWanting_55 : decode cX0_leastWanting 55 = .ok (.iload_n 3, 1) := by decide +kernel
theorem dX0_leastWanting_56 : decode cX0_leastWanting 56 = .ok (.iaload, 1) := by decide +kernel
theorem dX0_leastWanting_57 : decode cX0_leastWanting 57 = .ok (.if_icmp .ge 6, 3) := by decide +kernel
theorem dX0_leastWanting_60 : decode cX0_leastWanting 60 = .ok (.iload 4, 2) := by decide +kernel
theorem dX0_leastWanting_62 : decode cX0_leastWanting 62 = .ok (.istore_n 3, 1) := by decide +kernel
theorem dX0_leastWanting_63 : decode cX0_leastWanting 63 = .ok (.iinc 4 1, 3) := by decide +kernel
theorem dX0_leastWanting_66 : decode cX0_leastWanting 66 = .ok (.goto (-60), 3) := by decide +kernel
theorem dX0_leastWanting_69 : decode cX0_leastWanting 69 = .ok (.iload_n 3, 1) := by decide +kernel
theorem dX0_leastWanting_70 : decode cX0_leastWanting 70 = .ok (.ireturn, 1) := by decide +kernel
set_option maxRecDepth 20000 in
theorem ggX0_findRunOut_X3_takeFrom : GoodIn wsX0_findRunOut wsX3_takeFrom := goodIn_r _ [10, 11, 12, 13, 14, 15, 16, 17, 106, 107, 108, 109, 110, 111, 112] (by decide +kernel) (by decide +kernel)
set_option maxRecDepth 20000 in
theorem gX0_findRunOut_X3_takeFrom : GoodIn wsX0_findRunOut (wsV RX0 35 RX3 yX3_takeFrom wsX3_takeFrom) := goodIn_app (goodIn_of _ (by decide +kernel)) ggX0_findRunOut_X3_takeFrom
set_option maxRecDepth 20000 in
theorem ggX0_findRunOut_X1_servedOf : GoodIn wsX0_findRunOut wsX1_servedOf := goodIn_r _ [22, 23, 24, 25, 26, 9, 27, 12, 28, 29, 30, 21, 31, 32, 33, 34, 35, 36, 37, 38, 39, 40, 41, 42, 43, 44, 45, 46, 47, 48, 49, 50, 51, 52, 53, 54, 55, 56, 57, 58, 59, 60, 61, 62, 63, 64, 65, 66, 67, 68, 69, 70, 71, 72, 73, 74, 75, 76, 77, 78, 79, 80, 81, 82, 83, 84, 85, 86, 87, 88, 89, 90, 91, 92, 93, 94, 95, 96, 97, 98, 99, 100, 113, 114, 115, 116, 117, 118, 106, 107, 108, 109, 110, 111, 112, 119, 120] (by decide +kernel) (by decide +kernel)
set_option maxRecDepth 20000 in
theorem gX0_findRunOut_X1_servedOf : GoodIn wsX0_findRunOut (wsV RX0 43 RX1 yX1_servedOf wsX1_servedOf) := goodIn_app (goodIn_of _ (by decide +kernel)) ggX0_findRunOut_X1_servedOf
theorem dX0_findRunOut_0 : decode cX0_findRunOut 0 = .ok (.aload_n 0, 1) := by decide +kernel
theorem dX0_findRunOut_1 : decode cX0_findRunOut 1 = .ok (.getfield 21, 3) := by decide +kernel
theorem dX0_findRunOut_4 : decode cX0_findRunOut 4 = .ok (.aload_n 1, 1) := by decide +kernel
theorem dX0_findRunOut_5 : decode cX0_findRunOut 5 = .ok (.invokevirtual 35, 3) := by decide +kernel
theorem dX0_findRunOut_8 : decode cX0_findRunOut 8 = .ok (.aload_n 0, 1) := by decide +kernel
theorem dX0_findRunOut_9 : decode cX0_findRunOut 9 = .ok (.bipush (-9), 2) := by decide +kernel
theorem dX0_findRunOut_11 : decode cX0_findRunOut 11 = .ok (.putfield 25, 3) := by decide +kernel
theorem dX0_findRunOut_14 : decode cX0_findRunOut 14 = .ok (.aload_n 0, 1) := by decide +kernel
theorem dX0_findRunOut_15 : decode cX0_findRunOut 15 = .ok (.aload_n 0, 1) := by decide +kernel
theorem dX0_findRunOut_16 : decode cX0_findRunOut 16 = .ok (.getfield 12, 3) := by decide +kernel
theorem dX0_findRunOut_19 : decode cX0_findRunOut 19 = .ok (.aload_n 1, 1) := by decide +kernel
theorem dX0_findRunOut_20 : decode cX0_findRunOut 20 = .ok (.iload_n 2, 1) := by decide +kernel
theorem dX0_findRunOut_21 : decode cX0_findRunOut 21 = .ok (.invokevirtual 43, 3) := by decide +kernel
theorem dX0_findRunOut_24 : decode cX0_findRunOut 24 = .ok (.putfield 29, 3) := by decide +kernel
theorem dX0_findRunOut_27 : decode cX0_findRunOut 27 = .ok (.iconst 0, 1) := by decide +kernel
theorem dX0_findRunOut_28 : decode cX0_findRunOut 28 = .ok (.istore_n 3, 1) := by decide +kernel
theorem dX0_findRunOut_29 : decode cX0_findRunOut 29 = .ok (.iload_n 3, 1) := by decide +kernel
theorem dX0_findRunOut_30 : decode cX0_findRunOut 30 = .ok (.bipush 60, 2) := by decide +kernel
theorem dX0_findRunOut_32 : decode cX0_findRunOut 32 = .ok (.if_icmp .ge 56, 3) := by decide +kernel
theorem dX0_findRunOut_35 : decode cX0_findRunOut 35 = .ok (.aload_n 0, 1) := by decide +kernel
theorem dX0_findRunOut_36 : decode cX0_findRunOut 36 = .ok (.getfield 21, 3) := by decide +kernel
theorem dX0_findRunOut_39 : decode cX0_findRunOut 39 = .ok (.getfield 69, 3) := by decide +kernel
theorem dX0_findRunOut_42 : decode cX0_findRunOut 42 = .ok (.iload_n 2, 1) := by decide +kernel
theorem dX0_findRunOut_43 : decode cX0_findRunOut 43 = .ok (.iload_n 3, 1) := by decide +kernel
theorem dX0_findRunOut_44 : decode cX0_findRunOut 44 = .ok (.iastore, 1) := by decide +kernel
theorem dX0_findRunOut_45 : decode cX0_findRunOut 45 = .ok (.aload_n 0, 1) := by decide +kernel
theorem dX0_findRunOut_46 : decode cX0_findRunOut 46 = .ok (.getfield 12, 3) := by decide +kernel
theorem dX0_findRunOut_49 : decode cX0_findRunOut 49 = .ok (.aload_n 0, 1) := by decide +kernel
theorem dX0_findRunOut_50 : decode cX0_findRunOut 50 = .ok (.getfield 21, 3) := by decide +kernel
theorem dX0_findRunOut_53 : decode cX0_findRunOut 53 = .ok (.iload_n 2, 1) := by decide +kernel
theorem dX0_findRunOut_54 : decode cX0_findRunOut 54 = .ok (.invokevirtual 43, 3) := by decide +kernel
theorem dX0_findRunOut_57 : decode cX0_findRunOut 57 = .ok (.istore 4, 2) := by decide +kernel
theorem dX0_findRunOut_59 : decode cX0_findRunOut 59 = .ok (.iload 4, 2) := by decide +kernel
theorem dX0_findRunOut_61 : decode cX0_findRunOut 61 = .ok (.aload_n 0, 1) := by decide +kernel
theorem dX0_findRunOut_62 : decode cX0_findRunOut 62 = .ok (.getfield 29, 3) := by decide +kernel
theorem dX0_findRunOut_65 : decode cX0_findRunOut 65 = .ok (.if_icmp .lt 6, 3) := by decide +kernel
theorem dX0_findRunOut_68 : decode cX0_findRunOut 68 = .ok (.goto 14, 3) := by decide +kernel
theorem dX0_findRunOut_71 : decode cX0_findRunOut 71 = .ok (.aload_n 0, 1) := by decide +kernel
theorem dX0_findRunOut_72 : decode cX0_findRunOut 72 = .ok (.iload_n 3, 1) := by decide +kernel
theorem dX0_findRunOut_73 : decode cX0_findRunOut 73 = .ok (.putfield 25, 3) := by decide +kernel
theorem dX0_findRunOut_76 : decode cX0_findRunOut 76 = .ok (.aload_n 0, 1) := by decide +kernel
theorem dX0_findRunOut_77 : decode cX0_findRunOut 77 = .ok (.iload 4, 2) := by decide +kernel
theorem dX0_findRunOut_79 : decode cX0_findRunOut 79 = .ok (.putfield 29, 3) := by decide +kernel
theorem dX0_findRunOut_82 : decode cX0_findRunOut 82 = .ok (.iinc 3 1, 3) := by decide +kernel
theorem dX0_findRunOut_85 : decode cX0_findRunOut 85 = .ok (.goto (-56), 3) := by decide +kernel
theorem dX0_findRunOut_88 : decode cX0_findRunOut 88 = .ok (.return_, 1) := by decide +kernel
set_option maxRecDepth 20000 in
theorem ggX1_init_X2_init : GoodIn wsX1_init wsX2_init := goodIn_r _ [15, 16, 2, 3, 8, 17, 18, 19, 20] (by decide +kernel) (by decide +kernel)
set_option maxRecDepth 20000 in
theorem gX1_init_X2_init_n11 : GoodIn wsX1_init (wsX2_init) := ggX1_init_X2_init
theorem dX1_init_0 : decode cX1_init 0 = .ok (.aload_n 0, 1) := by decide +kernel
theorem dX1_init_1 : decode cX1_init 1 = .ok (.invokespecial 3, 3) := by decide +kernel
theorem dX1_init_4 : decode cX1_init 4 = .ok (.aload_n 0, 1) := by decide +kernel
theorem dX1_init_5 : decode cX1_init 5 = .ok (.new 9, 3) := by decide +kernel
theorem dX1_init_8 : decode cX1_init 8 = .ok (.dup, 1) := by decide +kernel
theorem dX1_init_9 : decode cX1_init 9 = .ok (.invokespecial 11, 3) := by decide +kernel
theorem dX1_init_12 : decode cX1_init 12 = .ok (.putfield 12, 3) := by decide +kernel
theorem dX1_init_15 : decode cX1_init 15 = .ok (.aload_n 0, 1) := by decide +kernel
theorem dX1_init_16 : decode cX1_init 16 = .ok (.bipush 7, 2) := by decide +kernel
theorem dX1_init_18 : decode cX1_init 18 = .ok (.newarray .int, 2) := by decide +kernel
theorem dX1_init_20 : decode cX1_init 20 = .ok (.putfield 18, 3) := by decide +kernel
theorem dX1_init_23 : decode cX1_init 23 = .ok (.aload_n 0, 1) := by decide +kernel
theorem dX1_init_24 : decode cX1_init 24 = .ok (.bipush (-9), 2) := by decide +kernel
theorem dX1_init_26 : decode cX1_init 26 = .ok (.putfield 22, 3) := by decide +kernel
theorem dX1_init_29 : decode cX1_init 29 = .ok (.aload_n 0, 1) := by decide +kernel
theorem dX1_init_30 : decode cX1_init 30 = .ok (.iconst 0, 1) := by decide +kernel
theorem dX1_init_31 : decode cX1_init 31 = .ok (.putfield 26, 3) := by decide +kernel
theorem dX1_init_34 : decode cX1_init 34 = .ok (.aload_n 0, 1) := by decide +kernel
theorem dX1_init_35 : decode cX1_init 35 = .ok (.lconst 0, 1) := by decide +kernel
theorem dX1_init_36 : decode cX1_init 36 = .ok (.putfield 29, 3) := by decide +kernel
theorem dX1_init_39 : decode cX1_init 39 = .ok (.aload_n 0, 1) := by decide +kernel
theorem dX1_init_40 : decode cX1_init 40 = .ok (.iconst 0, 1) := by decide +kernel
theorem dX1_init_41 : decode cX1_init 41 = .ok (.putfield 33, 3) := by decide +kernel
theorem dX1_init_44 : decode cX1_init 44 = .ok (.return_, 1) := by decide +kernel
set_option maxRecDepth 20000 in
theorem ggX1_servedOf_X3_everybody : GoodIn wsX1_servedOf wsX3_everybody := goodIn_r _ [6, 7, 88, 89, 90, 91, 92, 93, 94] (by decide +kernel) (by decide +kernel)
set_option maxRecDepth 20000 in
theorem gX1_servedOf_X3_everybody : GoodIn wsX1_servedOf (wsV RX1 36 RX3 yX3_everybody wsX3_everybody) := goodIn_app (goodIn_of _ (by decide +kernel)) ggX1_servedOf_X3_everybody
set_option maxRecDepth 20000 in
theorem ggX1_servedOf_X1_run : GoodIn wsX1_servedOf wsX1_run := goodIn_r _ [12, 13, 14, 15, 16, 17, 18, 19, 20, 21, 22, 11, 23, 24, 25, 26, 27, 28, 29, 30, 31, 32, 33, 34, 35, 36, 37, 38, 39, 40, 41, 42, 43, 44, 45, 46, 47, 48, 49, 50, 51, 52, 53, 54, 55, 56, 57, 58, 59, 60, 61, 62, 63, 64, 65, 66, 67, 68, 69, 70, 71, 72, 73, 74, 75, 76, 77, 78, 79, 80, 1, 81, 82, 83, 84, 85, 86, 87, 95, 96, 88, 89, 90, 91, 92, 93, 94] (by decide +kernel) (by decide +kernel)
set_option maxRecDepth 20000 in
theorem gX1_servedOf_X1_run : GoodIn wsX1_servedOf (wsV RX1 42 RX1 yX1_run wsX1_run) := goodIn_app (goodIn_of _ (by decide +kernel)) ggX1_servedOf_X1_run
theorem dX1_servedOf_0 : decode cX1_servedOf 0 = .ok (.aload_n 0, 1) := by decide +kernel
theorem dX1_servedOf_1 : decode cX1_servedOf 1 = .ok (.aload_n 1, 1) := by decide +kernel
theorem dX1_servedOf_2 : decode cX1_servedOf 2 = .ok (.aload_n 1, 1) := by decide +kernel
theorem dX1_servedOf_3 : decode cX1_servedOf 3 = .ok (.invokevirtual 36, 3) := by decide +kernel
theorem dX1_servedOf_6 : decode cX1_servedOf 6 = .ok (.iconst 1, 1) := by decide +kernel
theorem dX1_servedOf_7 : decode cX1_servedOf 7 = .ok (.iload_n 2, 1) := by decide +kernel
theorem dX1_servedOf_8 : decode cX1_servedOf 8 = .ok (.ishl, 1) := by decide +kernel
theorem dX1_servedOf_9 : decode cX1_servedOf 9 = .ok (.sipush 199, 3) := by decide +kernel
theorem dX1_servedOf_12 : decode cX1_servedOf 12 = .ok (.invokevirtual 42, 3) := by decide +kernel
theorem dX1_servedOf_15 : decode cX1_servedOf 15 = .ok (.aload_n 0, 1) := by decide +kernel
theorem dX1_servedOf_16 : decode cX1_servedOf 16 = .ok (.getfield 18, 3) := by decide +kernel
theorem dX1_servedOf_19 : decode cX1_servedOf 19 = .ok (.iload_n 2, 1) := by decide +kernel
theorem dX1_servedOf_20 : decode cX1_servedOf 20 = .ok (.iaload, 1) := by decide +kernel
theorem dX1_servedOf_21 : decode cX1_servedOf 21 = .ok (.ireturn, 1) := by decide +kernel
set_option maxRecDepth 20000 in
theorem ggX1_runThrough_X3_everybody : GoodIn wsX1_runThrough wsX3_everybody := goodIn_r _ [5, 6, 82, 83, 84, 85, 86, 87, 88] (by decide +kernel) (by decide +kernel)
set_option maxRecDepth 20000 in
theorem gX1_runThrough_X3_everybody : GoodIn wsX1_runThrough (wsV RX1 36 RX3 yX3_everybody wsX3_everybody) := goodIn_app (goodIn_of _ (by decide +kernel)) ggX1_runThrough_X3_everybody
set_option maxRecDepth 20000 in
theorem ggX1_runThrough_X1_run : GoodIn wsX1_runThrough wsX1_run := goodIn_r _ [11, 12, 13, 14, 15, 16, 17, 18, 19, 20, 21, 10, 22, 23, 24, 25, 26, 27, 28, 29, 30, 31, 32, 33, 34, 35, 36, 37, 38, 39, 40, 41, 42, 43, 44, 45, 46, 47, 48, 49, 50, 51, 52, 53, 54, 55, 56, 57, 58, 59, 60, 61, 62, 63, 64, 65, 66, 67, 68, 69, 70, 71, 72, 73, 74, 75, 76, 77, 78, 79, 80, 81, 89, 90, 91, 92, 93, 94, 95, 96, 82, 83, 84, 85, 86, 87, 88] (by decide +kernel) (by decide +kernel)
set_option maxRecDepth 20000 in
theorem gX1_runThrough_X1_run : GoodIn wsX1_runThrough (wsV RX1 42 RX1 yX1_run wsX1_run) := goodIn_app (goodIn_of _ (by decide +kernel)) ggX1_runThrough_X1_run
theorem dX1_runThrough_0 : decode cX1_runThrough 0 = .ok (.aload_n 0, 1) := by decide +kernel
theorem dX1_runThrough_1 : decode cX1_runThrough 1 = .ok (.aload_n 1, 1) := by decide +kernel
theorem dX1_runThrough_2 : decode cX1_runThrough 2 = .ok (.aload_n 1, 1) := by decide +kernel
theorem dX1_runThrough_3 : decode cX1_runThrough 3 = .ok (.invokevirtual 36, 3) := by decide +kernel
theorem dX1_runThrough_6 : decode cX1_runThrough 6 = .ok (.aload_n 1, 1) := by decide +kernel
theorem dX1_runThrough_7 : decode cX1_runThrough 7 = .ok (.invokevirtual 36, 3) := by decide +kernel
theorem dX1_runThrough_10 : decode cX1_runThrough 10 = .ok (.iconst 1, 1) := by decide +kernel
theorem dX1_runThrough_11 : decode cX1_runThrough 11 = .ok (.iadd, 1) := by decide +kernel
theorem dX1_runThrough_12 : decode cX1_runThrough 12 = .ok (.iload_n 2, 1) := by decide +kernel
theorem dX1_runThrough_13 : decode cX1_runThrough 13 = .ok (.invokevirtual 42, 3) := by decide +kernel
theorem dX1_runThrough_16 : decode cX1_runThrough 16 = .ok (.return_, 1) := by decide +kernel
set_option maxRecDepth 20000 in
theorem ggX1_waitOfAll_X3_everybody : GoodIn wsX1_waitOfAll wsX3_everybody := goodIn_r _ [8, 9, 82, 83, 84, 85, 86, 87, 88] (by decide +kernel) (by decide +kernel)
set_option maxRecDepth 20000 in
theorem gX1_waitOfAll_X3_everybody : GoodIn wsX1_waitOfAll (wsV RX1 36 RX3 yX3_everybody wsX3_everybody) := goodIn_app (goodIn_of _ (by decide +kernel)) ggX1_waitOfAll_X3_everybody
set_option maxRecDepth 20000 in
theorem ggX1_waitOfAll_X1_run : GoodIn wsX1_waitOfAll wsX1_run := goodIn_r _ [14, 15, 16, 17, 18, 19, 20, 21, 22, 23, 24, 13, 25, 1, 3, 26, 27, 28, 29, 30, 31, 32, 33, 34, 35, 36, 37, 38, 39, 40, 41, 42, 43, 44, 45, 46, 47, 48, 49, 50, 51, 52, 53, 54, 55, 56, 57, 58, 59, 60, 61, 62, 63, 64, 65, 66, 67, 68, 69, 70, 71, 72, 73, 74, 75, 76, 77, 78, 79, 80, 2, 81, 89, 90, 91, 92, 93, 94, 95, 96, 82, 83, 84, 85, 86, 87, 88] (by decide +kernel) (by decide +kernel)
set_option maxRecDepth 20000 in
theorem gX1_waitOfAll_X1_run : GoodIn wsX1_waitOfAll (wsV RX1 42 RX1 yX1_run wsX1_run) := goodIn_app (goodIn_of _ (by decide +kernel)) ggX1_waitOfAll_X1_run
theorem dX1_waitOfAll_0 : decode cX1_waitOfAll 0 = .ok (.aload_n 0, 1) := by decide +kernel
theorem dX1_waitOfAll_1 : decode cX1_waitOfAll 1 = .ok (.aload_n 1, 1) := by decide +kernel
theorem dX1_waitOfAll_2 : decode cX1_waitOfAll 2 = .ok (.aload_n 1, 1) := by decide +kernel
theorem dX1_waitOfAll_3 : decode cX1_waitOfAll 3 = .ok (.invokevirtual 36, 3) := by decide +kernel
theorem dX1_waitOfAll_6 : decode cX1_waitOfAll 6 = .ok (.aload_n 1, 1) := by decide +kernel
theorem dX1_waitOfAll_7 : decode cX1_waitOfAll 7 = .ok (.invokevirtual 36, 3) := by decide +kernel
theorem dX1_waitOfAll_10 : decode cX1_waitOfAll 10 = .ok (.sipush 199, 3) := by decide +kernel
theorem dX1_waitOfAll_13 : decode cX1_waitOfAll 13 = .ok (.invokevirtual 42, 3) := by decide +kernel
theorem dX1_waitOfAll_16 : decode cX1_waitOfAll 16 = .ok (.iconst 0, 1) := by decide +kernel
theorem dX1_waitOfAll_17 : decode cX1_waitOfAll 17 = .ok (.istore_n 2, 1) := by decide +kernel
theorem dX1_waitOfAll_18 : decode cX1_waitOfAll 18 = .ok (.iconst 0, 1) := by decide +kernel
theorem dX1_waitOfAll_19 : decode cX1_waitOfAll 19 = .ok (.istore_n 3, 1) := by decide +kernel
theorem dX1_waitOfAll_20 : decode cX1_waitOfAll 20 = .ok (.iload_n 3, 1) := by decide +kernel
theorem dX1_waitOfAll_21 : decode cX1_waitOfAll 21 = .ok (.aload_n 1, 1) := by decide +kernel
theorem dX1_waitOfAll_22 : decode cX1_waitOfAll 22 = .ok (.getfield 46, 3) := by decide +kernel
theorem dX1_waitOfAll_25 : decode cX1_waitOfAll 25 = .ok (.if_icmp .ge 25, 3) := by decide +kernel
theorem dX1_waitOfAll_28 : decode cX1_waitOfAll 28 = .ok (.iload_n 2, 1) := by decide +kernel
theorem dX1_waitOfAll_29 : decode cX1_waitOfAll 29 = .ok (.aload_n 0, 1) := by decide +kernel
theorem dX1_waitOfAll_30 : decode cX1_waitOfAll 30 = .ok (.getfield 18, 3) := by decide +kernel
theorem dX1_waitOfAll_33 : decode cX1_waitOfAll 33 = .ok (.iload_n 3, 1) := by decide +kernel
theorem dX1_waitOfAll_34 : decode cX1_waitOfAll 34 = .ok (.iaload, 1) := by decide +kernel
theorem dX1_waitOfAll_35 : decode cX1_waitOfAll 35 = .ok (.aload_n 1, 1) := by decide +kernel
theorem dX1_waitOfAll_36 : decode cX1_waitOfAll 36 = .ok (.getfield 49, 3) := by decide +kernel
theorem dX1_waitOfAll_39 : decode cX1_waitOfAll 39 = .ok (.iload_n 3, 1) := by decide +kernel
theorem dX1_waitOfAll_40 : decode cX1_waitOfAll 40 = .ok (.iaload, 1) := by decide +kernel
theorem dX1_waitOfAll_41 : decode cX1_waitOfAll 41 = .ok (.isub, 1) := by decide +kernel
theorem dX1_waitOfAll_42 : decode cX1_waitOfAll 42 = .ok (.iadd, 1) := by decide +kernel
theorem dX1_waitOfAll_43 : decode cX1_waitOfAll 43 = .ok (.istore_n 2, 1) := by decide +kernel
theorem dX1_waitOfAll_44 : decode cX1_waitOfAll 44 = .ok (.iinc 3 1, 3) := by decide +kernel
theorem dX1_waitOfAll_47 : decode cX1_waitOfAll 47 = .ok (.goto (-27), 3) := by decide +kernel
theorem dX1_waitOfAll_50 : decode cX1_waitOfAll 50 = .ok (.iload_n 2, 1) := by decide +kernel
theorem dX1_waitOfAll_51 : decode cX1_waitOfAll 51 = .ok (.ireturn, 1) := by decide +kernel
set_option maxRecDepth 20000 in
theorem ggX1_run_X1_movesOf : GoodIn wsX1_run wsX1_movesOf := goodIn_r _ [12, 13, 14, 15, 80, 81, 82, 83, 84, 85, 86] (by decide +kernel) (by decide +kernel)
set_option maxRecDepth 20000 in
theorem gX1_run_X1_movesOf : GoodIn wsX1_run (va_wsS RX1 55 yX1_movesOf wsX1_movesOf) := goodIn_app (goodIn_of _ (by decide +kernel)) ggX1_run_X1_movesOf
set_option maxRecDepth 20000 in
theorem ggX1_run_X8_hasMinute : GoodIn wsX1_run wsX8_hasMinute := goodIn_r _ [18, 19, 20, 17, 21] (by decide +kernel) (by decide +kernel)
set_option maxRecDepth 20000 in
theorem gX1_run_X8_hasMinute_n59 : GoodIn wsX1_run (wsX8_hasMinute) := ggX1_run_X8_hasMinute
set_option maxRecDepth 20000 in
theorem ggX1_run_X1_letRunOut : GoodIn wsX1_run wsX1_letRunOut := goodIn_r _ [25, 13, 15, 1, 2, 26, 27, 28, 29, 30, 31, 32, 33, 34, 35, 36, 37, 38, 39, 40, 80, 81, 82, 83, 84, 85, 86, 72, 73, 74, 75, 76, 77, 78, 79] (by decide +kernel) (by decide +kernel)
set_option maxRecDepth 20000 in
theorem gX1_run_X1_letRunOut : GoodIn wsX1_run (wsV RX1 63 RX1 yX1_letRunOut wsX1_letRunOut) := goodIn_app (goodIn_of _ (by decide +kernel)) ggX1_run_X1_letRunOut
set_option maxRecDepth 20000 in
theorem ggX1_run_X1_letCome : GoodIn wsX1_run wsX1_letCome := goodIn_r _ [44, 13, 14, 1, 45, 17, 46, 47, 48, 49, 11, 50, 2, 51, 52, 53, 54, 55, 37, 38, 39, 29, 40, 31, 32, 80, 81, 82, 83, 84, 85, 86, 72, 73, 74, 75, 76, 77, 78, 79] (by decide +kernel) (by decide +kernel)
set_option maxRecDepth 20000 in
theorem gX1_run_X1_letCome : GoodIn wsX1_run (wsV RX1 67 RX1 yX1_letCome wsX1_letCome) := goodIn_app (goodIn_of _ (by decide +kernel)) ggX1_run_X1_letCome
set_option maxRecDepth 20000 in
theorem ggX1_run_X2_turn : GoodIn wsX1_run wsX2_turn := goodIn_r _ [59, 31, 60, 34, 35, 29, 36, 32, 61, 38, 39, 40, 62, 63, 64, 65, 78, 79] (by decide +kernel) (by decide +kernel)
set_option maxRecDepth 20000 in
theorem gX1_run_X2_turn : GoodIn wsX1_run (wsV RX1 77 RX2 yX2_turn wsX2_turn) := goodIn_app (goodIn_of _ (by decide +kernel)) ggX1_run_X2_turn
set_option maxRecDepth 20000 in
theorem ggX1_run_X1_serveFirst : GoodIn wsX1_run wsX1_serveFirst := goodIn_r _ [69, 1, 3, 70, 71, 6, 4, 33, 34, 35, 29, 36, 31, 32, 72, 73, 74, 75, 76, 77, 80, 81, 82, 83, 84, 85, 86, 78, 79] (by decide +kernel) (by decide +kernel)
set_option maxRecDepth 20000 in
theorem gX1_run_X1_serveFirst : GoodIn wsX1_run (wsV RX1 81 RX1 yX1_serveFirst wsX1_serveFirst) := goodIn_app (goodIn_of _ (by decide +kernel)) ggX1_run_X1_serveFirst
theorem dX1_run_0 : decode cX1_run 0 = .ok (.aload_n 0, 1) := by decide +kernel
theorem dX1_run_1 : decode cX1_run 1 = .ok (.getfield 12, 3) := by decide +kernel
theorem dX1_run_4 : decode cX1_run 4 = .ok (.iconst 0, 1) := by decide +kernel
theorem dX1_run_5 : decode cX1_run 5 = .ok (.putfield 52, 3) := by decide +kernel
theorem dX1_run_8 : decode cX1_run 8 = .ok (.aload_n 0, 1) := by decide +kernel
theorem dX1_run_9 : decode cX1_run 9 = .ok (.bipush (-9), 2) := by decide +kernel
theorem dX1_run_11 : decode cX1_run 11 = .ok (.putfield 22, 3) := by decide +kernel
theorem dX1_run_14 : decode cX1_run 14 = .ok (.aload_n 0, 1) := by decide +kernel
theorem dX1_run_15 : decode cX1_run 15 = .ok (.iload_n 3, 1) := by decide +kernel
theorem dX1_run_16 : decode cX1_run 16 = .ok (.putfield 26, 3) := by decide +kernel
theorem dX1_run_19 : decode cX1_run 19 = .ok (.aload_n 0, 1) := by decide +kernel
theorem dX1_run_20 : decode cX1_run 20 = .ok (.lconst 0, 1) := by decide +kernel
theorem dX1_run_21 : decode cX1_run 21 = .ok (.putfield 29, 3) := by decide +kernel
theorem dX1_run_24 : decode cX1_run 24 = .ok (.aload_n 1, 1) := by decide +kernel
theorem dX1_run_25 : decode cX1_run 25 = .ok (.invokestatic 55, 3) := by decide +kernel
theorem dX1_run_28 : decode cX1_run 28 = .ok (.lstore 5, 2) := by decide +kernel
theorem dX1_run_30 : decode cX1_run 30 = .ok (.iconst 0, 1) := by decide +kernel
theorem dX1_run_31 : decode cX1_run 31 = .ok (.istore 7, 2) := by decide +kernel
theorem dX1_run_33 : decode cX1_run 33 = .ok (.iload 7, 2) := by decide +kernel
theorem dX1_run_35 : decode cX1_run 35 = .ok (.iload 4, 2) := by decide +kernel
theorem dX1_run_37 : decode cX1_run 37 = .ok (.if_icmp .gt 126, 3) := by decide +kernel
theorem dX1_run_40 : decode cX1_run 40 = .ok (.aload_n 0, 1) := by decide +kernel
theorem dX1_run_41 : decode cX1_run 41 = .ok (.getfield 26, 3) := by decide +kernel
theorem dX1_run_44 : decode cX1_run 44 = .ok (.ifCond .eq 119, 3) := by decide +kernel
theorem dX1_run_47 : decode cX1_run 47 = .ok (.iload 7, 2) := by decide +kernel
theorem dX1_run_49 : decode cX1_run 49 = .ok (.aload_n 0, 1) := by decide +kernel
theorem dX1_run_50 : decode cX1_run 50 = .ok (.getfield 33, 3) := by decide +kernel
theorem dX1_run_53 : decode cX1_run 53 = .ok (.if_icmp .ne 9, 3) := by decide +kernel
theorem dX1_run_56 : decode cX1_run 56 = .ok (.aload_n 0, 1) := by decide +kernel
theorem dX1_run_57 : decode cX1_run 57 = .ok (.bipush (-9), 2) := by decide +kernel
theorem dX1_run_59 : decode cX1_run 59 = .ok (.putfield 22, 3) := by decide +kernel
theorem dX1_run_62 : decode cX1_run 62 = .ok (.lload 5, 2) := by decide +kernel
theorem dX1_run_64 : decode cX1_run 64 = .ok (.iload 7, 2) := by decide +kernel
theorem dX1_run_66 : decode cX1_run 66 = .ok (.invokestatic 59, 3) := by decide +kernel
theorem dX1_run_69 : decode cX1_run 69 = .ok (.ifCond .eq 18, 3) := by decide +kernel
theorem dX1_run_72 : decode cX1_run 72 = .ok (.aload_n 0, 1) := by decide +kernel
theorem dX1_run_73 : decode cX1_run 73 = .ok (.aload_n 1, 1) := by decide +kernel
theorem dX1_run_74 : decode cX1_run 74 = .ok (.iload 7, 2) := by decide +kernel
theorem dX1_run_76 : decode cX1_run 76 = .ok (.invokevirtual 63, 3) := by decide +kernel
theorem dX1_run_79 : decode cX1_run 79 = .ok (.aload_n 0, 1) := by decide +kernel
theorem dX1_run_80 : decode cX1_run 80 = .ok (.aload_n 1, 1) := by decide +kernel
theorem dX1_run_81 : decode cX1_run 81 = .ok (.iload_n 2, 1) := by decide +kernel
theorem dX1_run_82 : decode cX1_run 82 = .ok (.iload 7, 2) := by decide +kernel
theorem dX1_run_84 : decode cX1_run 84 = .ok (.invokevirtual 67, 3) := by decide +kernel
theorem dX1_run_87 : decode cX1_run 87 = .ok (.aload_n 0, 1) := by decide +kernel
theorem dX1_run_88 : decode cX1_run 88 = .ok (.getfield 12, 3) := by decide +kernel
theorem dX1_run_91 : decode cX1_run 91 = .ok (.getfield 52, 3) := by decide +kernel
theorem dX1_run_94 : decode cX1_run 94 = .ok (.iconst 1, 1) := by decide +kernel
theorem dX1_run_95 : decode cX1_run 95 = .ok (.if_icmp .le 46, 3) := by decide +kernel
theorem dX1_run_98 : decode cX1_run 98 = .ok (.iload 7, 2) := by decide +kernel
theorem dX1_run_100 : decode cX1_run 100 = .ok (.bipush 60, 2) := by decide +kernel
theorem dX1_run_102 : decode cX1_run 102 = .ok (.if_icmp .ge 39, 3) := by decide +kernel
theorem dX1_run_105 : decode cX1_run 105 = .ok (.aload_n 0, 1) := by decide +kernel
theorem dX1_run_106 : decode cX1_run 106 = .ok (.dup, 1) := by decide +kernel
theorem dX1_run_107 : decode cX1_run 107 = .ok (.getfield 29, 3) := by decide +kernel
theorem dX1_run_110 : decode cX1_run 110 = .ok (.lconst 1, 1) := by decide +kernel
theorem dX1_run_111 : decode cX1_run 111 = .ok (.iload 7, 2) := by decide +kernel
theorem dX1_run_113 : decode cX1_run 113 = .ok (.lshl, 1) := by decide +kernel
theorem dX1_run_114 : decode cX1_run 114 = .ok (.lor, 1) := by decide +kernel
theorem dX1_run_115 : decode cX1_run 115 = .ok (.putfield 29, 3) := by decide +kernel
theorem dX1_run_118 : decode cX1_run 118 = .ok (.aload_n 1, 1) := by decide +kernel
theorem dX1_run_119 : decode cX1_run 119 = .ok (.getfield 71, 3) := by decide +kernel
theorem dX1_run_122 : decode cX1_run 122 = .ok (.iload 7, 2) := by decide +kernel
theorem dX1_run_124 : decode cX1_run 124 = .ok (.invokestatic 59, 3) := by decide +kernel
theorem dX1_run_127 : decode cX1_run 127 = .ok (.ifCond .eq 14, 3) := by decide +kernel
theorem dX1_run_130 : decode cX1_run 130 = .ok (.aload_n 0, 1) := by decide +kernel
theorem dX1_run_131 : decode cX1_run 131 = .ok (.getfield 12, 3) := by decide +kernel
theorem dX1_run_134 : decode cX1_run 134 = .ok (.aload_n 1, 1) := by decide +kernel
theorem dX1_run_135 : decode cX1_run 135 = .ok (.getfield 74, 3) := by decide +kernel
theorem dX1_run_138 : decode cX1_run 138 = .ok (.invokevirtual 77, 3) := by decide +kernel
theorem dX1_run_141 : decode cX1_run 141 = .ok (.aload_n 0, 1) := by decide +kernel
theorem dX1_run_142 : decode cX1_run 142 = .ok (.getfield 22, 3) := by decide +kernel
theorem dX1_run_145 : decode cX1_run 145 = .ok (.bipush (-9), 2) := by decide +kernel
theorem dX1_run_147 : decode cX1_run 147 = .ok (.if_icmp .ne 10, 3) := by decide +kernel
theorem dX1_run_150 : decode cX1_run 150 = .ok (.aload_n 0, 1) := by decide +kernel
theorem dX1_run_151 : decode cX1_run 151 = .ok (.aload_n 1, 1) := by decide +kernel
theorem dX1_run_152 : decode cX1_run 152 = .ok (.iload 7, 2) := by decide +kernel
theorem dX1_run_154 : decode cX1_run 154 = .ok (.invokevirtual 81, 3) := by decide +kernel
theorem dX1_run_157 : decode cX1_run 157 = .ok (.iinc 7 1, 3) := by decide +kernel
theorem dX1_run_160 : decode cX1_run 160 = .ok (.goto (-127), 3) := by decide +kernel
theorem dX1_run_163 : decode cX1_run 163 = .ok (.return_, 1) := by decide +kernel
theorem dX1_movesOf_0 : decode cX1_movesOf 0 = .ok (.lconst 0, 1) := by decide +kernel
theorem dX1_movesOf_1 : decode cX1_movesOf 1 = .ok (.lstore_n 1, 1) := by decide +kernel
theorem dX1_movesOf_2 : decode cX1_movesOf 2 = .ok (.iconst 0, 1) := by decide +kernel
theorem dX1_movesOf_3 : decode cX1_movesOf 3 = .ok (.istore_n 3, 1) := by decide +kernel
theorem dX1_movesOf_4 : decode cX1_movesOf 4 = .ok (.iload_n 3, 1) := by decide +kernel
theorem dX1_movesOf_5 : decode cX1_movesOf 5 = .ok (.aload_n 0, 1) := by decide +kernel
theorem dX1_movesOf_6 : decode cX1_movesOf 6 = .ok (.getfield 46, 3) := by decide +kernel
theorem dX1_movesOf_9 : decode cX1_movesOf 9 = .ok (.if_icmp .ge 42, 3) := by decide +kernel
theorem dX1_movesOf_12 : decode cX1_movesOf 12 = .ok (.lload_n 1, 1) := by decide +kernel
theorem dX1_movesOf_13 : decode cX1_movesOf 13 = .ok (.lconst 1, 1) := by decide +kernel
theorem dX1_movesOf_14 : decode cX1_movesOf 14 = .ok (.aload_n 0, 1) := by decide +kernel
theorem dX1_movesOf_15 : decode cX1_movesOf 15 = .ok (.getfield 49, 3) := by decide +kernel
theorem dX1_movesOf_18 : decode cX1_movesOf 18 = .ok (.iload_n 3, 1) := by decide +kernel
theorem dX1_movesOf_19 : decode cX1_movesOf 19 = .ok (.iaload, 1) := by decide +kernel
theorem dX1_movesOf_20 : decode cX1_movesOf 20 = .ok (.lshl, 1) := by decide +kernel
theorem dX1_movesOf_21 : decode cX1_movesOf 21 = .ok (.lor, 1) := by decide +kernel
theorem dX1_movesOf_22 : decode cX1_movesOf 22 = .ok (.lstore_n 1, 1) := by decide +kernel
theorem dX1_movesOf_23 : decode cX1_movesOf 23 = .ok (.aload_n 0, 1) := by decide +kernel
theorem dX1_movesOf_24 : decode cX1_movesOf 24 = .ok (.getfield 84, 3) := by decide +kernel
theorem dX1_movesOf_27 : decode cX1_movesOf 27 = .ok (.iload_n 3, 1) := by decide +kernel
theorem dX1_movesOf_28 : decode cX1_movesOf 28 = .ok (.iaload, 1) := by decide +kernel
theorem dX1_movesOf_29 : decode cX1_movesOf 29 = .ok (.bipush (-9), 2) := by decide +kernel
theorem dX1_movesOf_31 : decode cX1_movesOf 31 = .ok (.if_icmp .eq 14, 3) := by decide +kernel
theorem dX1_movesOf_34 : decode cX1_movesOf 34 = .ok (.lload_n 1, 1) := by decide +kernel
theorem dX1_movesOf_35 : decode cX1_movesOf 35 = .ok (.lconst 1, 1) := by decide +kernel
theorem dX1_movesOf_36 : decode cX1_movesOf 36 = .ok (.aload_n 0, 1) := by decide +kernel
theorem dX1_movesOf_37 : decode cX1_movesOf 37 = .ok (.getfield 84, 3) := by decide +kernel
theorem dX1_movesOf_40 : decode cX1_movesOf 40 = .ok (.iload_n 3, 1) := by decide +kernel
theorem dX1_movesOf_41 : decode cX1_movesOf 41 = .ok (.iaload, 1) := by decide +kernel
theorem dX1_movesOf_42 : decode cX1_movesOf 42 = .ok (.lshl, 1) := by decide +kernel
theorem dX1_movesOf_43 : decode cX1_movesOf 43 = .ok (.lor, 1) := by decide +kernel
theorem dX1_movesOf_44 : decode cX1_movesOf 44 = .ok (.lstore_n 1, 1) := by decide +kernel
theorem dX1_movesOf_45 : decode cX1_movesOf 45 = .ok (.iinc 3 1, 3) := by decide +kernel
theorem dX1_movesOf_48 : decode cX1_movesOf 48 = .ok (.goto (-44), 3) := by decide +kernel
theorem dX1_movesOf_51 : decode cX1_movesOf 51 = .ok (.lload_n 1, 1) := by decide +kernel
theorem dX1_movesOf_52 : decode cX1_movesOf 52 = .ok (.lreturn, 1) := by decide +kernel
set_option maxRecDepth 20000 in
theorem ggX1_letRunOut_X2_placeOf : GoodIn wsX1_letRunOut wsX2_placeOf := goodIn_r _ [9, 10, 11, 33, 34] (by decide +kernel) (by decide +kernel)
set_option maxRecDepth 20000 in
theorem gX1_letRunOut_X2_placeOf : GoodIn wsX1_letRunOut (wsV RX1 87 RX2 yX2_placeOf wsX2_placeOf) := goodIn_app (goodIn_of _ (by decide +kernel)) ggX1_letRunOut_X2_placeOf
set_option maxRecDepth 20000 in
theorem ggX1_letRunOut_X2_remove : GoodIn wsX1_letRunOut wsX2_remove := goodIn_r _ [15, 10, 11, 33, 34] (by decide +kernel) (by decide +kernel)
set_option maxRecDepth 20000 in
theorem gX1_letRunOut_X2_remove : GoodIn wsX1_letRunOut (wsV RX1 91 RX2 yX2_remove wsX2_remove) := goodIn_app (goodIn_of _ (by decide +kernel)) ggX1_letRunOut_X2_remove
set_option maxRecDepth 20000 in
theorem ggX1_letRunOut_X2_insert : GoodIn wsX1_letRunOut wsX2_insert := goodIn_r _ [19, 10, 11, 33, 34] (by decide +kernel) (by decide +kernel)
set_option maxRecDepth 20000 in
theorem gX1_letRunOut_X2_insert : GoodIn wsX1_letRunOut (wsV RX1 94 RX2 yX2_insert wsX2_insert) := goodIn_app (goodIn_of _ (by decide +kernel)) ggX1_letRunOut_X2_insert
theorem dX1_letRunOut_0 : decode cX1_letRunOut 0 = .ok (.iconst 0, 1) := by decide +kernel
theorem dX1_letRunOut_1 : decode cX1_letRunOut 1 = .ok (.istore_n 3, 1) := by decide +kernel
theorem dX1_letRunOut_2 : decode cX1_letRunOut 2 = .ok (.iload_n 3, 1) := by decide +kernel
theorem dX1_letRunOut_3 : decode cX1_letRunOut 3 = .ok (.aload_n 1, 1) := by decide +kernel
theorem dX1_letRunOut_4 : decode cX1_letRunOut 4 = .ok (.getfield 46, 3) := by decide +kernel
theorem dX1_letRunOut_7 : decode cX1_letRunOut 7 = .ok (.if_icmp .ge 67, 3) := by decide +kernel
theorem dX1_letRunOut_10 : decode cX1_letRunOut 10 = .ok (.aload_n 1, 1) := by decide +kernel
theorem dX1_letRunOut_11 : decode cX1_letRunOut 11 = .ok (.getfield 84, 3) := by decide +kernel
theorem dX1_letRunOut_14 : decode cX1_letRunOut 14 = .ok (.iload_n 3, 1) := by decide +kernel
theorem dX1_letRunOut_15 : decode cX1_letRunOut 15 = .ok (.iaload, 1) := by decide +kernel
theorem dX1_letRunOut_16 : decode cX1_letRunOut 16 = .ok (.iload_n 2, 1) := by decide +kernel
theorem dX1_letRunOut_17 : decode cX1_letRunOut 17 = .ok (.if_icmp .eq 6, 3) := by decide +kernel
theorem dX1_letRunOut_20 : decode cX1_letRunOut 20 = .ok (.goto 48, 3) := by decide +kernel
theorem dX1_letRunOut_23 : decode cX1_letRunOut 23 = .ok (.aload_n 0, 1) := by decide +kernel
theorem dX1_letRunOut_24 : decode cX1_letRunOut 24 = .ok (.getfield 12, 3) := by decide +kernel
theorem dX1_letRunOut_27 : decode cX1_letRunOut 27 = .ok (.iload_n 3, 1) := by decide +kernel
theorem dX1_letRunOut_28 : decode cX1_letRunOut 28 = .ok (.invokevirtual 87, 3) := by decide +kernel
theorem dX1_letRunOut_31 : decode cX1_letRunOut 31 = .ok (.istore 4, 2) := by decide +kernel
theorem dX1_letRunOut_33 : decode cX1_letRunOut 33 = .ok (.iload 4, 2) := by decide +kernel
theorem dX1_letRunOut_35 : decode cX1_letRunOut 35 = .ok (.bipush (-9), 2) := by decide +kernel
theorem dX1_letRunOut_37 : decode cX1_letRunOut 37 = .ok (.if_icmp .ne 6, 3) := by decide +kernel
theorem dX1_letRunOut_40 : decode cX1_letRunOut 40 = .ok (.goto 28, 3) := by decide +kernel
theorem dX1_letRunOut_43 : decode cX1_letRunOut 43 = .ok (.aload_n 0, 1) := by decide +kernel
theorem dX1_letRunOut_44 : decode cX1_letRunOut 44 = .ok (.getfield 12, 3) := by decide +kernel
theorem dX1_letRunOut_47 : decode cX1_letRunOut 47 = .ok (.iload 4, 2) := by decide +kernel
theorem dX1_letRunOut_49 : decode cX1_letRunOut 49 = .ok (.invokevirtual 91, 3) := by decide +kernel
theorem dX1_letRunOut_52 : decode cX1_letRunOut 52 = .ok (.pop, 1) := by decide +kernel
theorem dX1_letRunOut_53 : decode cX1_letRunOut 53 = .ok (.aload_n 0, 1) := by decide +kernel
theorem dX1_letRunOut_54 : decode cX1_letRunOut 54 = .ok (.getfield 12, 3) := by decide +kernel
theorem dX1_letRunOut_57 : decode cX1_letRunOut 57 = .ok (.aload_n 0, 1) := by decide +kernel
theorem dX1_letRunOut_58 : decode cX1_letRunOut 58 = .ok (.getfield 12, 3) := by decide +kernel
theorem dX1_letRunOut_61 : decode cX1_letRunOut 61 = .ok (.getfield 52, 3) := by decide +kernel
theorem dX1_letRunOut_64 : decode cX1_letRunOut 64 = .ok (.iload_n 3, 1) := by decide +kernel
theorem dX1_letRunOut_65 : decode cX1_letRunOut 65 = .ok (.invokevirtual 94, 3) := by decide +kernel
theorem dX1_letRunOut_68 : decode cX1_letRunOut 68 = .ok (.iinc 3 1, 3) := by decide +kernel
theorem dX1_letRunOut_71 : decode cX1_letRunOut 71 = .ok (.goto (-69), 3) := by decide +kernel
theorem dX1_letRunOut_74 : decode cX1_letRunOut 74 = .ok (.return_, 1) := by decide +kernel
set_option maxRecDepth 20000 in
theorem ggX1_letCome_X8_hasPerson : GoodIn wsX1_letCome wsX8_hasPerson := goodIn_r _ [6] (by decide +kernel) (by decide +kernel)
set_option maxRecDepth 20000 in
theorem gX1_letCome_X8_hasPerson_n98 : GoodIn wsX1_letCome (wsX8_hasPerson) := ggX1_letCome_X8_hasPerson
set_option maxRecDepth 20000 in
theorem ggX1_letCome_X1_placeToStand : GoodIn wsX1_letCome wsX1_placeToStand := goodIn_r _ [11, 3, 12, 13, 14, 15, 16, 17, 32, 33, 34, 35, 36, 37, 38, 39, 25, 26, 27, 28, 29, 30, 31] (by decide +kernel) (by decide +kernel)
set_option maxRecDepth 20000 in
theorem gX1_letCome_X1_placeToStand : GoodIn wsX1_letCome (wsV RX1 102 RX1 yX1_placeToStand wsX1_placeToStand) := goodIn_app (goodIn_of _ (by decide +kernel)) ggX1_letCome_X1_placeToStand
set_option maxRecDepth 20000 in
theorem ggX1_letCome_X2_insert : GoodIn wsX1_letCome wsX2_insert := goodIn_r _ [22, 23, 24, 38, 39] (by decide +kernel) (by decide +kernel)
set_option maxRecDepth 20000 in
theorem gX1_letCome_X2_insert : GoodIn wsX1_letCome (wsV RX1 94 RX2 yX2_insert wsX2_insert) := goodIn_app (goodIn_of _ (by decide +kernel)) ggX1_letCome_X2_insert
theorem dX1_letCome_0 : decode cX1_letCome 0 = .ok (.iconst 0, 1) := by decide +kernel
theorem dX1_letCome_1 : decode cX1_letCome 1 = .ok (.istore 4, 2) := by decide +kernel
theorem dX1_letCome_3 : decode cX1_letCome 3 = .ok (.iload 4, 2) := by decide +kernel
theorem dX1_letCome_5 : decode cX1_letCome 5 = .ok (.aload_n 1, 1) := by decide +kernel
theorem dX1_letCome_6 : decode cX1_letCome 6 = .ok (.getfield 46, 3) := by decide +kernel
theorem dX1_letCome_9 : decode cX1_letCome 9 = .ok (.if_icmp .ge 45, 3) := by decide +kernel
theorem dX1_letCome_12 : decode cX1_letCome 12 = .ok (.aload_n 1, 1) := by decide +kernel
theorem dX1_letCome_13 : decode cX1_letCome 13 = .ok (.getfield 49, 3) := by decide +kernel
theorem dX1_letCome_16 : decode cX1_letCome 16 = .ok (.iload 4, 2) := by decide +kernel
theorem dX1_letCome_18 : decode cX1_letCome 18 = .ok (.iaload, 1) := by decide +kernel
theorem dX1_letCome_19 : decode cX1_letCome 19 = .ok (.iload_n 3, 1) := by decide +kernel
theorem dX1_letCome_20 : decode cX1_letCome 20 = .ok (.if_icmp .ne 28, 3) := by decide +kernel
theorem dX1_letCome_23 : decode cX1_letCome 23 = .ok (.iload_n 2, 1) := by decide +kernel
theorem dX1_letCome_24 : decode cX1_letCome 24 = .ok (.iload 4, 2) := by decide +kernel
theorem dX1_letCome_26 : decode cX1_letCome 26 = .ok (.invokestatic 98, 3) := by decide +kernel
theorem dX1_letCome_29 : decode cX1_letCome 29 = .ok (.ifCond .eq 19, 3) := by decide +kernel
theorem dX1_letCome_32 : decode cX1_letCome 32 = .ok (.aload_n 0, 1) := by decide +kernel
theorem dX1_letCome_33 : decode cX1_letCome 33 = .ok (.getfield 12, 3) := by decide +kernel
theorem dX1_letCome_36 : decode cX1_letCome 36 = .ok (.aload_n 0, 1) := by decide +kernel
theorem dX1_letCome_37 : decode cX1_letCome 37 = .ok (.aload_n 1, 1) := by decide +kernel
theorem dX1_letCome_38 : decode cX1_letCome 38 = .ok (.iload 4, 2) := by decide +kernel
theorem dX1_letCome_40 : decode cX1_letCome 40 = .ok (.invokevirtual 102, 3) := by decide +kernel
theorem dX1_letCome_43 : decode cX1_letCome 43 = .ok (.iload 4, 2) := by decide +kernel
theorem dX1_letCome_45 : decode cX1_letCome 45 = .ok (.invokevirtual 94, 3) := by decide +kernel
theorem dX1_letCome_48 : decode cX1_letCome 48 = .ok (.iinc 4 1, 3) := by decide +kernel
theorem dX1_letCome_51 : decode cX1_letCome 51 = .ok (.goto (-48), 3) := by decide +kernel
theorem dX1_letCome_54 : decode cX1_letCome 54 = .ok (.return_, 1) := by decide +kernel
theorem dX1_placeToStand_0 : decode cX1_placeToStand 0 = .ok (.aload_n 0, 1) := by decide +kernel
theorem dX1_placeToStand_1 : decode cX1_placeToStand 1 = .ok (.getfield 12, 3) := by decide +kernel
theorem dX1_placeToStand_4 : decode cX1_placeToStand 4 = .ok (.getfield 52, 3) := by decide +kernel
theorem dX1_placeToStand_7 : decode cX1_placeToStand 7 = .ok (.istore_n 3, 1) := by decide +kernel
theorem dX1_placeToStand_8 : decode cX1_placeToStand 8 = .ok (.aload_n 1, 1) := by decide +kernel
theorem dX1_placeToStand_9 : decode cX1_placeToStand 9 = .ok (.getfield 106, 3) := by decide +kernel
theorem dX1_placeToStand_12 : decode cX1_placeToStand 12 = .ok (.iload_n 2, 1) := by decide +kernel
theorem dX1_placeToStand_13 : decode cX1_placeToStand 13 = .ok (.iaload, 1) := by decide +kernel
theorem dX1_placeToStand_14 : decode cX1_placeToStand 14 = .ok (.iconst 1, 1) := by decide +kernel
theorem dX1_placeToStand_15 : decode cX1_placeToStand 15 = .ok (.if_icmp .ne 11, 3) := by decide +kernel
theorem dX1_placeToStand_18 : decode cX1_placeToStand 18 = .ok (.iload_n 3, 1) := by decide +kernel
theorem dX1_placeToStand_19 : decode cX1_placeToStand 19 = .ok (.iconst 1, 1) := by decide +kernel
theorem dX1_placeToStand_20 : decode cX1_placeToStand 20 = .ok (.isub, 1) := by decide +kernel
theorem dX1_placeToStand_21 : decode cX1_placeToStand 21 = .ok (.iconst 0, 1) := by decide +kernel
theorem dX1_placeToStand_22 : decode cX1_placeToStand 22 = .ok (.invokestatic 109, 3) := by decide +kernel
theorem dX1_placeToStand_25 : decode cX1_placeToStand 25 = .ok (.ireturn, 1) := by decide +kernel
theorem dX1_placeToStand_26 : decode cX1_placeToStand 26 = .ok (.aload_n 1, 1) := by decide +kernel
theorem dX1_placeToStand_27 : decode cX1_placeToStand 27 = .ok (.getfield 106, 3) := by decide +kernel
theorem dX1_placeToStand_30 : decode cX1_placeToStand 30 = .ok (.iload_n 2, 1) := by decide +kernel
theorem dX1_placeToStand_31 : decode cX1_placeToStand 31 = .ok (.iaload, 1) := by decide +kernel
theorem dX1_placeToStand_32 : decode cX1_placeToStand 32 = .ok (.iconst 2, 1) := by decide +kernel
theorem dX1_placeToStand_33 : decode cX1_placeToStand 33 = .ok (.if_icmp .eq 5, 3) := by decide +kernel
theorem dX1_placeToStand_36 : decode cX1_placeToStand 36 = .ok (.iload_n 3, 1) := by decide +kernel
theorem dX1_placeToStand_37 : decode cX1_placeToStand 37 = .ok (.ireturn, 1) := by decide +kernel
theorem dX1_placeToStand_38 : decode cX1_placeToStand 38 = .ok (.iconst 0, 1) := by decide +kernel
theorem dX1_placeToStand_39 : decode cX1_placeToStand 39 = .ok (.istore 4, 2) := by decide +kernel
theorem dX1_placeToStand_41 : decode cX1_placeToStand 41 = .ok (.iload 4, 2) := by decide +kernel
theorem dX1_placeToStand_43 : decode cX1_placeToStand 43 = .ok (.iload_n 3, 1) := by decide +kernel
theorem dX1_placeToStand_44 : decode cX1_placeToStand 44 = .ok (.if_icmp .ge 33, 3) := by decide +kernel
theorem dX1_placeToStand_47 : decode cX1_placeToStand 47 = .ok (.aload_n 1, 1) := by decide +kernel
theorem dX1_placeToStand_48 : decode cX1_placeToStand 48 = .ok (.getfield 106, 3) := by decide +kernel
theorem dX1_placeToStand_51 : decode cX1_placeToStand 51 = .ok (.aload_n 0, 1) := by decide +kernel
theorem dX1_placeToStand_52 : decode cX1_placeToStand 52 = .ok (.getfield 12, 3) := by decide +kernel
theorem dX1_placeToStand_55 : decode cX1_placeToStand 55 = .ok (.getfield 115, 3) := by decide +kernel
theorem dX1_placeToStand_58 : decode cX1_placeToStand 58 = .ok (.iload 4, 2) := by decide +kernel
theorem dX1_placeToStand_60 : decode cX1_placeToStand 60 = .ok (.iaload, 1) := by decide +kernel
theorem dX1_placeToStand_61 : decode cX1_placeToStand 61 = .ok (.iaload, 1) := by decide +kernel
theorem dX1_placeToStand_62 : decode cX1_placeToStand 62 = .ok (.iconst 1, 1) := by decide +kernel
theorem dX1_placeToStand_63 : decode cX1_placeToStand 63 = .ok (.if_icmp .lt 8, 3) := by decide +kernel
theorem dX1_placeToStand_66 : decode cX1_placeToStand 66 = .ok (.iload 4, 2) := by decide +kernel
theorem dX1_placeToStand_68 : decode cX1_placeToStand 68 = .ok (.iconst 1, 1) := by decide +kernel
theorem dX1_placeToStand_69 : decode cX1_placeToStand 69 = .ok (.iadd, 1) := by decide +kernel
theorem dX1_placeToStand_70 : decode cX1_placeToStand 70 = .ok (.ireturn, 1) := by decide +kernel
theorem dX1_placeToStand_71 : decode cX1_placeToStand 71 = .ok (.iinc 4 1, 3) := by decide +kernel
theorem dX1_placeToStand_74 : decode cX1_placeToStand 74 = .ok (.goto (-33), 3) := by decide +kernel
theorem dX1_placeToStand_77 : decode cX1_placeToStand 77 = .ok (.iload_n 3, 1) := by decide +kernel
theorem dX1_placeToStand_78 : decode cX1_placeToStand 78 = .ok (.ireturn, 1) := by decide +kernel
set_option maxRecDepth 20000 in
theorem ggX1_serveFirst_X2_remove : GoodIn wsX1_serveFirst wsX2_remove := goodIn_r _ [11, 12, 13, 27, 28] (by decide +kernel) (by decide +kernel)
set_option maxRecDepth 20000 in
theorem gX1_serveFirst_X2_remove : GoodIn wsX1_serveFirst (wsV RX1 91 RX2 yX2_remove wsX2_remove) := goodIn_app (goodIn_of _ (by decide +kernel)) ggX1_serveFirst_X2_remove
theorem dX1_serveFirst_0 : decode cX1_serveFirst 0 = .ok (.aload_n 0, 1) := by decide +kernel
theorem dX1_serveFirst_1 : decode cX1_serveFirst 1 = .ok (.getfield 12, 3) := by decide +kernel
theorem dX1_serveFirst_4 : decode cX1_serveFirst 4 = .ok (.iconst 0, 1) := by decide +kernel
theorem dX1_serveFirst_5 : decode cX1_serveFirst 5 = .ok (.invokevirtual 91, 3) := by decide +kernel
theorem dX1_serveFirst_8 : decode cX1_serveFirst 8 = .ok (.istore_n 3, 1) := by decide +kernel
theorem dX1_serveFirst_9 : decode cX1_serveFirst 9 = .ok (.iload_n 3, 1) := by decide +kernel
theorem dX1_serveFirst_10 : decode cX1_serveFirst 10 = .ok (.bipush (-9), 2) := by decide +kernel
theorem dX1_serveFirst_12 : decode cX1_serveFirst 12 = .ok (.if_icmp .ne 4, 3) := by decide +kernel
theorem dX1_serveFirst_15 : decode cX1_serveFirst 15 = .ok (.return_, 1) := by decide +kernel
theorem dX1_serveFirst_16 : decode cX1_serveFirst 16 = .ok (.aload_n 0, 1) := by decide +kernel
theorem dX1_serveFirst_17 : decode cX1_serveFirst 17 = .ok (.iload_n 3, 1) := by decide +kernel
theorem dX1_serveFirst_18 : decode cX1_serveFirst 18 = .ok (.putfield 22, 3) := by decide +kernel
theorem dX1_serveFirst_21 : decode cX1_serveFirst 21 = .ok (.aload_n 0, 1) := by decide +kernel
theorem dX1_serveFirst_22 : decode cX1_serveFirst 22 = .ok (.getfield 18, 3) := by decide +kernel
theorem dX1_serveFirst_25 : decode cX1_serveFirst 25 = .ok (.iload_n 3, 1) := by decide +kernel
theorem dX1_serveFirst_26 : decode cX1_serveFirst 26 = .ok (.iload_n 2, 1) := by decide +kernel
theorem dX1_serveFirst_27 : decode cX1_serveFirst 27 = .ok (.iastore, 1) := by decide +kernel
theorem dX1_serveFirst_28 : decode cX1_serveFirst 28 = .ok (.aload_n 0, 1) := by decide +kernel
theorem dX1_serveFirst_29 : decode cX1_serveFirst 29 = .ok (.iload_n 2, 1) := by decide +kernel
theorem dX1_serveFirst_30 : decode cX1_serveFirst 30 = .ok (.aload_n 1, 1) := by decide +kernel
theorem dX1_serveFirst_31 : decode cX1_serveFirst 31 = .ok (.getfield 118, 3) := by decide +kernel
theorem dX1_serveFirst_34 : decode cX1_serveFirst 34 = .ok (.iload_n 3, 1) := by decide +kernel
theorem dX1_serveFirst_35 : decode cX1_serveFirst 35 = .ok (.iaload, 1) := by decide +kernel
theorem dX1_serveFirst_36 : decode cX1_serveFirst 36 = .ok (.iadd, 1) := by decide +kernel
theorem dX1_serveFirst_37 : decode cX1_serveFirst 37 = .ok (.putfield 33, 3) := by decide +kernel
theorem dX1_serveFirst_40 : decode cX1_serveFirst 40 = .ok (.aload_n 0, 1) := by decide +kernel
theorem dX1_serveFirst_41 : decode cX1_serveFirst 41 = .ok (.dup, 1) := by decide +kernel
theorem dX1_serveFirst_42 : decode cX1_serveFirst 42 = .ok (.getfield 26, 3) := by decide +kernel
theorem dX1_serveFirst_45 : decode cX1_serveFirst 45 = .ok (.iconst 1, 1) := by decide +kernel
theorem dX1_serveFirst_46 : decode cX1_serveFirst 46 = .ok (.iload_n 3, 1) := by decide +kernel
theorem dX1_serveFirst_47 : decode cX1_serveFirst 47 = .ok (.ishl, 1) := by decide +kernel
theorem dX1_serveFirst_48 : decode cX1_serveFirst 48 = .ok (.iconst (-1), 1) := by decide +kernel
theorem dX1_serveFirst_49 : decode cX1_serveFirst 49 = .ok (.ixor, 1) := by decide +kernel
theorem dX1_serveFirst_50 : decode cX1_serveFirst 50 = .ok (.iand, 1) := by decide +kernel
theorem dX1_serveFirst_51 : decode cX1_serveFirst 51 = .ok (.putfield 26, 3) := by decide +kernel
theorem dX1_serveFirst_54 : decode cX1_serveFirst 54 = .ok (.return_, 1) := by decide +kernel
theorem dX2_init_0 : decode cX2_init 0 = .ok (.aload_n 0, 1) := by decide +kernel
theorem dX2_init_1 : decode cX2_init 1 = .ok (.invokespecial 3, 3) := by decide +kernel
theorem dX2_init_4 : decode cX2_init 4 = .ok (.aload_n 0, 1) := by decide +kernel
theorem dX2_init_5 : decode cX2_init 5 = .ok (.bipush 7, 2) := by decide +kernel
theorem dX2_init_7 : decode cX2_init 7 = .ok (.newarray .int, 2) := by decide +kernel
theorem dX2_init_9 : decode cX2_init 9 = .ok (.putfield 9, 3) := by decide +kernel
theorem dX2_init_12 : decode cX2_init 12 = .ok (.aload_n 0, 1) := by decide +kernel
theorem dX2_init_13 : decode cX2_init 13 = .ok (.iconst 0, 1) := by decide +kernel
theorem dX2_init_14 : decode cX2_init 14 = .ok (.putfield 15, 3) := by decide +kernel
theorem dX2_init_17 : decode cX2_init 17 = .ok (.return_, 1) := by decide +kernel
theorem dX2_at_0 : decode cX2_at 0 = .ok (.iload_n 1, 1) := by decide +kernel
theorem dX2_at_1 : decode cX2_at 1 = .ok (.ifCond .lt 20, 3) := by decide +kernel
theorem dX2_at_4 : decode cX2_at 4 = .ok (.iload_n 1, 1) := by decide +kernel
theorem dX2_at_5 : decode cX2_at 5 = .ok (.aload_n 0, 1) := by decide +kernel
theorem dX2_at_6 : decode cX2_at 6 = .ok (.getfield 15, 3) := by decide +kernel
theorem dX2_at_9 : decode cX2_at 9 = .ok (.if_icmp .ge 12, 3) := by decide +kernel
theorem dX2_at_12 : decode cX2_at 12 = .ok (.aload_n 0, 1) := by decide +kernel
theorem dX2_at_13 : decode cX2_at 13 = .ok (.getfield 9, 3) := by decide +kernel
theorem dX2_at_16 : decode cX2_at 16 = .ok (.iload_n 1, 1) := by decide +kernel
theorem dX2_at_17 : decode cX2_at 17 = .ok (.iaload, 1) := by decide +kernel
theorem dX2_at_18 : decode cX2_at 18 = .ok (.goto 5, 3) := by decide +kernel
theorem dX2_at_21 : decode cX2_at 21 = .ok (.bipush (-9), 2) := by decide +kernel
theorem dX2_at_23 : decode cX2_at 23 = .ok (.ireturn, 1) := by decide +kernel
theorem dX2_placeOf_0 : decode cX2_placeOf 0 = .ok (.iconst 0, 1) := by decide +kernel
theorem dX2_placeOf_1 : decode cX2_placeOf 1 = .ok (.istore_n 2, 1) := by decide +kernel
theorem dX2_placeOf_2 : decode cX2_placeOf 2 = .ok (.iload_n 2, 1) := by decide +kernel
theorem dX2_placeOf_3 : decode cX2_placeOf 3 = .ok (.aload_n 0, 1) := by decide +kernel
theorem dX2_placeOf_4 : decode cX2_placeOf 4 = .ok (.getfield 15, 3) := by decide +kernel
theorem dX2_placeOf_7 : decode cX2_placeOf 7 = .ok (.if_icmp .ge 21, 3) := by decide +kernel
theorem dX2_placeOf_10 : decode cX2_placeOf 10 = .ok (.aload_n 0, 1) := by decide +kernel
theorem dX2_placeOf_11 : decode cX2_placeOf 11 = .ok (.getfield 9, 3) := by decide +kernel
theorem dX2_placeOf_14 : decode cX2_placeOf 14 = .ok (.iload_n 2, 1) := by decide +kernel
theorem dX2_placeOf_15 : decode cX2_placeOf 15 = .ok (.iaload, 1) := by decide +kernel
theorem dX2_placeOf_16 : decode cX2_placeOf 16 = .ok (.iload_n 1, 1) := by decide +kernel
theorem dX2_placeOf_17 : decode cX2_placeOf 17 = .ok (.if_icmp .ne 5, 3) := by decide +kernel
theorem dX2_placeOf_20 : decode cX2_placeOf 20 = .ok (.iload_n 2, 1) := by decide +kernel
theorem dX2_placeOf_21 : decode cX2_placeOf 21 = .ok (.ireturn, 1) := by decide +kernel
theorem dX2_placeOf_22 : decode cX2_placeOf 22 = .ok (.iinc 2 1, 3) := by decide +kernel
theorem dX2_placeOf_25 : decode cX2_placeOf 25 = .ok (.goto (-23), 3) := by decide +kernel
theorem dX2_placeOf_28 : decode cX2_placeOf 28 = .ok (.bipush (-9), 2) := by decide +kernel
theorem dX2_placeOf_30 : decode cX2_placeOf 30 = .ok (.ireturn, 1) := by decide +kernel
theorem dX2_insert_0 : decode cX2_insert 0 = .ok (.iload_n 1, 1) := by decide +kernel
theorem dX2_insert_1 : decode cX2_insert 1 = .ok (.ifCond .lt 20, 3) := by decide +kernel
theorem dX2_insert_4 : decode cX2_insert 4 = .ok (.iload_n 1, 1) := by decide +kernel
theorem dX2_insert_5 : decode cX2_insert 5 = .ok (.aload_n 0, 1) := by decide +kernel
theorem dX2_insert_6 : decode cX2_insert 6 = .ok (.getfield 15, 3) := by decide +kernel
theorem dX2_insert_9 : decode cX2_insert 9 = .ok (.if_icmp .gt 12, 3) := by decide +kernel
theorem dX2_insert_12 : decode cX2_insert 12 = .ok (.aload_n 0, 1) := by decide +kernel
theorem dX2_insert_13 : decode cX2_insert 13 = .ok (.getfield 15, 3) := by decide +kernel
theorem dX2_insert_16 : decode cX2_insert 16 = .ok (.bipush 7, 2) := by decide +kernel
theorem dX2_insert_18 : decode cX2_insert 18 = .ok (.if_icmp .lt 4, 3) := by decide +kernel
theorem dX2_insert_21 : decode cX2_insert 21 = .ok (.return_, 1) := by decide +kernel
theorem dX2_insert_22 : decode cX2_insert 22 = .ok (.aload_n 0, 1) := by decide +kernel
theorem dX2_insert_23 : decode cX2_insert 23 = .ok (.getfield 15, 3) := by decide +kernel
theorem dX2_insert_26 : decode cX2_insert 26 = .ok (.istore_n 3, 1) := by decide +kernel
theorem dX2_insert_27 : decode cX2_insert 27 = .ok (.iload_n 3, 1) := by decide +kernel
theorem dX2_insert_28 : decode cX2_insert 28 = .ok (.iload_n 1, 1) := by decide +kernel
theorem dX2_insert_29 : decode cX2_insert 29 = .ok (.if_icmp .le 23, 3) := by decide +kernel
theorem dX2_insert_32 : decode cX2_insert 32 = .ok (.aload_n 0, 1) := by decide +kernel
theorem dX2_insert_33 : decode cX2_insert 33 = .ok (.getfield 9, 3) := by decide +kernel
theorem dX2_insert_36 : decode cX2_insert 36 = .ok (.iload_n 3, 1) := by decide +kernel
theorem dX2_insert_37 : decode cX2_insert 37 = .ok (.aload_n 0, 1) := by decide +kernel
theorem dX2_insert_38 : decode cX2_insert 38 = .ok (.getfield 9, 3) := by decide +kernel
theorem dX2_insert_41 : decode cX2_insert 41 = .ok (.iload_n 3, 1) := by decide +kernel
theorem dX2_insert_42 : decode cX2_insert 42 = .ok (.iconst 1, 1) := by decide +kernel
theorem dX2_insert_43 : decode cX2_insert 43 = .ok (.isub, 1) := by decide +kernel
theorem dX2_insert_44 : decode cX2_insert 44 = .ok (.iaload, 1) := by decide +kernel
theorem dX2_insert_45 : decode cX2_insert 45 = .ok (.iastore, 1) := by decide +kernel
theorem dX2_insert_46 : decode cX2_insert 46 = .ok (.iinc 3 (-1), 3) := by decide +kernel
theorem dX2_insert_49 : decode cX2_insert 49 = .ok (.goto (-22), 3) := by decide +kernel
theorem dX2_insert_52 : decode cX2_insert 52 = .ok (.aload_n 0, 1) := by decide +kernel
theorem dX2_insert_53 : decode cX2_insert 53 = .ok (.getfield 9, 3) := by decide +kernel
theorem dX2_insert_56 : decode cX2_insert 56 = .ok (.iload_n 1, 1) := by decide +kernel
theorem dX2_insert_57 : decode cX2_insert 57 = .ok (.iload_n 2, 1) := by decide +kernel
theorem dX2_insert_58 : decode cX2_insert 58 = .ok (.iastore, 1) := by decide +kernel
theorem dX2_insert_59 : decode cX2_insert 59 = .ok (.aload_n 0, 1) := by decide +kernel
theorem dX2_insert_60 : decode cX2_insert 60 = .ok (.dup, 1) := by decide +kernel
theorem dX2_insert_61 : decode cX2_insert 61 = .ok (.getfield 15, 3) := by decide +kernel
theorem dX2_insert_64 : decode cX2_insert 64 = .ok (.iconst 1, 1) := by decide +kernel
theorem dX2_insert_65 : decode cX2_insert 65 = .ok (.iadd, 1) := by decide +kernel
theorem dX2_insert_66 : decode cX2_insert 66 = .ok (.putfield 15, 3) := by decide +kernel
theorem dX2_insert_69 : decode cX2_insert 69 = .ok (.return_, 1) := by decide +kernel
theorem dX2_remove_0 : decode cX2_remove 0 = .ok (.iload_n 1, 1) := by decide +kernel
theorem dX2_remove_1 : decode cX2_remove 1 = .ok (.ifCond .lt 11, 3) := by decide +kernel
theorem dX2_remove_4 : decode cX2_remove 4 = .ok (.iload_n 1, 1) := by decide +kernel
theorem dX2_remove_5 : decode cX2_remove 5 = .ok (.aload_n 0, 1) := by decide +kernel
theorem dX2_remove_6 : decode cX2_remove 6 = .ok (.getfield 15, 3) := by decide +kernel
theorem dX2_remove_9 : decode cX2_remove 9 = .ok (.if_icmp .lt 6, 3) := by decide +kernel
theorem dX2_remove_12 : decode cX2_remove 12 = .ok (.bipush (-9), 2) := by decide +kernel
theorem dX2_remove_14 : decode cX2_remove 14 = .ok (.ireturn, 1) := by decide +kernel
theorem dX2_remove_15 : decode cX2_remove 15 = .ok (.aload_n 0, 1) := by decide +kernel
theorem dX2_remove_16 : decode cX2_remove 16 = .ok (.getfield 9, 3) := by decide +kernel
theorem dX2_remove_19 : decode cX2_remove 19 = .ok (.iload_n 1, 1) := by decide +kernel
theorem dX2_remove_20 : decode cX2_remove 20 = .ok (.iaload, 1) := by decide +kernel
theorem dX2_remove_21 : decode cX2_remove 21 = .ok (.istore_n 2, 1) := by decide +kernel
theorem dX2_remove_22 : decode cX2_remove 22 = .ok (.aload_n 0, 1) := by decide +kernel
theorem dX2_remove_23 : decode cX2_remove 23 = .ok (.dup, 1) := by decide +kernel
theorem dX2_remove_24 : decode cX2_remove 24 = .ok (.getfield 15, 3) := by decide +kernel
theorem dX2_remove_27 : decode cX2_remove 27 = .ok (.iconst 1, 1) := by decide +kernel
theorem dX2_remove_28 : decode cX2_remove 28 = .ok (.isub, 1) := by decide +kernel
theorem dX2_remove_29 : decode cX2_remove 29 = .ok (.putfield 15, 3) := by decide +kernel
theorem dX2_remove_32 : decode cX2_remove 32 = .ok (.iload_n 1, 1) := by decide +kernel
theorem dX2_remove_33 : decode cX2_remove 33 = .ok (.istore_n 3, 1) := by decide +kernel
theorem dX2_remove_34 : decode cX2_remove 34 = .ok (.iload_n 3, 1) := by decide +kernel
theorem dX2_remove_35 : decode cX2_remove 35 = .ok (.aload_n 0, 1) := by decide +kernel
theorem dX2_remove_36 : decode cX2_remove 36 = .ok (.getfield 15, 3) := by decide +kernel
theorem dX2_remove_39 : decode cX2_remove 39 = .ok (.if_icmp .ge 23, 3) := by decide +kernel
theorem dX2_remove_42 : decode cX2_remove 42 = .ok (.aload_n 0, 1) := by decide +kernel
theorem dX2_remove_43 : decode cX2_remove 43 = .ok (.getfield 9, 3) := by decide +kernel
theorem dX2_remove_46 : decode cX2_remove 46 = .ok (.iload_n 3, 1) := by decide +kernel
theorem dX2_remove_47 : decode cX2_remove 47 = .ok (.aload_n 0, 1) := by decide +kernel
theorem dX2_remove_48 : decode cX2_remove 48 = .ok (.getfield 9, 3) := by decide +kernel
theorem dX2_remove_51 : decode cX2_remove 51 = .ok (.iload_n 3, 1) := by decide +kernel
theorem dX2_remove_52 : decode cX2_remove 52 = .ok (.iconst 1, 1) := by decide +kernel
theorem dX2_remove_53 : decode cX2_remove 53 = .ok (.iadd, 1) := by decide +kernel
theorem dX2_remove_54 : decode cX2_remove 54 = .ok (.iaload, 1) := by decide +kernel
theorem dX2_remove_55 : decode cX2_remove 55 = .ok (.iastore, 1) := by decide +kernel
theorem dX2_remove_56 : decode cX2_remove 56 = .ok (.iinc 3 1, 3) := by decide +kernel
theorem dX2_remove_59 : decode cX2_remove 59 = .ok (.goto (-25), 3) := by decide +kernel
theorem dX2_remove_62 : decode cX2_remove 62 = .ok (.iload_n 2, 1) := by decide +kernel
theorem dX2_remove_63 : decode cX2_remove 63 = .ok (.ireturn, 1) := by decide +kernel
set_option maxRecDepth 20000 in
theorem ggX2_turn_X2_remove : GoodIn wsX2_turn wsX2_remove := goodIn_r _ [6, 1, 7, 16, 17] (by decide +kernel) (by decide +kernel)
set_option maxRecDepth 20000 in
theorem gX2_turn_X2_remove : GoodIn wsX2_turn (wsV RX2 19 RX2 yX2_remove wsX2_remove) := goodIn_app (goodIn_of _ (by decide +kernel)) ggX2_turn_X2_remove
set_option maxRecDepth 20000 in
theorem ggX2_turn_X2_insert : GoodIn wsX2_turn wsX2_insert := goodIn_r _ [11, 1, 7, 16, 17] (by decide +kernel) (by decide +kernel)
set_option maxRecDepth 20000 in
theorem gX2_turn_X2_insert : GoodIn wsX2_turn (wsV RX2 23 RX2 yX2_insert wsX2_insert) := goodIn_app (goodIn_of _ (by decide +kernel)) ggX2_turn_X2_insert
set_option maxRecDepth 20000 in
theorem ggX2_turn_X2_reverse : GoodIn wsX2_turn wsX2_reverse := goodIn_r _ [15, 7, 16, 17] (by decide +kernel) (by decide +kernel)
set_option maxRecDepth 20000 in
theorem gX2_turn_X2_reverse : GoodIn wsX2_turn (wsV RX2 27 RX2 yX2_reverse wsX2_reverse) := goodIn_app (goodIn_of _ (by decide +kernel)) ggX2_turn_X2_reverse
theorem dX2_turn_0 : decode cX2_turn 0 = .ok (.aload_n 0, 1) := by decide +kernel
theorem dX2_turn_1 : decode cX2_turn 1 = .ok (.getfield 15, 3) := by decide +kernel
theorem dX2_turn_4 : decode cX2_turn 4 = .ok (.iconst 2, 1) := by decide +kernel
theorem dX2_turn_5 : decode cX2_turn 5 = .ok (.if_icmp .ge 4, 3) := by decide +kernel
theorem dX2_turn_8 : decode cX2_turn 8 = .ok (.return_, 1) := by decide +kernel
theorem dX2_turn_9 : decode cX2_turn 9 = .ok (.iload_n 1, 1) := by decide +kernel
theorem dX2_turn_10 : decode cX2_turn 10 = .ok (.iconst 2, 1) := by decide +kernel
theorem dX2_turn_11 : decode cX2_turn 11 = .ok (.if_icmp .ne 21, 3) := by decide +kernel
theorem dX2_turn_14 : decode cX2_turn 14 = .ok (.aload_n 0, 1) := by decide +kernel
theorem dX2_turn_15 : decode cX2_turn 15 = .ok (.iconst 0, 1) := by decide +kernel
theorem dX2_turn_16 : decode cX2_turn 16 = .ok (.aload_n 0, 1) := by decide +kernel
theorem dX2_turn_17 : decode cX2_turn 17 = .ok (.aload_n 0, 1) := by decide +kernel
theorem dX2_turn_18 : decode cX2_turn 18 = .ok (.getfield 15, 3) := by decide +kernel
theorem dX2_turn_21 : decode cX2_turn 21 = .ok (.iconst 1, 1) := by decide +kernel
theorem dX2_turn_22 : decode cX2_turn 22 = .ok (.isub, 1) := by decide +kernel
theorem dX2_turn_23 : decode cX2_turn 23 = .ok (.invokevirtual 19, 3) := by decide +kernel
theorem dX2_turn_26 : decode cX2_turn 26 = .ok (.invokevirtual 23, 3) := by decide +kernel
theorem dX2_turn_29 : decode cX2_turn 29 = .ok (.goto 25, 3) := by decide +kernel
theorem dX2_turn_32 : decode cX2_turn 32 = .ok (.aload_n 0, 1) := by decide +kernel
theorem dX2_turn_33 : decode cX2_turn 33 = .ok (.iload_n 1, 1) := by decide +kernel
theorem dX2_turn_34 : decode cX2_turn 34 = .ok (.iconst 1, 1) := by decide +kernel
theorem dX2_turn_35 : decode cX2_turn 35 = .ok (.if_icmp .ne 12, 3) := by decide +kernel
theorem dX2_turn_38 : decode cX2_turn 38 = .ok (.aload_n 0, 1) := by decide +kernel
theorem dX2_turn_39 : decode cX2_turn 39 = .ok (.getfield 15, 3) := by decide +kernel
theorem dX2_turn_42 : decode cX2_turn 42 = .ok (.iconst 2, 1) := by decide +kernel
theorem dX2_turn_43 : decode cX2_turn 43 = .ok (.idiv, 1) := by decide +kernel
theorem dX2_turn_44 : decode cX2_turn 44 = .ok (.goto 7, 3) := by decide +kernel
theorem dX2_turn_47 : decode cX2_turn 47 = .ok (.aload_n 0, 1) := by decide +kernel
theorem dX2_turn_48 : decode cX2_turn 48 = .ok (.getfield 15, 3) := by decide +kernel
theorem dX2_turn_51 : decode cX2_turn 51 = .ok (.invokevirtual 27, 3) := by decide +kernel
theorem dX2_turn_54 : decode cX2_turn 54 = .ok (.return_, 1) := by decide +kernel
theorem dX2_reverse_0 : decode cX2_reverse 0 = .ok (.iconst 0, 1) := by decide +kernel
theorem dX2_reverse_1 : decode cX2_reverse 1 = .ok (.istore_n 2, 1) := by decide +kernel
theorem dX2_reverse_2 : decode cX2_reverse 2 = .ok (.iload_n 2, 1) := by decide +kernel
theorem dX2_reverse_3 : decode cX2_reverse 3 = .ok (.iload_n 1, 1) := by decide +kernel
theorem dX2_reverse_4 : decode cX2_reverse 4 = .ok (.iconst 2, 1) := by decide +kernel
theorem dX2_reverse_5 : decode cX2_reverse 5 = .ok (.idiv, 1) := by decide +kernel
theorem dX2_reverse_6 : decode cX2_reverse 6 = .ok (.if_icmp .ge 43, 3) := by decide +kernel
theorem dX2_reverse_9 : decode cX2_reverse 9 = .ok (.aload_n 0, 1) := by decide +kernel
theorem dX2_reverse_10 : decode cX2_reverse 10 = .ok (.getfield 9, 3) := by decide +kernel
theorem dX2_reverse_13 : decode cX2_reverse 13 = .ok (.iload_n 2, 1) := by decide +kernel
theorem dX2_reverse_14 : decode cX2_reverse 14 = .ok (.iaload, 1) := by decide +kernel
theorem dX2_reverse_15 : decode cX2_reverse 15 = .ok (.istore_n 3, 1) := by decide +kernel
theorem dX2_reverse_16 : decode cX2_reverse 16 = .ok (.aload_n 0, 1) := by decide +kernel
theorem dX2_reverse_17 : decode cX2_reverse 17 = .ok (.getfield 9, 3) := by decide +kernel
theorem dX2_reverse_20 : decode cX2_reverse 20 = .ok (.iload_n 2, 1) := by decide +kernel
theorem dX2_reverse_21 : decode cX2_reverse 21 = .ok (.aload_n 0, 1) := by decide +kernel
theorem dX2_reverse_22 : decode cX2_reverse 22 = .ok (.getfield 9, 3) := by decide +kernel
theorem dX2_reverse_25 : decode cX2_reverse 25 = .ok (.iload_n 1, 1) := by decide +kernel
theorem dX2_reverse_26 : decode cX2_reverse 26 = .ok (.iconst 1, 1) := by decide +kernel
theorem dX2_reverse_27 : decode cX2_reverse 27 = .ok (.isub, 1) := by decide +kernel
theorem dX2_reverse_28 : decode cX2_reverse 28 = .ok (.iload_n 2, 1) := by decide +kernel
theorem dX2_reverse_29 : decode cX2_reverse 29 = .ok (.isub, 1) := by decide +kernel
theorem dX2_reverse_30 : decode cX2_reverse 30 = .ok (.iaload, 1) := by decide +kernel
theorem dX2_reverse_31 : decode cX2_reverse 31 = .ok (.iastore, 1) := by decide +kernel
theorem dX2_reverse_32 : decode cX2_reverse 32 = .ok (.aload_n 0, 1) := by decide +kernel
theorem dX2_reverse_33 : decode cX2_reverse 33 = .ok (.getfield 9, 3) := by decide +kernel
theorem dX2_reverse_36 : decode cX2_reverse 36 = .ok (.iload_n 1, 1) := by decide +kernel
theorem dX2_reverse_37 : decode cX2_reverse 37 = .ok (.iconst 1, 1) := by decide +kernel
theorem dX2_reverse_38 : decode cX2_reverse 38 = .ok (.isub, 1) := by decide +kernel
theorem dX2_reverse_39 : decode cX2_reverse 39 = .ok (.iload_n 2, 1) := by decide +kernel
theorem dX2_reverse_40 : decode cX2_reverse 40 = .ok (.isub, 1) := by decide +kernel
theorem dX2_reverse_41 : decode cX2_reverse 41 = .ok (.iload_n 3, 1) := by decide +kernel
theorem dX2_reverse_42 : decode cX2_reverse 42 = .ok (.iastore, 1) := by decide +kernel
theorem dX2_reverse_43 : decode cX2_reverse 43 = .ok (.iinc 2 1, 3) := by decide +kernel
theorem dX2_reverse_46 : decode cX2_reverse 46 = .ok (.goto (-44), 3) := by decide +kernel
theorem dX2_reverse_49 : decode cX2_reverse 49 = .ok (.return_, 1) := by decide +kernel
theorem dX3_init_0 : decode cX3_init 0 = .ok (.aload_n 0, 1) := by decide +kernel
theorem dX3_init_1 : decode cX3_init 1 = .ok (.invokespecial 3, 3) := by decide +kernel
theorem dX3_init_4 : decode cX3_init 4 = .ok (.aload_n 0, 1) := by decide +kernel
theorem dX3_init_5 : decode cX3_init 5 = .ok (.iconst 0, 1) := by decide +kernel
theorem dX3_init_6 : decode cX3_init 6 = .ok (.putfield 9, 3) := by decide +kernel
theorem dX3_init_9 : decode cX3_init 9 = .ok (.aload_n 0, 1) := by decide +kernel
theorem dX3_init_10 : decode cX3_init 10 = .ok (.iconst 0, 1) := by decide +kernel
theorem dX3_init_11 : decode cX3_init 11 = .ok (.putfield 15, 3) := by decide +kernel
theorem dX3_init_14 : decode cX3_init 14 = .ok (.aload_n 0, 1) := by decide +kernel
theorem dX3_init_15 : decode cX3_init 15 = .ok (.lconst 0, 1) := by decide +kernel
theorem dX3_init_16 : decode cX3_init 16 = .ok (.putfield 18, 3) := by decide +kernel
theorem dX3_init_19 : decode cX3_init 19 = .ok (.aload_n 0, 1) := by decide +kernel
theorem dX3_init_20 : decode cX3_init 20 = .ok (.bipush 7, 2) := by decide +kernel
theorem dX3_init_22 : decode cX3_init 22 = .ok (.newarray .int, 2) := by decide +kernel
theorem dX3_init_24 : decode cX3_init 24 = .ok (.putfield 22, 3) := by decide +kernel
theorem dX3_init_27 : decode cX3_init 27 = .ok (.aload_n 0, 1) := by decide +kernel
theorem dX3_init_28 : decode cX3_init 28 = .ok (.bipush 7, 2) := by decide +kernel
theorem dX3_init_30 : decode cX3_init 30 = .ok (.newarray .int, 2) := by decide +kernel
theorem dX3_init_32 : decode cX3_init 32 = .ok (.putfield 26, 3) := by decide +kernel
theorem dX3_init_35 : decode cX3_init 35 = .ok (.aload_n 0, 1) := by decide +kernel
theorem dX3_init_36 : decode cX3_init 36 = .ok (.bipush 7, 2) := by decide +kernel
theorem dX3_init_38 : decode cX3_init 38 = .ok (.newarray .int, 2) := by decide +kernel
theorem dX3_init_40 : decode cX3_init 40 = .ok (.putfield 29, 3) := by decide +kernel
theorem dX3_init_43 : decode cX3_init 43 = .ok (.aload_n 0, 1) := by decide +kernel
theorem dX3_init_44 : decode cX3_init 44 = .ok (.bipush 7, 2) := by decide +kernel
theorem dX3_init_46 : decode cX3_init 46 = .ok (.newarray .int, 2) := by decide +kernel
theorem dX3_init_48 : decode cX3_init 48 = .ok (.putfield 32, 3) := by decide +kernel
theorem dX3_init_51 : decode cX3_init 51 = .ok (.return_, 1) := by decide +kernel
theorem dX3_isNone_0 : decode cX3_isNone 0 = .ok (.aload_n 0, 1) := by decide +kernel
theorem dX3_isNone_1 : decode cX3_isNone 1 = .ok (.getfield 15, 3) := by decide +kernel
theorem dX3_isNone_4 : decode cX3_isNone 4 = .ok (.ifCond .ne 7, 3) := by decide +kernel
theorem dX3_isNone_7 : decode cX3_isNone 7 = .ok (.iconst 1, 1) := by decide +kernel
theorem dX3_isNone_8 : decode cX3_isNone 8 = .ok (.goto 4, 3) := by decide +kernel
theorem dX3_isNone_11 : decode cX3_isNone 11 = .ok (.iconst 0, 1) := by decide +kernel
theorem dX3_isNone_12 : decode cX3_isNone 12 = .ok (.ireturn, 1) := by decide +kernel
theorem dX3_has_0 : decode cX3_has 0 = .ok (.iload_n 1, 1) := by decide +kernel
theorem dX3_has_1 : decode cX3_has 1 = .ok (.ifCond .lt 15, 3) := by decide +kernel
theorem dX3_has_4 : decode cX3_has 4 = .ok (.iload_n 1, 1) := by decide +kernel
theorem dX3_has_5 : decode cX3_has 5 = .ok (.aload_n 0, 1) := by decide +kernel
theorem dX3_has_6 : decode cX3_has 6 = .ok (.getfield 15, 3) := by decide +kernel
theorem dX3_has_9 : decode cX3_has 9 = .ok (.if_icmp .ge 7, 3) := by decide +kernel
theorem dX3_has_12 : decode cX3_has 12 = .ok (.iconst 1, 1) := by decide +kernel
theorem dX3_has_13 : decode cX3_has 13 = .ok (.goto 4, 3) := by decide +kernel
theorem dX3_has_16 : decode cX3_has 16 = .ok (.iconst 0, 1) := by decide +kernel
