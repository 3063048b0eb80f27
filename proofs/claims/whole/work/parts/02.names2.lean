theorem dX3_has_17 : decode cX3_has 17 = .ok (.ireturn, 1) := by decide +kernel
theorem dX3_everybody_0 : decode cX3_everybody 0 = .ok (.iconst 1, 1) := by decide +kernel
theorem dX3_everybody_1 : decode cX3_everybody 1 = .ok (.aload_n 0, 1) := by decide +kernel
theorem dX3_everybody_2 : decode cX3_everybody 2 = .ok (.getfield 15, 3) := by decide +kernel
theorem dX3_everybody_5 : decode cX3_everybody 5 = .ok (.ishl, 1) := by decide +kernel
theorem dX3_everybody_6 : decode cX3_everybody 6 = .ok (.iconst 1, 1) := by decide +kernel
theorem dX3_everybody_7 : decode cX3_everybody 7 = .ok (.isub, 1) := by decide +kernel
theorem dX3_everybody_8 : decode cX3_everybody 8 = .ok (.ireturn, 1) := by decide +kernel
theorem dX3_takeFrom_0 : decode cX3_takeFrom 0 = .ok (.aload_n 0, 1) := by decide +kernel
theorem dX3_takeFrom_1 : decode cX3_takeFrom 1 = .ok (.aload_n 1, 1) := by decide +kernel
theorem dX3_takeFrom_2 : decode cX3_takeFrom 2 = .ok (.getfield 9, 3) := by decide +kernel
theorem dX3_takeFrom_5 : decode cX3_takeFrom 5 = .ok (.putfield 9, 3) := by decide +kernel
theorem dX3_takeFrom_8 : decode cX3_takeFrom 8 = .ok (.aload_n 0, 1) := by decide +kernel
theorem dX3_takeFrom_9 : decode cX3_takeFrom 9 = .ok (.aload_n 1, 1) := by decide +kernel
theorem dX3_takeFrom_10 : decode cX3_takeFrom 10 = .ok (.getfield 15, 3) := by decide +kernel
theorem dX3_takeFrom_13 : decode cX3_takeFrom 13 = .ok (.putfield 15, 3) := by decide +kernel
theorem dX3_takeFrom_16 : decode cX3_takeFrom 16 = .ok (.aload_n 0, 1) := by decide +kernel
theorem dX3_takeFrom_17 : decode cX3_takeFrom 17 = .ok (.aload_n 1, 1) := by decide +kernel
theorem dX3_takeFrom_18 : decode cX3_takeFrom 18 = .ok (.getfield 18, 3) := by decide +kernel
theorem dX3_takeFrom_21 : decode cX3_takeFrom 21 = .ok (.putfield 18, 3) := by decide +kernel
theorem dX3_takeFrom_24 : decode cX3_takeFrom 24 = .ok (.iconst 0, 1) := by decide +kernel
theorem dX3_takeFrom_25 : decode cX3_takeFrom 25 = .ok (.istore_n 2, 1) := by decide +kernel
theorem dX3_takeFrom_26 : decode cX3_takeFrom 26 = .ok (.iload_n 2, 1) := by decide +kernel
theorem dX3_takeFrom_27 : decode cX3_takeFrom 27 = .ok (.bipush 7, 2) := by decide +kernel
theorem dX3_takeFrom_29 : decode cX3_takeFrom 29 = .ok (.if_icmp .ge 57, 3) := by decide +kernel
theorem dX3_takeFrom_32 : decode cX3_takeFrom 32 = .ok (.aload_n 0, 1) := by decide +kernel
theorem dX3_takeFrom_33 : decode cX3_takeFrom 33 = .ok (.getfield 22, 3) := by decide +kernel
theorem dX3_takeFrom_36 : decode cX3_takeFrom 36 = .ok (.iload_n 2, 1) := by decide +kernel
theorem dX3_takeFrom_37 : decode cX3_takeFrom 37 = .ok (.aload_n 1, 1) := by decide +kernel
theorem dX3_takeFrom_38 : decode cX3_takeFrom 38 = .ok (.getfield 22, 3) := by decide +kernel
theorem dX3_takeFrom_41 : decode cX3_takeFrom 41 = .ok (.iload_n 2, 1) := by decide +kernel
theorem dX3_takeFrom_42 : decode cX3_takeFrom 42 = .ok (.iaload, 1) := by decide +kernel
theorem dX3_takeFrom_43 : decode cX3_takeFrom 43 = .ok (.iastore, 1) := by decide +kernel
theorem dX3_takeFrom_44 : decode cX3_takeFrom 44 = .ok (.aload_n 0, 1) := by decide +kernel
theorem dX3_takeFrom_45 : decode cX3_takeFrom 45 = .ok (.getfield 26, 3) := by decide +kernel
theorem dX3_takeFrom_48 : decode cX3_takeFrom 48 = .ok (.iload_n 2, 1) := by decide +kernel
theorem dX3_takeFrom_49 : decode cX3_takeFrom 49 = .ok (.aload_n 1, 1) := by decide +kernel
theorem dX3_takeFrom_50 : decode cX3_takeFrom 50 = .ok (.getfield 26, 3) := by decide +kernel
theorem dX3_takeFrom_53 : decode cX3_takeFrom 53 = .ok (.iload_n 2, 1) := by decide +kernel
theorem dX3_takeFrom_54 : decode cX3_takeFrom 54 = .ok (.iaload, 1) := by decide +kernel
theorem dX3_takeFrom_55 : decode cX3_takeFrom 55 = .ok (.iastore, 1) := by decide +kernel
theorem dX3_takeFrom_56 : decode cX3_takeFrom 56 = .ok (.aload_n 0, 1) := by decide +kernel
theorem dX3_takeFrom_57 : decode cX3_takeFrom 57 = .ok (.getfield 29, 3) := by decide +kernel
theorem dX3_takeFrom_60 : decode cX3_takeFrom 60 = .ok (.iload_n 2, 1) := by decide +kernel
theorem dX3_takeFrom_61 : decode cX3_takeFrom 61 = .ok (.aload_n 1, 1) := by decide +kernel
theorem dX3_takeFrom_62 : decode cX3_takeFrom 62 = .ok (.getfield 29, 3) := by decide +kernel
theorem dX3_takeFrom_65 : decode cX3_takeFrom 65 = .ok (.iload_n 2, 1) := by decide +kernel
theorem dX3_takeFrom_66 : decode cX3_takeFrom 66 = .ok (.iaload, 1) := by decide +kernel
theorem dX3_takeFrom_67 : decode cX3_takeFrom 67 = .ok (.iastore, 1) := by decide +kernel
theorem dX3_takeFrom_68 : decode cX3_takeFrom 68 = .ok (.aload_n 0, 1) := by decide +kernel
theorem dX3_takeFrom_69 : decode cX3_takeFrom 69 = .ok (.getfield 32, 3) := by decide +kernel
theorem dX3_takeFrom_72 : decode cX3_takeFrom 72 = .ok (.iload_n 2, 1) := by decide +kernel
theorem dX3_takeFrom_73 : decode cX3_takeFrom 73 = .ok (.aload_n 1, 1) := by decide +kernel
theorem dX3_takeFrom_74 : decode cX3_takeFrom 74 = .ok (.getfield 32, 3) := by decide +kernel
theorem dX3_takeFrom_77 : decode cX3_takeFrom 77 = .ok (.iload_n 2, 1) := by decide +kernel
theorem dX3_takeFrom_78 : decode cX3_takeFrom 78 = .ok (.iaload, 1) := by decide +kernel
theorem dX3_takeFrom_79 : decode cX3_takeFrom 79 = .ok (.iastore, 1) := by decide +kernel
theorem dX3_takeFrom_80 : decode cX3_takeFrom 80 = .ok (.iinc 2 1, 3) := by decide +kernel
theorem dX3_takeFrom_83 : decode cX3_takeFrom 83 = .ok (.goto (-57), 3) := by decide +kernel
theorem dX3_takeFrom_86 : decode cX3_takeFrom 86 = .ok (.return_, 1) := by decide +kernel
theorem dX4_init_0 : decode cX4_init 0 = .ok (.aload_n 0, 1) := by decide +kernel
theorem dX4_init_1 : decode cX4_init 1 = .ok (.invokespecial 3, 3) := by decide +kernel
theorem dX4_init_4 : decode cX4_init 4 = .ok (.aload_n 0, 1) := by decide +kernel
theorem dX4_init_5 : decode cX4_init 5 = .ok (.bipush 8, 2) := by decide +kernel
theorem dX4_init_7 : decode cX4_init 7 = .ok (.newarray .int, 2) := by decide +kernel
theorem dX4_init_9 : decode cX4_init 9 = .ok (.putfield 9, 3) := by decide +kernel
theorem dX4_init_12 : decode cX4_init 12 = .ok (.aload_n 0, 1) := by decide +kernel
theorem dX4_init_13 : decode cX4_init 13 = .ok (.bipush 8, 2) := by decide +kernel
theorem dX4_init_15 : decode cX4_init 15 = .ok (.newarray .int, 2) := by decide +kernel
theorem dX4_init_17 : decode cX4_init 17 = .ok (.putfield 15, 3) := by decide +kernel
theorem dX4_init_20 : decode cX4_init 20 = .ok (.aload_n 0, 1) := by decide +kernel
theorem dX4_init_21 : decode cX4_init 21 = .ok (.iconst 0, 1) := by decide +kernel
theorem dX4_init_22 : decode cX4_init 22 = .ok (.putfield 18, 3) := by decide +kernel
theorem dX4_init_25 : decode cX4_init 25 = .ok (.return_, 1) := by decide +kernel
theorem dX4_add_0 : decode cX4_add 0 = .ok (.aload_n 0, 1) := by decide +kernel
theorem dX4_add_1 : decode cX4_add 1 = .ok (.getfield 18, 3) := by decide +kernel
theorem dX4_add_4 : decode cX4_add 4 = .ok (.bipush 8, 2) := by decide +kernel
theorem dX4_add_6 : decode cX4_add 6 = .ok (.if_icmp .lt 6, 3) := by decide +kernel
theorem dX4_add_9 : decode cX4_add 9 = .ok (.bipush (-4), 2) := by decide +kernel
theorem dX4_add_11 : decode cX4_add 11 = .ok (.ireturn, 1) := by decide +kernel
theorem dX4_add_12 : decode cX4_add 12 = .ok (.aload_n 0, 1) := by decide +kernel
theorem dX4_add_13 : decode cX4_add 13 = .ok (.getfield 9, 3) := by decide +kernel
theorem dX4_add_16 : decode cX4_add 16 = .ok (.aload_n 0, 1) := by decide +kernel
theorem dX4_add_17 : decode cX4_add 17 = .ok (.getfield 18, 3) := by decide +kernel
theorem dX4_add_20 : decode cX4_add 20 = .ok (.iload_n 1, 1) := by decide +kernel
theorem dX4_add_21 : decode cX4_add 21 = .ok (.iastore, 1) := by decide +kernel
theorem dX4_add_22 : decode cX4_add 22 = .ok (.aload_n 0, 1) := by decide +kernel
theorem dX4_add_23 : decode cX4_add 23 = .ok (.getfield 15, 3) := by decide +kernel
theorem dX4_add_26 : decode cX4_add 26 = .ok (.aload_n 0, 1) := by decide +kernel
theorem dX4_add_27 : decode cX4_add 27 = .ok (.getfield 18, 3) := by decide +kernel
theorem dX4_add_30 : decode cX4_add 30 = .ok (.iload_n 2, 1) := by decide +kernel
theorem dX4_add_31 : decode cX4_add 31 = .ok (.iastore, 1) := by decide +kernel
theorem dX4_add_32 : decode cX4_add 32 = .ok (.aload_n 0, 1) := by decide +kernel
theorem dX4_add_33 : decode cX4_add 33 = .ok (.dup, 1) := by decide +kernel
theorem dX4_add_34 : decode cX4_add 34 = .ok (.getfield 18, 3) := by decide +kernel
theorem dX4_add_37 : decode cX4_add 37 = .ok (.iconst 1, 1) := by decide +kernel
theorem dX4_add_38 : decode cX4_add 38 = .ok (.iadd, 1) := by decide +kernel
theorem dX4_add_39 : decode cX4_add 39 = .ok (.putfield 18, 3) := by decide +kernel
theorem dX4_add_42 : decode cX4_add 42 = .ok (.aload_n 0, 1) := by decide +kernel
theorem dX4_add_43 : decode cX4_add 43 = .ok (.getfield 18, 3) := by decide +kernel
theorem dX4_add_46 : decode cX4_add 46 = .ok (.iconst 1, 1) := by decide +kernel
theorem dX4_add_47 : decode cX4_add 47 = .ok (.isub, 1) := by decide +kernel
theorem dX4_add_48 : decode cX4_add 48 = .ok (.ireturn, 1) := by decide +kernel
theorem dX4_whoAreRead_0 : decode cX4_whoAreRead 0 = .ok (.iconst 0, 1) := by decide +kernel
theorem dX4_whoAreRead_1 : decode cX4_whoAreRead 1 = .ok (.istore_n 1, 1) := by decide +kernel
theorem dX4_whoAreRead_2 : decode cX4_whoAreRead 2 = .ok (.iconst 0, 1) := by decide +kernel
theorem dX4_whoAreRead_3 : decode cX4_whoAreRead 3 = .ok (.istore_n 2, 1) := by decide +kernel
theorem dX4_whoAreRead_4 : decode cX4_whoAreRead 4 = .ok (.iload_n 2, 1) := by decide +kernel
theorem dX4_whoAreRead_5 : decode cX4_whoAreRead 5 = .ok (.aload_n 0, 1) := by decide +kernel
theorem dX4_whoAreRead_6 : decode cX4_whoAreRead 6 = .ok (.getfield 18, 3) := by decide +kernel
theorem dX4_whoAreRead_9 : decode cX4_whoAreRead 9 = .ok (.if_icmp .ge 20, 3) := by decide +kernel
theorem dX4_whoAreRead_12 : decode cX4_whoAreRead 12 = .ok (.iload_n 1, 1) := by decide +kernel
theorem dX4_whoAreRead_13 : decode cX4_whoAreRead 13 = .ok (.iconst 1, 1) := by decide +kernel
theorem dX4_whoAreRead_14 : decode cX4_whoAreRead 14 = .ok (.aload_n 0, 1) := by decide +kernel
theorem dX4_whoAreRead_15 : decode cX4_whoAreRead 15 = .ok (.getfield 9, 3) := by decide +kernel
theorem dX4_whoAreRead_18 : decode cX4_whoAreRead 18 = .ok (.iload_n 2, 1) := by decide +kernel
theorem dX4_whoAreRead_19 : decode cX4_whoAreRead 19 = .ok (.iaload, 1) := by decide +kernel
theorem dX4_whoAreRead_20 : decode cX4_whoAreRead 20 = .ok (.ishl, 1) := by decide +kernel
theorem dX4_whoAreRead_21 : decode cX4_whoAreRead 21 = .ok (.ior, 1) := by decide +kernel
theorem dX4_whoAreRead_22 : decode cX4_whoAreRead 22 = .ok (.istore_n 1, 1) := by decide +kernel
theorem dX4_whoAreRead_23 : decode cX4_whoAreRead 23 = .ok (.iinc 2 1, 3) := by decide +kernel
theorem dX4_whoAreRead_26 : decode cX4_whoAreRead 26 = .ok (.goto (-22), 3) := by decide +kernel
theorem dX4_whoAreRead_29 : decode cX4_whoAreRead 29 = .ok (.iload_n 1, 1) := by decide +kernel
theorem dX4_whoAreRead_30 : decode cX4_whoAreRead 30 = .ok (.ireturn, 1) := by decide +kernel
theorem dX4_areSo_0 : decode cX4_areSo 0 = .ok (.iconst 0, 1) := by decide +kernel
theorem dX4_areSo_1 : decode cX4_areSo 1 = .ok (.istore_n 2, 1) := by decide +kernel
theorem dX4_areSo_2 : decode cX4_areSo 2 = .ok (.iload_n 2, 1) := by decide +kernel
theorem dX4_areSo_3 : decode cX4_areSo 3 = .ok (.aload_n 0, 1) := by decide +kernel
theorem dX4_areSo_4 : decode cX4_areSo 4 = .ok (.getfield 18, 3) := by decide +kernel
theorem dX4_areSo_7 : decode cX4_areSo 7 = .ok (.if_icmp .ge 28, 3) := by decide +kernel
theorem dX4_areSo_10 : decode cX4_areSo 10 = .ok (.aload_n 1, 1) := by decide +kernel
theorem dX4_areSo_11 : decode cX4_areSo 11 = .ok (.aload_n 0, 1) := by decide +kernel
theorem dX4_areSo_12 : decode cX4_areSo 12 = .ok (.getfield 9, 3) := by decide +kernel
theorem dX4_areSo_15 : decode cX4_areSo 15 = .ok (.iload_n 2, 1) := by decide +kernel
theorem dX4_areSo_16 : decode cX4_areSo 16 = .ok (.iaload, 1) := by decide +kernel
theorem dX4_areSo_17 : decode cX4_areSo 17 = .ok (.iaload, 1) := by decide +kernel
theorem dX4_areSo_18 : decode cX4_areSo 18 = .ok (.aload_n 0, 1) := by decide +kernel
theorem dX4_areSo_19 : decode cX4_areSo 19 = .ok (.getfield 15, 3) := by decide +kernel
theorem dX4_areSo_22 : decode cX4_areSo 22 = .ok (.iload_n 2, 1) := by decide +kernel
theorem dX4_areSo_23 : decode cX4_areSo 23 = .ok (.iaload, 1) := by decide +kernel
theorem dX4_areSo_24 : decode cX4_areSo 24 = .ok (.if_icmp .eq 5, 3) := by decide +kernel
theorem dX4_areSo_27 : decode cX4_areSo 27 = .ok (.iconst 0, 1) := by decide +kernel
theorem dX4_areSo_28 : decode cX4_areSo 28 = .ok (.ireturn, 1) := by decide +kernel
theorem dX4_areSo_29 : decode cX4_areSo 29 = .ok (.iinc 2 1, 3) := by decide +kernel
theorem dX4_areSo_32 : decode cX4_areSo 32 = .ok (.goto (-30), 3) := by decide +kernel
theorem dX4_areSo_35 : decode cX4_areSo 35 = .ok (.iconst 1, 1) := by decide +kernel
theorem dX4_areSo_36 : decode cX4_areSo 36 = .ok (.ireturn, 1) := by decide +kernel
set_option maxRecDepth 20000 in
theorem ggX5_init_X1_init : GoodIn wsX5_init wsX1_init := goodIn_r _ [20, 21, 2, 3, 22, 23, 24, 25, 26, 27, 28, 29, 30, 31, 32, 33, 34, 35, 36, 68, 69, 47, 48, 49, 50, 51, 52] (by decide +kernel) (by decide +kernel)
set_option maxRecDepth 20000 in
theorem gX5_init_X1_init_n11 : GoodIn wsX5_init (wsX1_init) := ggX5_init_X1_init
set_option maxRecDepth 20000 in
theorem ggX5_init_X3_init : GoodIn wsX5_init wsX3_init := goodIn_r _ [38, 39, 2, 3, 40, 41, 42, 26, 43, 44, 45, 46, 61, 62, 63, 64, 65, 66, 67] (by decide +kernel) (by decide +kernel)
set_option maxRecDepth 20000 in
theorem gX5_init_X3_init_n20 : GoodIn wsX5_init (wsX3_init) := ggX5_init_X3_init
theorem dX5_init_0 : decode cX5_init 0 = .ok (.aload_n 0, 1) := by decide +kernel
theorem dX5_init_1 : decode cX5_init 1 = .ok (.invokespecial 3, 3) := by decide +kernel
theorem dX5_init_4 : decode cX5_init 4 = .ok (.aload_n 0, 1) := by decide +kernel
theorem dX5_init_5 : decode cX5_init 5 = .ok (.new 9, 3) := by decide +kernel
theorem dX5_init_8 : decode cX5_init 8 = .ok (.dup, 1) := by decide +kernel
theorem dX5_init_9 : decode cX5_init 9 = .ok (.invokespecial 11, 3) := by decide +kernel
theorem dX5_init_12 : decode cX5_init 12 = .ok (.putfield 12, 3) := by decide +kernel
theorem dX5_init_15 : decode cX5_init 15 = .ok (.aload_n 0, 1) := by decide +kernel
theorem dX5_init_16 : decode cX5_init 16 = .ok (.new 18, 3) := by decide +kernel
theorem dX5_init_19 : decode cX5_init 19 = .ok (.dup, 1) := by decide +kernel
theorem dX5_init_20 : decode cX5_init 20 = .ok (.invokespecial 20, 3) := by decide +kernel
theorem dX5_init_23 : decode cX5_init 23 = .ok (.putfield 21, 3) := by decide +kernel
theorem dX5_init_26 : decode cX5_init 26 = .ok (.aload_n 0, 1) := by decide +kernel
theorem dX5_init_27 : decode cX5_init 27 = .ok (.bipush 60, 2) := by decide +kernel
theorem dX5_init_29 : decode cX5_init 29 = .ok (.newarray .long, 2) := by decide +kernel
theorem dX5_init_31 : decode cX5_init 31 = .ok (.putfield 25, 3) := by decide +kernel
theorem dX5_init_34 : decode cX5_init 34 = .ok (.aload_n 0, 1) := by decide +kernel
theorem dX5_init_35 : decode cX5_init 35 = .ok (.bipush (-9), 2) := by decide +kernel
theorem dX5_init_37 : decode cX5_init 37 = .ok (.putfield 29, 3) := by decide +kernel
theorem dX5_init_40 : decode cX5_init 40 = .ok (.aload_n 0, 1) := by decide +kernel
theorem dX5_init_41 : decode cX5_init 41 = .ok (.iconst 0, 1) := by decide +kernel
theorem dX5_init_42 : decode cX5_init 42 = .ok (.putfield 33, 3) := by decide +kernel
theorem dX5_init_45 : decode cX5_init 45 = .ok (.aload_n 0, 1) := by decide +kernel
theorem dX5_init_46 : decode cX5_init 46 = .ok (.iconst 0, 1) := by decide +kernel
theorem dX5_init_47 : decode cX5_init 47 = .ok (.putfield 36, 3) := by decide +kernel
theorem dX5_init_50 : decode cX5_init 50 = .ok (.aload_n 0, 1) := by decide +kernel
theorem dX5_init_51 : decode cX5_init 51 = .ok (.bipush (-9), 2) := by decide +kernel
theorem dX5_init_53 : decode cX5_init 53 = .ok (.putfield 39, 3) := by decide +kernel
theorem dX5_init_56 : decode cX5_init 56 = .ok (.aload_n 0, 1) := by decide +kernel
theorem dX5_init_57 : decode cX5_init 57 = .ok (.bipush (-9), 2) := by decide +kernel
theorem dX5_init_59 : decode cX5_init 59 = .ok (.putfield 42, 3) := by decide +kernel
theorem dX5_init_62 : decode cX5_init 62 = .ok (.return_, 1) := by decide +kernel
set_option maxRecDepth 20000 in
theorem ggX5_findMove_X3_takeFrom : GoodIn wsX5_findMove wsX3_takeFrom := goodIn_r _ [10, 11, 12, 13, 14, 15, 16, 17, 114, 115, 116, 117, 118, 119, 120] (by decide +kernel) (by decide +kernel)
set_option maxRecDepth 20000 in
theorem gX5_findMove_X3_takeFrom : GoodIn wsX5_findMove (wsV RX5 45 RX3 yX3_takeFrom wsX3_takeFrom) := goodIn_app (goodIn_of _ (by decide +kernel)) ggX5_findMove_X3_takeFrom
set_option maxRecDepth 20000 in
theorem ggX5_findMove_X1_servedOf : GoodIn wsX5_findMove wsX1_servedOf := goodIn_r _ [22, 23, 24, 25, 26, 9, 27, 12, 28, 29, 30, 21, 31, 32, 33, 34, 35, 36, 37, 38, 39, 40, 41, 42, 43, 44, 45, 46, 47, 48, 49, 50, 51, 52, 53, 54, 55, 56, 57, 58, 59, 60, 61, 62, 63, 64, 65, 66, 67, 68, 69, 70, 71, 72, 73, 74, 75, 76, 77, 78, 79, 80, 81, 82, 83, 84, 85, 86, 87, 88, 89, 90, 91, 92, 93, 94, 95, 96, 97, 98, 99, 100, 121, 122, 123, 124, 125, 126, 114, 115, 116, 117, 118, 119, 120, 127, 128] (by decide +kernel) (by decide +kernel)
set_option maxRecDepth 20000 in
theorem gX5_findMove_X1_servedOf : GoodIn wsX5_findMove (wsV RX5 49 RX1 yX1_servedOf wsX1_servedOf) := goodIn_app (goodIn_of _ (by decide +kernel)) ggX5_findMove_X1_servedOf
set_option maxRecDepth 20000 in
theorem ggX5_findMove_X8_hasMinute : GoodIn wsX5_findMove wsX8_hasMinute := goodIn_r _ [48, 49, 50, 47, 51] (by decide +kernel) (by decide +kernel)
set_option maxRecDepth 20000 in
theorem gX5_findMove_X8_hasMinute_n57 : GoodIn wsX5_findMove (wsX8_hasMinute) := ggX5_findMove_X8_hasMinute
set_option maxRecDepth 20000 in
theorem ggX5_findMove_X5_tryMoves : GoodIn wsX5_findMove wsX5_tryMoves := goodIn_r _ [105, 5, 1, 3, 4, 2, 50, 47, 51, 46, 48, 49, 18, 19, 20, 21, 22, 23, 24, 25, 26, 9, 27, 12, 28, 29, 30, 31, 32, 33, 34, 35, 36, 37, 38, 39, 40, 41, 42, 43, 44, 45, 52, 53, 54, 55, 56, 57, 58, 59, 60, 61, 62, 63, 64, 65, 66, 67, 68, 69, 70, 71, 72, 73, 74, 75, 76, 77, 78, 79, 80, 81, 82, 83, 84, 85, 86, 87, 88, 89, 90, 91, 92, 93, 94, 95, 96, 97, 98, 99, 100, 114, 115, 116, 117, 118, 119, 120, 106, 107, 108, 109, 110, 111, 112, 113, 121, 122, 123, 124, 125, 126, 127, 128] (by decide +kernel) (by decide +kernel)
set_option maxRecDepth 20000 in
theorem gX5_findMove_X5_tryMoves : GoodIn wsX5_findMove (wsV RX5 61 RX5 yX5_tryMoves wsX5_tryMoves) := goodIn_app (goodIn_of _ (by decide +kernel)) ggX5_findMove_X5_tryMoves
theorem dX5_findMove_0 : decode cX5_findMove 0 = .ok (.aload_n 0, 1) := by decide +kernel
theorem dX5_findMove_1 : decode cX5_findMove 1 = .ok (.getfield 21, 3) := by decide +kernel
theorem dX5_findMove_4 : decode cX5_findMove 4 = .ok (.aload_n 1, 1) := by decide +kernel
theorem dX5_findMove_5 : decode cX5_findMove 5 = .ok (.invokevirtual 45, 3) := by decide +kernel
theorem dX5_findMove_8 : decode cX5_findMove 8 = .ok (.aload_n 0, 1) := by decide +kernel
theorem dX5_findMove_9 : decode cX5_findMove 9 = .ok (.bipush (-9), 2) := by decide +kernel
theorem dX5_findMove_11 : decode cX5_findMove 11 = .ok (.putfield 29, 3) := by decide +kernel
theorem dX5_findMove_14 : decode cX5_findMove 14 = .ok (.aload_n 0, 1) := by decide +kernel
theorem dX5_findMove_15 : decode cX5_findMove 15 = .ok (.aload_n 0, 1) := by decide +kernel
theorem dX5_findMove_16 : decode cX5_findMove 16 = .ok (.getfield 12, 3) := by decide +kernel
theorem dX5_findMove_19 : decode cX5_findMove 19 = .ok (.aload_n 1, 1) := by decide +kernel
theorem dX5_findMove_20 : decode cX5_findMove 20 = .ok (.iload_n 2, 1) := by decide +kernel
theorem dX5_findMove_21 : decode cX5_findMove 21 = .ok (.invokevirtual 49, 3) := by decide +kernel
theorem dX5_findMove_24 : decode cX5_findMove 24 = .ok (.putfield 33, 3) := by decide +kernel
theorem dX5_findMove_27 : decode cX5_findMove 27 = .ok (.iconst 0, 1) := by decide +kernel
theorem dX5_findMove_28 : decode cX5_findMove 28 = .ok (.istore_n 3, 1) := by decide +kernel
theorem dX5_findMove_29 : decode cX5_findMove 29 = .ok (.iload_n 3, 1) := by decide +kernel
theorem dX5_findMove_30 : decode cX5_findMove 30 = .ok (.bipush 60, 2) := by decide +kernel
theorem dX5_findMove_32 : decode cX5_findMove 32 = .ok (.if_icmp .ge 27, 3) := by decide +kernel
theorem dX5_findMove_35 : decode cX5_findMove 35 = .ok (.aload_n 1, 1) := by decide +kernel
theorem dX5_findMove_36 : decode cX5_findMove 36 = .ok (.getfield 53, 3) := by decide +kernel

theorem dX5_findMove_39 : decode cX5_findMove 39 = .ok (.iload_n 3, 1) := by decide +kernel
theorem dX5_findMove_40 : decode cX5_findMove 40 = .ok (.invokestatic 57, 3) := by decide +kernel
theorem dX5_findMove_43 : decode cX5_findMove 43 = .ok (.ifCond .eq 10, 3) := by decide +kernel
theorem dX5_findMove_46 : decode cX5_findMove 46 = .ok (.aload_n 0, 1) := by decide +kernel
theorem dX5_findMove_47 : decode cX5_findMove 47 = .ok (.aload_n 1, 1) := by decide +kernel
theorem dX5_findMove_48 : decode cX5_findMove 48 = .ok (.iload_n 2, 1) := by decide +kernel
theorem dX5_findMove_49 : decode cX5_findMove 49 = .ok (.iload_n 3, 1) := by decide +kernel
theorem dX5_findMove_50 : decode cX5_findMove 50 = .ok (.invokevirtual 61, 3) := by decide +kernel
theorem dX5_findMove_53 : decode cX5_findMove 53 = .ok (.iinc 3 1, 3) := by decide +kernel
theorem dX5_findMove_56 : decode cX5_findMove 56 = .ok (.goto (-27), 3) := by decide +kernel
theorem dX5_findMove_59 : decode cX5_findMove 59 = .ok (.return_, 1) := by decide +kernel
set_option maxRecDepth 20000 in
theorem ggX5_tryMoves_X8_isMinute : GoodIn wsX5_tryMoves wsX8_isMinute := goodIn_r _ [8] (by decide +kernel) (by decide +kernel)
set_option maxRecDepth 20000 in
theorem gX5_tryMoves_X8_isMinute_n65 : GoodIn wsX5_tryMoves (wsX8_isMinute) := ggX5_tryMoves_X8_isMinute
set_option maxRecDepth 20000 in
theorem ggX5_tryMoves_X8_hasMinute : GoodIn wsX5_tryMoves wsX8_hasMinute := goodIn_r _ [10, 11, 6, 7, 8] (by decide +kernel) (by decide +kernel)
set_option maxRecDepth 20000 in
theorem gX5_tryMoves_X8_hasMinute_n57 : GoodIn wsX5_tryMoves (wsX8_hasMinute) := ggX5_tryMoves_X8_hasMinute
set_option maxRecDepth 20000 in
theorem ggX5_tryMoves_X1_servedOf : GoodIn wsX5_tryMoves wsX1_servedOf := goodIn_r _ [16, 17, 18, 19, 20, 21, 22, 23, 24, 25, 26, 15, 27, 28, 29, 30, 31, 32, 33, 34, 35, 36, 37, 38, 39, 40, 41, 9, 7, 10, 11, 6, 8, 42, 43, 44, 45, 46, 47, 48, 49, 50, 51, 52, 53, 54, 55, 56, 57, 58, 59, 60, 61, 62, 63, 64, 65, 66, 67, 68, 69, 70, 71, 72, 73, 74, 75, 76, 77, 78, 79, 80, 81, 82, 83, 84, 85, 86, 87, 88, 89, 90, 106, 107, 108, 109, 110, 111, 91, 92, 93, 94, 95, 96, 97, 112, 113] (by decide +kernel) (by decide +kernel)
set_option maxRecDepth 20000 in
theorem gX5_tryMoves_X1_servedOf : GoodIn wsX5_tryMoves (wsV RX5 49 RX1 yX1_servedOf wsX1_servedOf) := goodIn_app (goodIn_of _ (by decide +kernel)) ggX5_tryMoves_X1_servedOf
theorem dX5_tryMoves_0 : decode cX5_tryMoves 0 = .ok (.iload_n 3, 1) := by decide +kernel
theorem dX5_tryMoves_1 : decode cX5_tryMoves 1 = .ok (.iconst 3, 1) := by decide +kernel
theorem dX5_tryMoves_2 : decode cX5_tryMoves 2 = .ok (.isub, 1) := by decide +kernel
theorem dX5_tryMoves_3 : decode cX5_tryMoves 3 = .ok (.istore 4, 2) := by decide +kernel
theorem dX5_tryMoves_5 : decode cX5_tryMoves 5 = .ok (.iload 4, 2) := by decide +kernel
theorem dX5_tryMoves_7 : decode cX5_tryMoves 7 = .ok (.iload_n 3, 1) := by decide +kernel
theorem dX5_tryMoves_8 : decode cX5_tryMoves 8 = .ok (.iconst 3, 1) := by decide +kernel
theorem dX5_tryMoves_9 : decode cX5_tryMoves 9 = .ok (.iadd, 1) := by decide +kernel
theorem dX5_tryMoves_10 : decode cX5_tryMoves 10 = .ok (.if_icmp .gt 95, 3) := by decide +kernel
theorem dX5_tryMoves_13 : decode cX5_tryMoves 13 = .ok (.iload 4, 2) := by decide +kernel
theorem dX5_tryMoves_15 : decode cX5_tryMoves 15 = .ok (.invokestatic 65, 3) := by decide +kernel
theorem dX5_tryMoves_18 : decode cX5_tryMoves 18 = .ok (.ifCond .eq 81, 3) := by decide +kernel
theorem dX5_tryMoves_21 : decode cX5_tryMoves 21 = .ok (.aload_n 1, 1) := by decide +kernel
theorem dX5_tryMoves_22 : decode cX5_tryMoves 22 = .ok (.getfield 53, 3) := by decide +kernel
theorem dX5_tryMoves_25 : decode cX5_tryMoves 25 = .ok (.iload 4, 2) := by decide +kernel
theorem dX5_tryMoves_27 : decode cX5_tryMoves 27 = .ok (.invokestatic 57, 3) := by decide +kernel
theorem dX5_tryMoves_30 : decode cX5_tryMoves 30 = .ok (.ifCond .eq 6, 3) := by decide +kernel
theorem dX5_tryMoves_33 : decode cX5_tryMoves 33 = .ok (.goto 66, 3) := by decide +kernel
theorem dX5_tryMoves_36 : decode cX5_tryMoves 36 = .ok (.aload_n 0, 1) := by decide +kernel
theorem dX5_tryMoves_37 : decode cX5_tryMoves 37 = .ok (.getfield 21, 3) := by decide +kernel
theorem dX5_tryMoves_40 : decode cX5_tryMoves 40 = .ok (.aload_n 1, 1) := by decide +kernel
theorem dX5_tryMoves_41 : decode cX5_tryMoves 41 = .ok (.getfield 53, 3) := by decide +kernel
theorem dX5_tryMoves_44 : decode cX5_tryMoves 44 = .ok (.lconst 1, 1) := by decide +kernel
theorem dX5_tryMoves_45 : decode cX5_tryMoves 45 = .ok (.iload_n 3, 1) := by decide +kernel
theorem dX5_tryMoves_46 : decode cX5_tryMoves 46 = .ok (.lshl, 1) := by decide +kernel
theorem dX5_tryMoves_47 : decode cX5_tryMoves 47 = .ok (.lxor, 1) := by decide +kernel
theorem dX5_tryMoves_48 : decode cX5_tryMoves 48 = .ok (.lconst 1, 1) := by decide +kernel
theorem dX5_tryMoves_49 : decode cX5_tryMoves 49 = .ok (.iload 4, 2) := by decide +kernel
theorem dX5_tryMoves_51 : decode cX5_tryMoves 51 = .ok (.lshl, 1) := by decide +kernel
theorem dX5_tryMoves_52 : decode cX5_tryMoves 52 = .ok (.lxor, 1) := by decide +kernel
theorem dX5_tryMoves_53 : decode cX5_tryMoves 53 = .ok (.putfield 53, 3) := by decide +kernel
theorem dX5_tryMoves_56 : decode cX5_tryMoves 56 = .ok (.aload_n 0, 1) := by decide +kernel
theorem dX5_tryMoves_57 : decode cX5_tryMoves 57 = .ok (.getfield 12, 3) := by decide +kernel
theorem dX5_tryMoves_60 : decode cX5_tryMoves 60 = .ok (.aload_n 0, 1) := by decide +kernel
theorem dX5_tryMoves_61 : decode cX5_tryMoves 61 = .ok (.getfield 21, 3) := by decide +kernel
theorem dX5_tryMoves_64 : decode cX5_tryMoves 64 = .ok (.iload_n 2, 1) := by decide +kernel
theorem dX5_tryMoves_65 : decode cX5_tryMoves 65 = .ok (.invokevirtual 49, 3) := by decide +kernel
theorem dX5_tryMoves_68 : decode cX5_tryMoves 68 = .ok (.istore 5, 2) := by decide +kernel
theorem dX5_tryMoves_70 : decode cX5_tryMoves 70 = .ok (.iload 5, 2) := by decide +kernel
theorem dX5_tryMoves_72 : decode cX5_tryMoves 72 = .ok (.aload_n 0, 1) := by decide +kernel
theorem dX5_tryMoves_73 : decode cX5_tryMoves 73 = .ok (.getfield 33, 3) := by decide +kernel
theorem dX5_tryMoves_76 : decode cX5_tryMoves 76 = .ok (.if_icmp .lt 6, 3) := by decide +kernel
theorem dX5_tryMoves_79 : decode cX5_tryMoves 79 = .ok (.goto 20, 3) := by decide +kernel
theorem dX5_tryMoves_82 : decode cX5_tryMoves 82 = .ok (.aload_n 0, 1) := by decide +kernel
theorem dX5_tryMoves_83 : decode cX5_tryMoves 83 = .ok (.iload 5, 2) := by decide +kernel
theorem dX5_tryMoves_85 : decode cX5_tryMoves 85 = .ok (.putfield 33, 3) := by decide +kernel
theorem dX5_tryMoves_88 : decode cX5_tryMoves 88 = .ok (.aload_n 0, 1) := by decide +kernel
theorem dX5_tryMoves_89 : decode cX5_tryMoves 89 = .ok (.bipush 100, 2) := by decide +kernel
theorem dX5_tryMoves_91 : decode cX5_tryMoves 91 = .ok (.iload_n 3, 1) := by decide +kernel
theorem dX5_tryMoves_92 : decode cX5_tryMoves 92 = .ok (.imul, 1) := by decide +kernel
theorem dX5_tryMoves_93 : decode cX5_tryMoves 93 = .ok (.iload 4, 2) := by decide +kernel
theorem dX5_tryMoves_95 : decode cX5_tryMoves 95 = .ok (.iadd, 1) := by decide +kernel
theorem dX5_tryMoves_96 : decode cX5_tryMoves 96 = .ok (.putfield 29, 3) := by decide +kernel
theorem dX5_tryMoves_99 : decode cX5_tryMoves 99 = .ok (.iinc 4 1, 3) := by decide +kernel
theorem dX5_tryMoves_102 : decode cX5_tryMoves 102 = .ok (.goto (-97), 3) := by decide +kernel
theorem dX5_tryMoves_105 : decode cX5_tryMoves 105 = .ok (.return_, 1) := by decide +kernel
set_option maxRecDepth 20000 in
theorem ggX5_findSets_X3_takeFrom : GoodIn wsX5_findSets wsX3_takeFrom := goodIn_r _ [12, 13, 14, 15, 16, 17, 18, 19, 140, 141, 142, 143, 144, 145, 146] (by decide +kernel) (by decide +kernel)
set_option maxRecDepth 20000 in
theorem gX5_findSets_X3_takeFrom : GoodIn wsX5_findSets (wsV RX5 45 RX3 yX3_takeFrom wsX3_takeFrom) := goodIn_app (goodIn_of _ (by decide +kernel)) ggX5_findSets_X3_takeFrom
set_option maxRecDepth 20000 in
theorem ggX5_findSets_X5_fits : GoodIn wsX5_findSets wsX5_fits := goodIn_r _ [24, 1, 25, 5, 26, 27, 28, 29, 11, 30, 14, 31, 32, 33, 34, 35, 36, 37, 38, 39, 40, 41, 42, 43, 44, 45, 46, 47, 48, 49, 50, 51, 52, 53, 54, 55, 56, 57, 58, 59, 60, 61, 62, 63, 64, 65, 66, 67, 68, 69, 70, 71, 72, 73, 74, 75, 76, 77, 78, 79, 80, 81, 82, 83, 84, 85, 86, 87, 88, 89, 90, 91, 92, 93, 94, 95, 96, 97, 98, 99, 100, 101, 102, 103, 104, 105, 106, 107, 108, 109, 110, 111, 112, 113, 114, 115, 116, 117, 126, 127, 128, 129, 130, 131, 132, 133, 140, 141, 142, 143, 144, 145, 146, 134, 135, 136, 137, 138, 139, 147, 148, 149, 150, 151] (by decide +kernel) (by decide +kernel)
set_option maxRecDepth 20000 in
theorem gX5_findSets_X5_fits : GoodIn wsX5_findSets (wsV RX5 69 RX5 yX5_fits wsX5_fits) := goodIn_app (goodIn_of _ (by decide +kernel)) ggX5_findSets_X5_fits
set_option maxRecDepth 20000 in
theorem ggX5_findSets_X5_found : GoodIn wsX5_findSets wsX5_found := goodIn_r _ [121, 2, 3, 4, 126, 127, 128, 129, 130, 131, 132, 133] (by decide +kernel) (by decide +kernel)
set_option maxRecDepth 20000 in
theorem gX5_findSets_X5_found : GoodIn wsX5_findSets (wsV RX5 76 RX5 yX5_found wsX5_found) := goodIn_app (goodIn_of _ (by decide +kernel)) ggX5_findSets_X5_found
set_option maxRecDepth 20000 in
theorem ggX5_findSets_X8_hasMinute : GoodIn wsX5_findSets wsX8_hasMinute := goodIn_r _ [59, 60, 61, 58, 62] (by decide +kernel) (by decide +kernel)
set_option maxRecDepth 20000 in
theorem gX5_findSets_X8_hasMinute_n57 : GoodIn wsX5_findSets (wsX8_hasMinute) := ggX5_findSets_X8_hasMinute
set_option maxRecDepth 20000 in
theorem ggX5_findSets_X5_findPairs : GoodIn wsX5_findSets wsX5_findPairs := goodIn_r _ [125, 7, 57, 58, 59, 60, 61, 62, 20, 21, 22, 23, 24, 1, 25, 5, 26, 27, 28, 29, 11, 30, 14, 31, 32, 33, 34, 35, 36, 37, 38, 39, 40, 41, 42, 43, 44, 45, 46, 47, 48, 49, 50, 51, 52, 53, 54, 55, 56, 63, 64, 65, 66, 67, 68, 69, 70, 71, 72, 73, 74, 75, 76, 77, 78, 79, 80, 81, 82, 83, 84, 85, 86, 87, 88, 89, 90, 91, 92, 93, 94, 95, 96, 97, 98, 99, 100, 101, 102, 103, 104, 105, 106, 107, 108, 109, 110, 111, 112, 113, 114, 115, 116, 117, 118, 119, 120, 121, 2, 3, 4, 126, 127, 128, 129, 130, 131, 132, 133, 140, 141, 142, 143, 144, 145, 146, 134, 135, 136, 137, 138, 139, 147, 148, 149, 150, 151] (by decide +kernel) (by decide +kernel)
set_option maxRecDepth 20000 in
theorem gX5_findSets_X5_findPairs : GoodIn wsX5_findSets (wsV RX5 80 RX5 yX5_findPairs wsX5_findPairs) := goodIn_app (goodIn_of _ (by decide +kernel)) ggX5_findSets_X5_findPairs
theorem dX5_findSets_0 : decode cX5_findSets 0 = .ok (.aload_n 0, 1) := by decide +kernel
theorem dX5_findSets_1 : decode cX5_findSets 1 = .ok (.getfield 21, 3) := by decide +kernel
theorem dX5_findSets_4 : decode cX5_findSets 4 = .ok (.aload_n 1, 1) := by decide +kernel
theorem dX5_findSets_5 : decode cX5_findSets 5 = .ok (.invokevirtual 45, 3) := by decide +kernel
theorem dX5_findSets_8 : decode cX5_findSets 8 = .ok (.aload_n 0, 1) := by decide +kernel
theorem dX5_findSets_9 : decode cX5_findSets 9 = .ok (.iconst 0, 1) := by decide +kernel
theorem dX5_findSets_10 : decode cX5_findSets 10 = .ok (.putfield 36, 3) := by decide +kernel
theorem dX5_findSets_13 : decode cX5_findSets 13 = .ok (.aload_n 0, 1) := by decide +kernel
theorem dX5_findSets_14 : decode cX5_findSets 14 = .ok (.bipush (-9), 2) := by decide +kernel
theorem dX5_findSets_16 : decode cX5_findSets 16 = .ok (.putfield 39, 3) := by decide +kernel
theorem dX5_findSets_19 : decode cX5_findSets 19 = .ok (.aload_n 0, 1) := by decide +kernel
theorem dX5_findSets_20 : decode cX5_findSets 20 = .ok (.bipush (-9), 2) := by decide +kernel
theorem dX5_findSets_22 : decode cX5_findSets 22 = .ok (.putfield 42, 3) := by decide +kernel
theorem dX5_findSets_25 : decode cX5_findSets 25 = .ok (.aload_n 0, 1) := by decide +kernel
theorem dX5_findSets_26 : decode cX5_findSets 26 = .ok (.lconst 0, 1) := by decide +kernel
theorem dX5_findSets_27 : decode cX5_findSets 27 = .ok (.aload_n 2, 1) := by decide +kernel
theorem dX5_findSets_28 : decode cX5_findSets 28 = .ok (.invokevirtual 69, 3) := by decide +kernel
theorem dX5_findSets_31 : decode cX5_findSets 31 = .ok (.istore_n 3, 1) := by decide +kernel
theorem dX5_findSets_32 : decode cX5_findSets 32 = .ok (.aload_n 0, 1) := by decide +kernel
theorem dX5_findSets_33 : decode cX5_findSets 33 = .ok (.getfield 12, 3) := by decide +kernel
theorem dX5_findSets_36 : decode cX5_findSets 36 = .ok (.getfield 73, 3) := by decide +kernel
theorem dX5_findSets_39 : decode cX5_findSets 39 = .ok (.lstore 4, 2) := by decide +kernel
theorem dX5_findSets_41 : decode cX5_findSets 41 = .ok (.iload_n 3, 1) := by decide +kernel
theorem dX5_findSets_42 : decode cX5_findSets 42 = .ok (.ifCond .eq 11, 3) := by decide +kernel
theorem dX5_findSets_45 : decode cX5_findSets 45 = .ok (.aload_n 0, 1) := by decide +kernel
theorem dX5_findSets_46 : decode cX5_findSets 46 = .ok (.bipush (-9), 2) := by decide +kernel
theorem dX5_findSets_48 : decode cX5_findSets 48 = .ok (.bipush (-9), 2) := by decide +kernel
theorem dX5_findSets_50 : decode cX5_findSets 50 = .ok (.invokevirtual 76, 3) := by decide +kernel
theorem dX5_findSets_53 : decode cX5_findSets 53 = .ok (.lconst 0, 1) := by decide +kernel
theorem dX5_findSets_54 : decode cX5_findSets 54 = .ok (.lstore 6, 2) := by decide +kernel
theorem dX5_findSets_56 : decode cX5_findSets 56 = .ok (.iconst 0, 1) := by decide +kernel
theorem dX5_findSets_57 : decode cX5_findSets 57 = .ok (.istore 8, 2) := by decide +kernel
theorem dX5_findSets_59 : decode cX5_findSets 59 = .ok (.iload 8, 2) := by decide +kernel
theorem dX5_findSets_61 : decode cX5_findSets 61 = .ok (.bipush 60, 2) := by decide +kernel
theorem dX5_findSets_63 : decode cX5_findSets 63 = .ok (.if_icmp .ge 87, 3) := by decide +kernel
theorem dX5_findSets_66 : decode cX5_findSets 66 = .ok (.lload 4, 2) := by decide +kernel
theorem dX5_findSets_68 : decode cX5_findSets 68 = .ok (.iload 8, 2) := by decide +kernel
theorem dX5_findSets_70 : decode cX5_findSets 70 = .ok (.invokestatic 57, 3) := by decide +kernel
theorem dX5_findSets_73 : decode cX5_findSets 73 = .ok (.istore 9, 2) := by decide +kernel
theorem dX5_findSets_75 : decode cX5_findSets 75 = .ok (.iload 9, 2) := by decide +kernel
theorem dX5_findSets_77 : decode cX5_findSets 77 = .ok (.ifCond .eq 15, 3) := by decide +kernel
theorem dX5_findSets_80 : decode cX5_findSets 80 = .ok (.aload_n 0, 1) := by decide +kernel
theorem dX5_findSets_81 : decode cX5_findSets 81 = .ok (.lconst 1, 1) := by decide +kernel
theorem dX5_findSets_82 : decode cX5_findSets 82 = .ok (.iload 8, 2) := by decide +kernel
theorem dX5_findSets_84 : decode cX5_findSets 84 = .ok (.lshl, 1) := by decide +kernel
theorem dX5_findSets_85 : decode cX5_findSets 85 = .ok (.aload_n 2, 1) := by decide +kernel
theorem dX5_findSets_86 : decode cX5_findSets 86 = .ok (.invokevirtual 69, 3) := by decide +kernel
theorem dX5_findSets_89 : decode cX5_findSets 89 = .ok (.goto 4, 3) := by decide +kernel
theorem dX5_findSets_92 : decode cX5_findSets 92 = .ok (.iload_n 3, 1) := by decide +kernel
theorem dX5_findSets_93 : decode cX5_findSets 93 = .ok (.istore 10, 2) := by decide +kernel
theorem dX5_findSets_95 : decode cX5_findSets 95 = .ok (.aload_n 0, 1) := by decide +kernel
theorem dX5_findSets_96 : decode cX5_findSets 96 = .ok (.getfield 25, 3) := by decide +kernel
theorem dX5_findSets_99 : decode cX5_findSets 99 = .ok (.iload 8, 2) := by decide +kernel
theorem dX5_findSets_101 : decode cX5_findSets 101 = .ok (.iload 9, 2) := by decide +kernel
theorem dX5_findSets_103 : decode cX5_findSets 103 = .ok (.ifCond .eq 13, 3) := by decide +kernel
theorem dX5_findSets_106 : decode cX5_findSets 106 = .ok (.aload_n 0, 1) := by decide +kernel
theorem dX5_findSets_107 : decode cX5_findSets 107 = .ok (.getfield 12, 3) := by decide +kernel
theorem dX5_findSets_110 : decode cX5_findSets 110 = .ok (.getfield 73, 3) := by decide +kernel
theorem dX5_findSets_113 : decode cX5_findSets 113 = .ok (.goto 5, 3) := by decide +kernel
theorem dX5_findSets_116 : decode cX5_findSets 116 = .ok (.lload 4, 2) := by decide +kernel
theorem dX5_findSets_118 : decode cX5_findSets 118 = .ok (.lastore, 1) := by decide +kernel
theorem dX5_findSets_119 : decode cX5_findSets 119 = .ok (.iload 10, 2) := by decide +kernel
theorem dX5_findSets_121 : decode cX5_findSets 121 = .ok (.ifCond .ne 6, 3) := by decide +kernel
theorem dX5_findSets_124 : decode cX5_findSets 124 = .ok (.goto 20, 3) := by decide +kernel
theorem dX5_findSets_127 : decode cX5_findSets 127 = .ok (.lload 6, 2) := by decide +kernel
theorem dX5_findSets_129 : decode cX5_findSets 129 = .ok (.lconst 1, 1) := by decide +kernel
theorem dX5_findSets_130 : decode cX5_findSets 130 = .ok (.iload 8, 2) := by decide +kernel
theorem dX5_findSets_132 : decode cX5_findSets 132 = .ok (.lshl, 1) := by decide +kernel
theorem dX5_findSets_133 : decode cX5_findSets 133 = .ok (.lor, 1) := by decide +kernel
theorem dX5_findSets_134 : decode cX5_findSets 134 = .ok (.lstore 6, 2) := by decide +kernel
theorem dX5_findSets_136 : decode cX5_findSets 136 = .ok (.aload_n 0, 1) := by decide +kernel
theorem dX5_findSets_137 : decode cX5_findSets 137 = .ok (.iload 8, 2) := by decide +kernel
theorem dX5_findSets_139 : decode cX5_findSets 139 = .ok (.bipush (-9), 2) := by decide +kernel
theorem dX5_findSets_141 : decode cX5_findSets 141 = .ok (.invokevirtual 76, 3) := by decide +kernel
theorem dX5_findSets_144 : decode cX5_findSets 144 = .ok (.iinc 8 1, 3) := by decide +kernel
theorem dX5_findSets_147 : decode cX5_findSets 147 = .ok (.goto (-88), 3) := by decide +kernel
theorem dX5_findSets_150 : decode cX5_findSets 150 = .ok (.aload_n 0, 1) := by decide +kernel
theorem dX5_findSets_151 : decode cX5_findSets 151 = .ok (.lload 4, 2) := by decide +kernel
theorem dX5_findSets_153 : decode cX5_findSets 153 = .ok (.lload 6, 2) := by decide +kernel
theorem dX5_findSets_155 : decode cX5_findSets 155 = .ok (.aload_n 2, 1) := by decide +kernel
theorem dX5_findSets_156 : decode cX5_findSets 156 = .ok (.invokevirtual 80, 3) := by decide +kernel
theorem dX5_findSets_159 : decode cX5_findSets 159 = .ok (.return_, 1) := by decide +kernel
set_option maxRecDepth 20000 in
theorem ggX5_findPairs_X8_hasMinute : GoodIn wsX5_findPairs wsX8_hasMinute := goodIn_r _ [4, 5, 6, 3, 7] (by decide +kernel) (by decide +kernel)
set_option maxRecDepth 20000 in
theorem gX5_findPairs_X8_hasMinute_n57 : GoodIn wsX5_findPairs (wsX8_hasMinute) := ggX5_findPairs_X8_hasMinute
set_option maxRecDepth 20000 in
theorem ggX5_findPairs_X5_fits : GoodIn wsX5_findPairs wsX5_fits := goodIn_r _ [12, 13, 14, 15, 16, 17, 18, 19, 20, 21, 22, 23, 24, 25, 26, 27, 28, 29, 30, 31, 32, 33, 34, 35, 36, 37, 38, 39, 40, 41, 42, 43, 44, 45, 46, 47, 48, 2, 3, 4, 5, 6, 7, 49, 50, 51, 52, 53, 54, 55, 56, 57, 58, 59, 60, 61, 62, 63, 64, 65, 66, 67, 68, 69, 70, 71, 72, 73, 74, 75, 76, 77, 78, 79, 80, 81, 82, 83, 84, 85, 86, 87, 88, 89, 90, 91, 92, 93, 94, 95, 96, 97, 98, 99, 100, 101, 102, 103, 111, 112, 113, 114, 115, 116, 117, 118, 119, 120, 121, 122, 123, 124, 125, 126, 127, 128, 129, 130, 131, 132, 133, 134, 135, 136] (by decide +kernel) (by decide +kernel)
set_option maxRecDepth 20000 in
theorem gX5_findPairs_X5_fits : GoodIn wsX5_findPairs (wsV RX5 69 RX5 yX5_fits wsX5_fits) := goodIn_app (goodIn_of _ (by decide +kernel)) ggX5_findPairs_X5_fits
set_option maxRecDepth 20000 in
theorem ggX5_findPairs_X5_found : GoodIn wsX5_findPairs wsX5_found := goodIn_r _ [107, 108, 109, 110, 111, 112, 113, 114, 115, 116, 117, 118] (by decide +kernel) (by decide +kernel)
set_option maxRecDepth 20000 in
theorem gX5_findPairs_X5_found : GoodIn wsX5_findPairs (wsV RX5 76 RX5 yX5_found wsX5_found) := goodIn_app (goodIn_of _ (by decide +kernel)) ggX5_findPairs_X5_found
theorem dX5_findPairs_0 : decode cX5_findPairs 0 = .ok (.iconst 0, 1) := by decide +kernel
theorem dX5_findPairs_1 : decode cX5_findPairs 1 = .ok (.istore 6, 2) := by decide +kernel
theorem dX5_findPairs_3 : decode cX5_findPairs 3 = .ok (.iload 6, 2) := by decide +kernel
theorem dX5_findPairs_5 : decode cX5_findPairs 5 = .ok (.bipush 60, 2) := by decide +kernel
theorem dX5_findPairs_7 : decode cX5_findPairs 7 = .ok (.if_icmp .ge 104, 3) := by decide +kernel
theorem dX5_findPairs_10 : decode cX5_findPairs 10 = .ok (.iload 6, 2) := by decide +kernel
theorem dX5_findPairs_12 : decode cX5_findPairs 12 = .ok (.iconst 1, 1) := by decide +kernel
theorem dX5_findPairs_13 : decode cX5_findPairs 13 = .ok (.iadd, 1) := by decide +kernel
theorem dX5_findPairs_14 : decode cX5_findPairs 14 = .ok (.istore 7, 2) := by decide +kernel
theorem dX5_findPairs_16 : decode cX5_findPairs 16 = .ok (.iload 7, 2) := by decide +kernel
theorem dX5_findPairs_18 : decode cX5_findPairs 18 = .ok (.bipush 60, 2) := by decide +kernel
theorem dX5_findPairs_20 : decode cX5_findPairs 20 = .ok (.if_icmp .ge 85, 3) := by decide +kernel
theorem dX5_findPairs_23 : decode cX5_findPairs 23 = .ok (.lload_n 1, 1) := by decide +kernel
theorem dX5_findPairs_24 : decode cX5_findPairs 24 = .ok (.iload 6, 2) := by decide +kernel
theorem dX5_findPairs_26 : decode cX5_findPairs 26 = .ok (.invokestatic 57, 3) := by decide +kernel
theorem dX5_findPairs_29 : decode cX5_findPairs 29 = .ok (.ifCond .ne 14, 3) := by decide +kernel
theorem dX5_findPairs_32 : decode cX5_findPairs 32 = .ok (.lload_n 3, 1) := by decide +kernel
theorem dX5_findPairs_33 : decode cX5_findPairs 33 = .ok (.iload 7, 2) := by decide +kernel
theorem dX5_findPairs_35 : decode cX5_findPairs 35 = .ok (.invokestatic 57, 3) := by decide +kernel
theorem dX5_findPairs_38 : decode cX5_findPairs 38 = .ok (.istore 8, 2) := by decide +kernel
theorem dX5_findPairs_40 : decode cX5_findPairs 40 = .ok (.goto 46, 3) := by decide +kernel
theorem dX5_findPairs_43 : decode cX5_findPairs 43 = .ok (.aload_n 0, 1) := by decide +kernel
theorem dX5_findPairs_44 : decode cX5_findPairs 44 = .ok (.getfield 25, 3) := by decide +kernel
theorem dX5_findPairs_47 : decode cX5_findPairs 47 = .ok (.iload 6, 2) := by decide +kernel
theorem dX5_findPairs_49 : decode cX5_findPairs 49 = .ok (.laload, 1) := by decide +kernel
theorem dX5_findPairs_50 : decode cX5_findPairs 50 = .ok (.iload 7, 2) := by decide +kernel
theorem dX5_findPairs_52 : decode cX5_findPairs 52 = .ok (.invokestatic 57, 3) := by decide +kernel
theorem dX5_findPairs_55 : decode cX5_findPairs 55 = .ok (.ifCond .ne 14, 3) := by decide +kernel
theorem dX5_findPairs_58 : decode cX5_findPairs 58 = .ok (.lload_n 3, 1) := by decide +kernel
theorem dX5_findPairs_59 : decode cX5_findPairs 59 = .ok (.iload 6, 2) := by decide +kernel
theorem dX5_findPairs_61 : decode cX5_findPairs 61 = .ok (.invokestatic 57, 3) := by decide +kernel
theorem dX5_findPairs_64 : decode cX5_findPairs 64 = .ok (.istore 8, 2) := by decide +kernel
theorem dX5_findPairs_66 : decode cX5_findPairs 66 = .ok (.goto 20, 3) := by decide +kernel
theorem dX5_findPairs_69 : decode cX5_findPairs 69 = .ok (.aload_n 0, 1) := by decide +kernel
theorem dX5_findPairs_70 : decode cX5_findPairs 70 = .ok (.lconst 1, 1) := by decide +kernel
theorem dX5_findPairs_71 : decode cX5_findPairs 71 = .ok (.iload 6, 2) := by decide +kernel
theorem dX5_findPairs_73 : decode cX5_findPairs 73 = .ok (.lshl, 1) := by decide +kernel
theorem dX5_findPairs_74 : decode cX5_findPairs 74 = .ok (.lconst 1, 1) := by decide +kernel
theorem dX5_findPairs_75 : decode cX5_findPairs 75 = .ok (.iload 7, 2) := by decide +kernel
theorem dX5_findPairs_77 : decode cX5_findPairs 77 = .ok (.lshl, 1) := by decide +kernel
theorem dX5_findPairs_78 : decode cX5_findPairs 78 = .ok (.lor, 1) := by decide +kernel
theorem dX5_findPairs_79 : decode cX5_findPairs 79 = .ok (.aload 5, 2) := by decide +kernel
theorem dX5_findPairs_81 : decode cX5_findPairs 81 = .ok (.invokevirtual 69, 3) := by decide +kernel
theorem dX5_findPairs_84 : decode cX5_findPairs 84 = .ok (.istore 8, 2) := by decide +kernel
theorem dX5_findPairs_86 : decode cX5_findPairs 86 = .ok (.iload 8, 2) := by decide +kernel
theorem dX5_findPairs_88 : decode cX5_findPairs 88 = .ok (.ifCond .eq 11, 3) := by decide +kernel
theorem dX5_findPairs_91 : decode cX5_findPairs 91 = .ok (.aload_n 0, 1) := by decide +kernel
theorem dX5_findPairs_92 : decode cX5_findPairs 92 = .ok (.iload 6, 2) := by decide +kernel
theorem dX5_findPairs_94 : decode cX5_findPairs 94 = .ok (.iload 7, 2) := by decide +kernel
theorem dX5_findPairs_96 : decode cX5_findPairs 96 = .ok (.invokevirtual 76, 3) := by decide +kernel
theorem dX5_findPairs_99 : decode cX5_findPairs 99 = .ok (.iinc 7 1, 3) := by decide +kernel
theorem dX5_findPairs_102 : decode cX5_findPairs 102 = .ok (.goto (-86), 3) := by decide +kernel
theorem dX5_findPairs_105 : decode cX5_findPairs 105 = .ok (.iinc 6 1, 3) := by decide +kernel
theorem dX5_findPairs_108 : decode cX5_findPairs 108 = .ok (.goto (-105), 3) := by decide +kernel
theorem dX5_findPairs_111 : decode cX5_findPairs 111 = .ok (.return_, 1) := by decide +kernel
set_option maxRecDepth 20000 in
theorem ggX5_fits_X3_everybody : GoodIn wsX5_fits wsX3_everybody := goodIn_r _ [9, 10, 106, 107, 108, 109, 110, 111, 112] (by decide +kernel) (by decide +kernel)
set_option maxRecDepth 20000 in
theorem gX5_fits_X3_everybody : GoodIn wsX5_fits (wsV RX5 84 RX3 yX3_everybody wsX3_everybody) := goodIn_app (goodIn_of _ (by decide +kernel)) ggX5_fits_X3_everybody
set_option maxRecDepth 20000 in
theorem ggX5_fits_X4_whoAreRead : GoodIn wsX5_fits wsX4_whoAreRead := goodIn_r _ [15, 16, 17, 119, 120, 121] (by decide +kernel) (by decide +kernel)
set_option maxRecDepth 20000 in
theorem gX5_fits_X4_whoAreRead : GoodIn wsX5_fits (wsV RX5 88 RX4 yX4_whoAreRead wsX4_whoAreRead) := goodIn_app (goodIn_of _ (by decide +kernel)) ggX5_fits_X4_whoAreRead
set_option maxRecDepth 20000 in
theorem ggX5_fits_X1_run : GoodIn wsX5_fits wsX1_run := goodIn_r _ [22, 23, 24, 25, 26, 27, 28, 29, 30, 31, 32, 21, 33, 34, 35, 36, 37, 38, 39, 40, 41, 42, 43, 44, 45, 46, 47, 48, 49, 50, 51, 52, 53, 54, 55, 56, 57, 58, 59, 60, 61, 62, 63, 64, 65, 66, 67, 68, 69, 70, 71, 72, 73, 74, 75, 76, 77, 78, 79, 80, 81, 82, 83, 84, 85, 86, 87, 88, 89, 90, 91, 92, 113, 114, 115, 116, 117, 118, 122, 123, 106, 107, 108, 109, 110, 111, 112] (by decide +kernel) (by decide +kernel)
set_option maxRecDepth 20000 in
theorem gX5_fits_X1_run : GoodIn wsX5_fits (wsV RX5 93 RX1 yX1_run wsX1_run) := goodIn_app (goodIn_of _ (by decide +kernel)) ggX5_fits_X1_run
set_option maxRecDepth 20000 in
theorem ggX5_fits_X4_areSo : GoodIn wsX5_fits wsX4_areSo := goodIn_r _ [96, 16, 17, 97, 119, 120, 121] (by decide +kernel) (by decide +kernel)
set_option maxRecDepth 20000 in
theorem gX5_fits_X4_areSo : GoodIn wsX5_fits (wsV RX5 101 RX4 yX4_areSo wsX4_areSo) := goodIn_app (goodIn_of _ (by decide +kernel)) ggX5_fits_X4_areSo
theorem dX5_fits_0 : decode cX5_fits 0 = .ok (.aload_n 0, 1) := by decide +kernel
theorem dX5_fits_1 : decode cX5_fits 1 = .ok (.getfield 21, 3) := by decide +kernel
theorem dX5_fits_4 : decode cX5_fits 4 = .ok (.lload_n 1, 1) := by decide +kernel
theorem dX5_fits_5 : decode cX5_fits 5 = .ok (.putfield 53, 3) := by decide +kernel
theorem dX5_fits_8 : decode cX5_fits 8 = .ok (.aload_n 0, 1) := by decide +kernel
theorem dX5_fits_9 : decode cX5_fits 9 = .ok (.getfield 12, 3) := by decide +kernel
theorem dX5_fits_12 : decode cX5_fits 12 = .ok (.aload_n 0, 1) := by decide +kernel
theorem dX5_fits_13 : decode cX5_fits 13 = .ok (.getfield 21, 3) := by decide +kernel
theorem dX5_fits_16 : decode cX5_fits 16 = .ok (.aload_n 0, 1) := by decide +kernel
theorem dX5_fits_17 : decode cX5_fits 17 = .ok (.getfield 21, 3) := by decide +kernel
theorem dX5_fits_20 : decode cX5_fits 20 = .ok (.invokevirtual 84, 3) := by decide +kernel
theorem dX5_fits_23 : decode cX5_fits 23 = .ok (.aload_n 3, 1) := by decide +kernel
theorem dX5_fits_24 : decode cX5_fits 24 = .ok (.invokevirtual 88, 3) := by decide +kernel
theorem dX5_fits_27 : decode cX5_fits 27 = .ok (.sipush 199, 3) := by decide +kernel
theorem dX5_fits_30 : decode cX5_fits 30 = .ok (.invokevirtual 93, 3) := by decide +kernel
theorem dX5_fits_33 : decode cX5_fits 33 = .ok (.aload_n 3, 1) := by decide +kernel
theorem dX5_fits_34 : decode cX5_fits 34 = .ok (.aload_n 0, 1) := by decide +kernel
theorem dX5_fits_35 : decode cX5_fits 35 = .ok (.getfield 12, 3) := by decide +kernel
theorem dX5_fits_38 : decode cX5_fits 38 = .ok (.getfield 97, 3) := by decide +kernel
theorem dX5_fits_41 : decode cX5_fits 41 = .ok (.invokevirtual 101, 3) := by decide +kernel
theorem dX5_fits_44 : decode cX5_fits 44 = .ok (.ireturn, 1) := by decide +kernel
theorem dX5_found_0 : decode cX5_found 0 = .ok (.aload_n 0, 1) := by decide +kernel
theorem dX5_found_1 : decode cX5_found 1 = .ok (.getfield 36, 3) := by decide +kernel
theorem dX5_found_4 : decode cX5_found 4 = .ok (.ifCond .ne 13, 3) := by decide +kernel
theorem dX5_found_7 : decode cX5_found 7 = .ok (.aload_n 0, 1) := by decide +kernel
theorem dX5_found_8 : decode cX5_found 8 = .ok (.iload_n 1, 1) := by decide +kernel
theorem dX5_found_9 : decode cX5_found 9 = .ok (.putfield 39, 3) := by decide +kernel
theorem dX5_found_12 : decode cX5_found 12 = .ok (.aload_n 0, 1) := by decide +kernel
theorem dX5_found_13 : decode cX5_found 13 = .ok (.iload_n 2, 1) := by decide +kernel
theorem dX5_found_14 : decode cX5_found 14 = .ok (.putfield 42, 3) := by decide +kernel
theorem dX5_found_17 : decode cX5_found 17 = .ok (.aload_n 0, 1) := by decide +kernel
theorem dX5_found_18 : decode cX5_found 18 = .ok (.dup, 1) := by decide +kernel
theorem dX5_found_19 : decode cX5_found 19 = .ok (.getfield 36, 3) := by decide +kernel
theorem dX5_found_22 : decode cX5_found 22 = .ok (.iconst 1, 1) := by decide +kernel
theorem dX5_found_23 : decode cX5_found 23 = .ok (.iadd, 1) := by decide +kernel
theorem dX5_found_24 : decode cX5_found 24 = .ok (.putfield 36, 3) := by decide +kernel
theorem dX5_found_27 : decode cX5_found 27 = .ok (.return_, 1) := by decide +kernel
set_option maxRecDepth 20000 in
theorem ggX5_greatestServedBy_X3_everybody : GoodIn wsX5_greatestServedBy wsX3_everybody := goodIn_r _ [7, 8, 105, 106, 107, 108, 109, 110, 111] (by decide +kernel) (by decide +kernel)
set_option maxRecDepth 20000 in
theorem gX5_greatestServedBy_X3_everybody : GoodIn wsX5_greatestServedBy (wsV RX5 84 RX3 yX3_everybody wsX3_everybody) := goodIn_app (goodIn_of _ (by decide +kernel)) ggX5_greatestServedBy_X3_everybody
set_option maxRecDepth 20000 in
theorem ggX5_greatestServedBy_J6_bitCount_0f7a4 : GoodIn wsX5_greatestServedBy wsJ6_bitCount_0f7a4 := goodIn_r _ [12, 13, 14, 15] (by decide +kernel) (by decide +kernel)
set_option maxRecDepth 20000 in
theorem gX5_greatestServedBy_J6_bitCount_0f7a4 : GoodIn wsX5_greatestServedBy (va_wsS RX5 105 yJ6_bitCount_0f7a4 wsJ6_bitCount_0f7a4) := goodIn_app (goodIn_of _ (by decide +kernel)) ggX5_greatestServedBy_J6_bitCount_0f7a4
set_option maxRecDepth 20000 in
theorem ggX5_greatestServedBy_X1_run : GoodIn wsX5_greatestServedBy wsX1_run := goodIn_r _ [20, 21, 22, 23, 24, 25, 26, 27, 28, 29, 30, 19, 31, 32, 33, 34, 35, 36, 37, 38, 39, 40, 41, 42, 43, 44, 45, 46, 47, 48, 49, 50, 51, 52, 53, 54, 55, 56, 57, 58, 59, 60, 61, 62, 63, 64, 65, 66, 67, 68, 69, 70, 71, 72, 73, 74, 75, 76, 77, 78, 79, 80, 81, 82, 83, 84, 85, 86, 87, 88, 89, 90, 99, 100, 101, 102, 103, 104, 112, 113, 105, 106, 107, 108, 109, 110, 111] (by decide +kernel) (by decide +kernel)
set_option maxRecDepth 20000 in
theorem gX5_greatestServedBy_X1_run : GoodIn wsX5_greatestServedBy (wsV RX5 93 RX1 yX1_run wsX1_run) := goodIn_app (goodIn_of _ (by decide +kernel)) ggX5_greatestServedBy_X1_run
theorem dX5_greatestServedBy_0 : decode cX5_greatestServedBy 0 = .ok (.iconst 0, 1) := by decide +kernel
theorem dX5_greatestServedBy_1 : decode cX5_greatestServedBy 1 = .ok (.istore_n 3, 1) := by decide +kernel
theorem dX5_greatestServedBy_2 : decode cX5_greatestServedBy 2 = .ok (.iconst 1, 1) := by decide +kernel
theorem dX5_greatestServedBy_3 : decode cX5_greatestServedBy 3 = .ok (.istore 4, 2) := by decide +kernel
theorem dX5_greatestServedBy_5 : decode cX5_greatestServedBy 5 = .ok (.iload 4, 2) := by decide +kernel
theorem dX5_greatestServedBy_7 : decode cX5_greatestServedBy 7 = .ok (.aload_n 1, 1) := by decide +kernel
theorem dX5_greatestServedBy_8 : decode cX5_greatestServedBy 8 = .ok (.invokevirtual 84, 3) := by decide +kernel
theorem dX5_greatestServedBy_11 : decode cX5_greatestServedBy 11 = .ok (.if_icmp .gt 50, 3) := by decide +kernel
theorem dX5_greatestServedBy_14 : decode cX5_greatestServedBy 14 = .ok (.iload 4, 2) := by decide +kernel
theorem dX5_greatestServedBy_16 : decode cX5_greatestServedBy 16 = .ok (.invokestatic 105, 3) := by decide +kernel
theorem dX5_greatestServedBy_19 : decode cX5_greatestServedBy 19 = .ok (.iload_n 3, 1) := by decide +kernel
theorem dX5_greatestServedBy_20 : decode cX5_greatestServedBy 20 = .ok (.invokestatic 105, 3) := by decide +kernel
theorem dX5_greatestServedBy_23 : decode cX5_greatestServedBy 23 = .ok (.if_icmp .gt 6, 3) := by decide +kernel
theorem dX5_greatestServedBy_26 : decode cX5_greatestServedBy 26 = .ok (.goto 29, 3) := by decide +kernel
theorem dX5_greatestServedBy_29 : decode cX5_greatestServedBy 29 = .ok (.aload_n 0, 1) := by decide +kernel
theorem dX5_greatestServedBy_30 : decode cX5_greatestServedBy 30 = .ok (.getfield 12, 3) := by decide +kernel
theorem dX5_greatestServedBy_33 : decode cX5_greatestServedBy 33 = .ok (.aload_n 1, 1) := by decide +kernel
theorem dX5_greatestServedBy_34 : decode cX5_greatestServedBy 34 = .ok (.iload 4, 2) := by decide +kernel
theorem dX5_greatestServedBy_36 : decode cX5_greatestServedBy 36 = .ok (.iload 4, 2) := by decide +kernel
theorem dX5_greatestServedBy_38 : decode cX5_greatestServedBy 38 = .ok (.iload_n 2, 1) := by decide +kernel
theorem dX5_greatestServedBy_39 : decode cX5_greatestServedBy 39 = .ok (.invokevirtual 93, 3) := by decide +kernel
theorem dX5_greatestServedBy_42 : decode cX5_greatestServedBy 42 = .ok (.aload_n 0, 1) := by decide +kernel
theorem dX5_greatestServedBy_43 : decode cX5_greatestServedBy 43 = .ok (.getfield 12, 3) := by decide +kernel
theorem dX5_greatestServedBy_46 : decode cX5_greatestServedBy 46 = .ok (.getfield 111, 3) := by decide +kernel
theorem dX5_greatestServedBy_49 : decode cX5_greatestServedBy 49 = .ok (.ifCond .ne 6, 3) := by decide +kernel
theorem dX5_greatestServedBy_52 : decode cX5_greatestServedBy 52 = .ok (.iload 4, 2) := by decide +kernel
theorem dX5_greatestServedBy_54 : decode cX5_greatestServedBy 54 = .ok (.istore_n 3, 1) := by decide +kernel
theorem dX5_greatestServedBy_55 : decode cX5_greatestServedBy 55 = .ok (.iinc 4 1, 3) := by decide +kernel
theorem dX5_greatestServedBy_58 : decode cX5_greatestServedBy 58 = .ok (.goto (-53), 3) := by decide +kernel
theorem dX5_greatestServedBy_61 : decode cX5_greatestServedBy 61 = .ok (.iload_n 3, 1) := by decide +kernel
theorem dX5_greatestServedBy_62 : decode cX5_greatestServedBy 62 = .ok (.ireturn, 1) := by decide +kernel
theorem dX6_init_0 : decode cX6_init 0 = .ok (.aload_n 0, 1) := by decide +kernel
theorem dX6_init_1 : decode cX6_init 1 = .ok (.invokespecial 3, 3) := by decide +kernel
theorem dX6_init_4 : decode cX6_init 4 = .ok (.aload_n 0, 1) := by decide +kernel
theorem dX6_init_5 : decode cX6_init 5 = .ok (.bipush 60, 2) := by decide +kernel
theorem dX6_init_7 : decode cX6_init 7 = .ok (.newarray .int, 2) := by decide +kernel
theorem dX6_init_9 : decode cX6_init 9 = .ok (.putfield 9, 3) := by decide +kernel
theorem dX6_init_12 : decode cX6_init 12 = .ok (.aload_n 0, 1) := by decide +kernel
theorem dX6_init_13 : decode cX6_init 13 = .ok (.iconst (-1), 1) := by decide +kernel
theorem dX6_init_14 : decode cX6_init 14 = .ok (.putfield 15, 3) := by decide +kernel
theorem dX6_init_17 : decode cX6_init 17 = .ok (.aload_n 0, 1) := by decide +kernel
theorem dX6_init_18 : decode cX6_init 18 = .ok (.iconst 0, 1) := by decide +kernel
theorem dX6_init_19 : decode cX6_init 19 = .ok (.putfield 19, 3) := by decide +kernel
theorem dX6_init_22 : decode cX6_init 22 = .ok (.return_, 1) := by decide +kernel
theorem dX6_hasNothing_0 : decode cX6_hasNothing 0 = .ok (.aload_n 0, 1) := by decide +kernel
theorem dX6_hasNothing_1 : decode cX6_hasNothing 1 = .ok (.getfield 15, 3) := by decide +kernel
theorem dX6_hasNothing_4 : decode cX6_hasNothing 4 = .ok (.iconst (-1), 1) := by decide +kernel
theorem dX6_hasNothing_5 : decode cX6_hasNothing 5 = .ok (.if_icmp .ne 7, 3) := by decide +kernel
theorem dX6_hasNothing_8 : decode cX6_hasNothing 8 = .ok (.iconst 1, 1) := by decide +kernel
theorem dX6_hasNothing_9 : decode cX6_hasNothing 9 = .ok (.goto 4, 3) := by decide +kernel
theorem dX6_hasNothing_12 : decode cX6_hasNothing 12 = .ok (.iconst 0, 1) := by decide +kernel
theorem dX6_hasNothing_13 : decode cX6_hasNothing 13 = .ok (.ireturn, 1) := by decide +kernel
theorem dX6_isOfAnother_0 : decode cX6_isOfAnother 0 = .ok (.aload_n 0, 1) := by decide +kernel
theorem dX6_isOfAnother_1 : decode cX6_isOfAnother 1 = .ok (.getfield 15, 3) := by decide +kernel
theorem dX6_isOfAnother_4 : decode cX6_isOfAnother 4 = .ok (.iconst (-1), 1) := by decide +kernel
theorem dX6_isOfAnother_5 : decode cX6_isOfAnother 5 = .ok (.if_icmp .eq 15, 3) := by decide +kernel
theorem dX6_isOfAnother_8 : decode cX6_isOfAnother 8 = .ok (.aload_n 0, 1) := by decide +kernel
theorem dX6_isOfAnother_9 : decode cX6_isOfAnother 9 = .ok (.getfield 15, 3) := by decide +kernel
theorem dX6_isOfAnother_12 : decode cX6_isOfAnother 12 = .ok (.iload_n 1, 1) := by decide +kernel
theorem dX6_isOfAnother_13 : decode cX6_isOfAnother 13 = .ok (.if_icmp .eq 7, 3) := by decide +kernel
theorem dX6_isOfAnother_16 : decode cX6_isOfAnother 16 = .ok (.iconst 1, 1) := by decide +kernel
theorem dX6_isOfAnother_17 : decode cX6_isOfAnother 17 = .ok (.goto 4, 3) := by decide +kernel
theorem dX6_isOfAnother_20 : decode cX6_isOfAnother 20 = .ok (.iconst 0, 1) := by decide +kernel
theorem dX6_isOfAnother_21 : decode cX6_isOfAnother 21 = .ok (.ireturn, 1) := by decide +kernel
theorem dX6_holds_0 : decode cX6_holds 0 = .ok (.iload_n 1, 1) := by decide +kernel
theorem dX6_holds_1 : decode cX6_holds 1 = .ok (.ifCond .lt 29, 3) := by decide +kernel
theorem dX6_holds_4 : decode cX6_holds 4 = .ok (.iload_n 2, 1) := by decide +kernel
theorem dX6_holds_5 : decode cX6_holds 5 = .ok (.ifCond .lt 25, 3) := by decide +kernel
theorem dX6_holds_8 : decode cX6_holds 8 = .ok (.iload_n 1, 1) := by decide +kernel
theorem dX6_holds_9 : decode cX6_holds 9 = .ok (.aload_n 0, 1) := by decide +kernel
theorem dX6_holds_10 : decode cX6_holds 10 = .ok (.getfield 19, 3) := by decide +kernel
theorem dX6_holds_13 : decode cX6_holds 13 = .ok (.if_icmp .gt 17, 3) := by decide +kernel
theorem dX6_holds_16 : decode cX6_holds 16 = .ok (.iload_n 2, 1) := by decide +kernel
theorem dX6_holds_17 : decode cX6_holds 17 = .ok (.aload_n 0, 1) := by decide +kernel
theorem dX6_holds_18 : decode cX6_holds 18 = .ok (.getfield 19, 3) := by decide +kernel
theorem dX6_holds_21 : decode cX6_holds 21 = .ok (.iload_n 1, 1) := by decide +kernel
theorem dX6_holds_22 : decode cX6_holds 22 = .ok (.isub, 1) := by decide +kernel
theorem dX6_holds_23 : decode cX6_holds 23 = .ok (.if_icmp .gt 7, 3) := by decide +kernel
theorem dX6_holds_26 : decode cX6_holds 26 = .ok (.iconst 1, 1) := by decide +kernel
theorem dX6_holds_27 : decode cX6_holds 27 = .ok (.goto 4, 3) := by decide +kernel
theorem dX6_holds_30 : decode cX6_holds 30 = .ok (.iconst 0, 1) := by decide +kernel
theorem dX6_holds_31 : decode cX6_holds 31 = .ok (.ireturn, 1) := by decide +kernel
theorem dX6_begin_0 : decode cX6_begin 0 = .ok (.iload_n 2, 1) := by decide +kernel
theorem dX6_begin_1 : decode cX6_begin 1 = .ok (.ifCond .lt 9, 3) := by decide +kernel
theorem dX6_begin_4 : decode cX6_begin 4 = .ok (.iload_n 2, 1) := by decide +kernel
theorem dX6_begin_5 : decode cX6_begin 5 = .ok (.bipush 60, 2) := by decide +kernel
theorem dX6_begin_7 : decode cX6_begin 7 = .ok (.if_icmp .le 4, 3) := by decide +kernel
theorem dX6_begin_10 : decode cX6_begin 10 = .ok (.return_, 1) := by decide +kernel
theorem dX6_begin_11 : decode cX6_begin 11 = .ok (.aload_n 0, 1) := by decide +kernel
theorem dX6_begin_12 : decode cX6_begin 12 = .ok (.iload_n 1, 1) := by decide +kernel
theorem dX6_begin_13 : decode cX6_begin 13 = .ok (.putfield 15, 3) := by decide +kernel
theorem dX6_begin_16 : decode cX6_begin 16 = .ok (.aload_n 0, 1) := by decide +kernel
theorem dX6_begin_17 : decode cX6_begin 17 = .ok (.iload_n 2, 1) := by decide +kernel
theorem dX6_begin_18 : decode cX6_begin 18 = .ok (.putfield 19, 3) := by decide +kernel
theorem dX6_begin_21 : decode cX6_begin 21 = .ok (.iconst 0, 1) := by decide +kernel
theorem dX6_begin_22 : decode cX6_begin 22 = .ok (.istore_n 3, 1) := by decide +kernel
theorem dX6_begin_23 : decode cX6_begin 23 = .ok (.iload_n 3, 1) := by decide +kernel
theorem dX6_begin_24 : decode cX6_begin 24 = .ok (.bipush 60, 2) := by decide +kernel
theorem dX6_begin_26 : decode cX6_begin 26 = .ok (.if_icmp .ge 16, 3) := by decide +kernel
theorem dX6_begin_29 : decode cX6_begin 29 = .ok (.aload_n 0, 1) := by decide +kernel
theorem dX6_begin_30 : decode cX6_begin 30 = .ok (.getfield 9, 3) := by decide +kernel
theorem dX6_begin_33 : decode cX6_begin 33 = .ok (.iload_n 3, 1) := by decide +kernel
theorem dX6_begin_34 : decode cX6_begin 34 = .ok (.iconst 0, 1) := by decide +kernel
theorem dX6_begin_35 : decode cX6_begin 35 = .ok (.iastore, 1) := by decide +kernel
theorem dX6_begin_36 : decode cX6_begin 36 = .ok (.iinc 3 1, 3) := by decide +kernel
theorem dX6_begin_39 : decode cX6_begin 39 = .ok (.goto (-16), 3) := by decide +kernel
theorem dX6_begin_42 : decode cX6_begin 42 = .ok (.return_, 1) := by decide +kernel
theorem dX6_drop_0 : decode cX6_drop 0 = .ok (.aload_n 0, 1) := by decide +kernel
theorem dX6_drop_1 : decode cX6_drop 1 = .ok (.iconst (-1), 1) := by decide +kernel
theorem dX6_drop_2 : decode cX6_drop 2 = .ok (.putfield 15, 3) := by decide +kernel
theorem dX6_drop_5 : decode cX6_drop 5 = .ok (.aload_n 0, 1) := by decide +kernel
theorem dX6_drop_6 : decode cX6_drop 6 = .ok (.iconst 0, 1) := by decide +kernel
theorem dX6_drop_7 : decode cX6_drop 7 = .ok (.putfield 19, 3) := by decide +kernel
theorem dX6_drop_10 : decode cX6_drop 10 = .ok (.return_, 1) := by decide +kernel
theorem dX6_at_0 : decode cX6_at 0 = .ok (.iload_n 1, 1) := by decide +kernel
theorem dX6_at_1 : decode cX6_at 1 = .ok (.ifCond .lt 20, 3) := by decide +kernel
theorem dX6_at_4 : decode cX6_at 4 = .ok (.iload_n 1, 1) := by decide +kernel
theorem dX6_at_5 : decode cX6_at 5 = .ok (.aload_n 0, 1) := by decide +kernel
theorem dX6_at_6 : decode cX6_at 6 = .ok (.getfield 19, 3) := by decide +kernel
theorem dX6_at_9 : decode cX6_at 9 = .ok (.if_icmp .ge 12, 3) := by decide +kernel
theorem dX6_at_12 : decode cX6_at 12 = .ok (.aload_n 0, 1) := by decide +kernel
theorem dX6_at_13 : decode cX6_at 13 = .ok (.getfield 9, 3) := by decide +kernel
theorem dX6_at_16 : decode cX6_at 16 = .ok (.iload_n 1, 1) := by decide +kernel
theorem dX6_at_17 : decode cX6_at 17 = .ok (.iaload, 1) := by decide +kernel
theorem dX6_at_18 : decode cX6_at 18 = .ok (.goto 4, 3) := by decide +kernel
theorem dX6_at_21 : decode cX6_at 21 = .ok (.iconst 0, 1) := by decide +kernel
theorem dX6_at_22 : decode cX6_at 22 = .ok (.ireturn, 1) := by decide +kernel
set_option maxRecDepth 20000 in
theorem ggX6_write_X6_cut : GoodIn wsX6_write wsX6_cut := goodIn_r _ [7, 8, 9, 10, 11] (by decide +kernel) (by decide +kernel)
set_option maxRecDepth 20000 in
theorem gX6_write_X6_cut : GoodIn wsX6_write (wsV RX6 22 RX6 yX6_cut wsX6_cut) := goodIn_app (goodIn_of _ (by decide +kernel)) ggX6_write_X6_cut
theorem dX6_write_0 : decode cX6_write 0 = .ok (.iload_n 1, 1) := by decide +kernel
theorem dX6_write_1 : decode cX6_write 1 = .ok (.ifCond .lt 11, 3) := by decide +kernel
theorem dX6_write_4 : decode cX6_write 4 = .ok (.iload_n 1, 1) := by decide +kernel
theorem dX6_write_5 : decode cX6_write 5 = .ok (.aload_n 0, 1) := by decide +kernel
theorem dX6_write_6 : decode cX6_write 6 = .ok (.getfield 19, 3) := by decide +kernel
theorem dX6_write_9 : decode cX6_write 9 = .ok (.if_icmp .lt 4, 3) := by decide +kernel
theorem dX6_write_12 : decode cX6_write 12 = .ok (.return_, 1) := by decide +kernel
theorem dX6_write_13 : decode cX6_write 13 = .ok (.aload_n 0, 1) := by decide +kernel
theorem dX6_write_14 : decode cX6_write 14 = .ok (.getfield 9, 3) := by decide +kernel
theorem dX6_write_17 : decode cX6_write 17 = .ok (.iload_n 1, 1) := by decide +kernel
theorem dX6_write_18 : decode cX6_write 18 = .ok (.aload_n 0, 1) := by decide +kernel
theorem dX6_write_19 : decode cX6_write 19 = .ok (.iload_n 2, 1) := by decide +kernel
theorem dX6_write_20 : decode cX6_write 20 = .ok (.invokevirtual 22, 3) := by decide +kernel
theorem dX6_write_23 : decode cX6_write 23 = .ok (.iastore, 1) := by decide +kernel
theorem dX6_write_24 : decode cX6_write 24 = .ok (.return_, 1) := by decide +kernel
theorem dX6_cut_0 : decode cX6_cut 0 = .ok (.aload_n 0, 1) := by decide +kernel
theorem dX6_cut_1 : decode cX6_cut 1 = .ok (.getfield 15, 3) := by decide +kernel
theorem dX6_cut_4 : decode cX6_cut 4 = .ok (.ifCond .ne 6, 3) := by decide +kernel
theorem dX6_cut_7 : decode cX6_cut 7 = .ok (.iload_n 1, 1) := by decide +kernel
theorem dX6_cut_8 : decode cX6_cut 8 = .ok (.i2b, 1) := by decide +kernel
theorem dX6_cut_9 : decode cX6_cut 9 = .ok (.ireturn, 1) := by decide +kernel
theorem dX6_cut_10 : decode cX6_cut 10 = .ok (.aload_n 0, 1) := by decide +kernel
theorem dX6_cut_11 : decode cX6_cut 11 = .ok (.getfield 15, 3) := by decide +kernel
theorem dX6_cut_14 : decode cX6_cut 14 = .ok (.iconst 1, 1) := by decide +kernel
theorem dX6_cut_15 : decode cX6_cut 15 = .ok (.if_icmp .ne 8, 3) := by decide +kernel
theorem dX6_cut_18 : decode cX6_cut 18 = .ok (.iload_n 1, 1) := by decide +kernel
theorem dX6_cut_19 : decode cX6_cut 19 = .ok (.i2s, 1) := by decide +kernel
theorem dX6_cut_20 : decode cX6_cut 20 = .ok (.goto 4, 3) := by decide +kernel
theorem dX6_cut_23 : decode cX6_cut 23 = .ok (.iload_n 1, 1) := by decide +kernel
theorem dX6_cut_24 : decode cX6_cut 24 = .ok (.ireturn, 1) := by decide +kernel
set_option maxRecDepth 20000 in
theorem ggX7_firstFault_X6_at : GoodIn wsX7_firstFault wsX6_at := goodIn_r _ [5, 6, 7, 12, 13, 14] (by decide +kernel) (by decide +kernel)
set_option maxRecDepth 20000 in
theorem gX7_firstFault_X6_at : GoodIn wsX7_firstFault (wsV RX7 11 RX6 yX6_at wsX6_at) := goodIn_app (goodIn_of _ (by decide +kernel)) ggX7_firstFault_X6_at
set_option maxRecDepth 20000 in
theorem ggX7_firstFault_X7_goesOn : GoodIn wsX7_firstFault wsX7_goesOn := goodIn_r _ [11] (by decide +kernel) (by decide +kernel)
set_option maxRecDepth 20000 in
theorem gX7_firstFault_X7_goesOn : GoodIn wsX7_firstFault (va_wsS RX7 17 yX7_goesOn wsX7_goesOn) := goodIn_app (goodIn_of _ (by decide +kernel)) ggX7_firstFault_X7_goesOn
theorem dX7_firstFault_0 : decode cX7_firstFault 0 = .ok (.iconst 0, 1) := by decide +kernel
theorem dX7_firstFault_1 : decode cX7_firstFault 1 = .ok (.istore_n 3, 1) := by decide +kernel
theorem dX7_firstFault_2 : decode cX7_firstFault 2 = .ok (.iload_n 3, 1) := by decide +kernel
theorem dX7_firstFault_3 : decode cX7_firstFault 3 = .ok (.iload_n 2, 1) := by decide +kernel
theorem dX7_firstFault_4 : decode cX7_firstFault 4 = .ok (.if_icmp .ge 25, 3) := by decide +kernel
theorem dX7_firstFault_7 : decode cX7_firstFault 7 = .ok (.iload_n 3, 1) := by decide +kernel
theorem dX7_firstFault_8 : decode cX7_firstFault 8 = .ok (.aload_n 0, 1) := by decide +kernel
theorem dX7_firstFault_9 : decode cX7_firstFault 9 = .ok (.iload_n 1, 1) := by decide +kernel
theorem dX7_firstFault_10 : decode cX7_firstFault 10 = .ok (.iload_n 3, 1) := by decide +kernel
theorem dX7_firstFault_11 : decode cX7_firstFault 11 = .ok (.iadd, 1) := by decide +kernel
theorem dX7_firstFault_12 : decode cX7_firstFault 12 = .ok (.invokevirtual 11, 3) := by decide +kernel
theorem dX7_firstFault_15 : decode cX7_firstFault 15 = .ok (.invokestatic 17, 3) := by decide +kernel
theorem dX7_firstFault_18 : decode cX7_firstFault 18 = .ok (.ifCond .ne 5, 3) := by decide +kernel
theorem dX7_firstFault_21 : decode cX7_firstFault 21 = .ok (.iload_n 3, 1) := by decide +kernel
theorem dX7_firstFault_22 : decode cX7_firstFault 22 = .ok (.ireturn, 1) := by decide +kernel
theorem dX7_firstFault_23 : decode cX7_firstFault 23 = .ok (.iinc 3 1, 3) := by decide +kernel
theorem dX7_firstFault_26 : decode cX7_firstFault 26 = .ok (.goto (-24), 3) := by decide +kernel
theorem dX7_firstFault_29 : decode cX7_firstFault 29 = .ok (.iload_n 2, 1) := by decide +kernel
theorem dX7_firstFault_30 : decode cX7_firstFault 30 = .ok (.iconst 2, 1) := by decide +kernel
theorem dX7_firstFault_31 : decode cX7_firstFault 31 = .ok (.if_icmp .le 16, 3) := by decide +kernel
theorem dX7_firstFault_34 : decode cX7_firstFault 34 = .ok (.iload_n 2, 1) := by decide +kernel
theorem dX7_firstFault_35 : decode cX7_firstFault 35 = .ok (.iconst 2, 1) := by decide +kernel
theorem dX7_firstFault_36 : decode cX7_firstFault 36 = .ok (.isub, 1) := by decide +kernel
theorem dX7_firstFault_37 : decode cX7_firstFault 37 = .ok (.iconst 5, 1) := by decide +kernel
theorem dX7_firstFault_38 : decode cX7_firstFault 38 = .ok (.irem, 1) := by decide +kernel
theorem dX7_firstFault_39 : decode cX7_firstFault 39 = .ok (.ifCond .ne 8, 3) := by decide +kernel
theorem dX7_firstFault_42 : decode cX7_firstFault 42 = .ok (.bipush (-9), 2) := by decide +kernel
theorem dX7_firstFault_44 : decode cX7_firstFault 44 = .ok (.goto 4, 3) := by decide +kernel
theorem dX7_firstFault_47 : decode cX7_firstFault 47 = .ok (.iload_n 2, 1) := by decide +kernel
theorem dX7_firstFault_48 : decode cX7_firstFault 48 = .ok (.ireturn, 1) := by decide +kernel
theorem dX7_goesOn_0 : decode cX7_goesOn 0 = .ok (.iload_n 0, 1) := by decide +kernel
theorem dX7_goesOn_1 : decode cX7_goesOn 1 = .ok (.ifCond .ne 15, 3) := by decide +kernel
theorem dX7_goesOn_4 : decode cX7_goesOn 4 = .ok (.iload_n 1, 1) := by decide +kernel
theorem dX7_goesOn_5 : decode cX7_goesOn 5 = .ok (.bipush 100, 2) := by decide +kernel
theorem dX7_goesOn_7 : decode cX7_goesOn 7 = .ok (.if_icmp .ne 7, 3) := by decide +kernel
theorem dX7_goesOn_10 : decode cX7_goesOn 10 = .ok (.iconst 1, 1) := by decide +kernel
theorem dX7_goesOn_11 : decode cX7_goesOn 11 = .ok (.goto 4, 3) := by decide +kernel
theorem dX7_goesOn_14 : decode cX7_goesOn 14 = .ok (.iconst 0, 1) := by decide +kernel
theorem dX7_goesOn_15 : decode cX7_goesOn 15 = .ok (.ireturn, 1) := by decide +kernel
theorem dX7_goesOn_16 : decode cX7_goesOn 16 = .ok (.iload_n 0, 1) := by decide +kernel
theorem dX7_goesOn_17 : decode cX7_goesOn 17 = .ok (.iconst 1, 1) := by decide +kernel
theorem dX7_goesOn_18 : decode cX7_goesOn 18 = .ok (.if_icmp .ne 21, 3) := by decide +kernel
theorem dX7_goesOn_21 : decode cX7_goesOn 21 = .ok (.iload_n 1, 1) := by decide +kernel
theorem dX7_goesOn_22 : decode cX7_goesOn 22 = .ok (.bipush 48, 2) := by decide +kernel
theorem dX7_goesOn_24 : decode cX7_goesOn 24 = .ok (.if_icmp .lt 13, 3) := by decide +kernel
theorem dX7_goesOn_27 : decode cX7_goesOn 27 = .ok (.iload_n 1, 1) := by decide +kernel
theorem dX7_goesOn_28 : decode cX7_goesOn 28 = .ok (.bipush 50, 2) := by decide +kernel
theorem dX7_goesOn_30 : decode cX7_goesOn 30 = .ok (.if_icmp .gt 7, 3) := by decide +kernel
theorem dX7_goesOn_33 : decode cX7_goesOn 33 = .ok (.iconst 1, 1) := by decide +kernel
theorem dX7_goesOn_34 : decode cX7_goesOn 34 = .ok (.goto 4, 3) := by decide +kernel
theorem dX7_goesOn_37 : decode cX7_goesOn 37 = .ok (.iconst 0, 1) := by decide +kernel
theorem dX7_goesOn_38 : decode cX7_goesOn 38 = .ok (.ireturn, 1) := by decide +kernel
theorem dX7_goesOn_39 : decode cX7_goesOn 39 = .ok (.iload_n 0, 1) := by decide +kernel
theorem dX7_goesOn_40 : decode cX7_goesOn 40 = .ok (.bipush 37, 2) := by decide +kernel
theorem dX7_goesOn_42 : decode cX7_goesOn 42 = .ok (.if_icmp .lt 5, 3) := by decide +kernel
theorem dX7_goesOn_45 : decode cX7_goesOn 45 = .ok (.iconst 0, 1) := by decide +kernel
theorem dX7_goesOn_46 : decode cX7_goesOn 46 = .ok (.ireturn, 1) := by decide +kernel
theorem dX7_goesOn_47 : decode cX7_goesOn 47 = .ok (.iload_n 0, 1) := by decide +kernel
theorem dX7_goesOn_48 : decode cX7_goesOn 48 = .ok (.iconst 2, 1) := by decide +kernel
theorem dX7_goesOn_49 : decode cX7_goesOn 49 = .ok (.isub, 1) := by decide +kernel
theorem dX7_goesOn_50 : decode cX7_goesOn 50 = .ok (.iconst 5, 1) := by decide +kernel
theorem dX7_goesOn_51 : decode cX7_goesOn 51 = .ok (.irem, 1) := by decide +kernel
theorem dX7_goesOn_52 : decode cX7_goesOn 52 = .ok (.tableswitch 104 0 3 #[32, 44, 68, 86], 32) := by decide +kernel
theorem dX7_goesOn_84 : decode cX7_goesOn 84 = .ok (.iload_n 1, 1) := by decide +kernel
theorem dX7_goesOn_85 : decode cX7_goesOn 85 = .ok (.bipush 59, 2) := by decide +kernel
theorem dX7_goesOn_87 : decode cX7_goesOn 87 = .ok (.if_icmp .ne 7, 3) := by decide +kernel
theorem dX7_goesOn_90 : decode cX7_goesOn 90 = .ok (.iconst 1, 1) := by decide +kernel
theorem dX7_goesOn_91 : decode cX7_goesOn 91 = .ok (.goto 4, 3) := by decide +kernel
theorem dX7_goesOn_94 : decode cX7_goesOn 94 = .ok (.iconst 0, 1) := by decide +kernel
theorem dX7_goesOn_95 : decode cX7_goesOn 95 = .ok (.ireturn, 1) := by decide +kernel
theorem dX7_goesOn_96 : decode cX7_goesOn 96 = .ok (.iload_n 1, 1) := by decide +kernel
theorem dX7_goesOn_97 : decode cX7_goesOn 97 = .ok (.bipush 112, 2) := by decide +kernel
theorem dX7_goesOn_99 : decode cX7_goesOn 99 = .ok (.if_icmp .eq 15, 3) := by decide +kernel
theorem dX7_goesOn_102 : decode cX7_goesOn 102 = .ok (.iload_n 1, 1) := by decide +kernel
theorem dX7_goesOn_103 : decode cX7_goesOn 103 = .ok (.bipush 109, 2) := by decide +kernel
theorem dX7_goesOn_105 : decode cX7_goesOn 105 = .ok (.if_icmp .eq 9, 3) := by decide +kernel
theorem dX7_goesOn_108 : decode cX7_goesOn 108 = .ok (.iload_n 1, 1) := by decide +kernel
theorem dX7_goesOn_109 : decode cX7_goesOn 109 = .ok (.bipush 99, 2) := by decide +kernel
theorem dX7_goesOn_111 : decode cX7_goesOn 111 = .ok (.if_icmp .ne 7, 3) := by decide +kernel
theorem dX7_goesOn_114 : decode cX7_goesOn 114 = .ok (.iconst 1, 1) := by decide +kernel
theorem dX7_goesOn_115 : decode cX7_goesOn 115 = .ok (.goto 4, 3) := by decide +kernel
theorem dX7_goesOn_118 : decode cX7_goesOn 118 = .ok (.iconst 0, 1) := by decide +kernel
theorem dX7_goesOn_119 : decode cX7_goesOn 119 = .ok (.ireturn, 1) := by decide +kernel
theorem dX7_goesOn_120 : decode cX7_goesOn 120 = .ok (.iload_n 1, 1) := by decide +kernel
theorem dX7_goesOn_121 : decode cX7_goesOn 121 = .ok (.bipush 48, 2) := by decide +kernel
theorem dX7_goesOn_123 : decode cX7_goesOn 123 = .ok (.if_icmp .lt 13, 3) := by decide +kernel
theorem dX7_goesOn_126 : decode cX7_goesOn 126 = .ok (.iload_n 1, 1) := by decide +kernel
theorem dX7_goesOn_127 : decode cX7_goesOn 127 = .ok (.bipush 53, 2) := by decide +kernel
theorem dX7_goesOn_129 : decode cX7_goesOn 129 = .ok (.if_icmp .gt 7, 3) := by decide +kernel
theorem dX7_goesOn_132 : decode cX7_goesOn 132 = .ok (.iconst 1, 1) := by decide +kernel
theorem dX7_goesOn_133 : decode cX7_goesOn 133 = .ok (.goto 4, 3) := by decide +kernel
theorem dX7_goesOn_136 : decode cX7_goesOn 136 = .ok (.iconst 0, 1) := by decide +kernel
theorem dX7_goesOn_137 : decode cX7_goesOn 137 = .ok (.ireturn, 1) := by decide +kernel
theorem dX7_goesOn_138 : decode cX7_goesOn 138 = .ok (.iload_n 1, 1) := by decide +kernel
theorem dX7_goesOn_139 : decode cX7_goesOn 139 = .ok (.bipush 48, 2) := by decide +kernel
theorem dX7_goesOn_141 : decode cX7_goesOn 141 = .ok (.if_icmp .lt 13, 3) := by decide +kernel
theorem dX7_goesOn_144 : decode cX7_goesOn 144 = .ok (.iload_n 1, 1) := by decide +kernel
theorem dX7_goesOn_145 : decode cX7_goesOn 145 = .ok (.bipush 57, 2) := by decide +kernel
theorem dX7_goesOn_147 : decode cX7_goesOn 147 = .ok (.if_icmp .gt 7, 3) := by decide +kernel
theorem dX7_goesOn_150 : decode cX7_goesOn 150 = .ok (.iconst 1, 1) := by decide +kernel
theorem dX7_goesOn_151 : decode cX7_goesOn 151 = .ok (.goto 4, 3) := by decide +kernel
theorem dX7_goesOn_154 : decode cX7_goesOn 154 = .ok (.iconst 0, 1) := by decide +kernel
theorem dX7_goesOn_155 : decode cX7_goesOn 155 = .ok (.ireturn, 1) := by decide +kernel
theorem dX7_goesOn_156 : decode cX7_goesOn 156 = .ok (.iload_n 1, 1) := by decide +kernel
theorem dX7_goesOn_157 : decode cX7_goesOn 157 = .ok (.bipush 49, 2) := by decide +kernel
theorem dX7_goesOn_159 : decode cX7_goesOn 159 = .ok (.if_icmp .lt 13, 3) := by decide +kernel
theorem dX7_goesOn_162 : decode cX7_goesOn 162 = .ok (.iload_n 1, 1) := by decide +kernel
theorem dX7_goesOn_163 : decode cX7_goesOn 163 = .ok (.bipush 57, 2) := by decide +kernel
theorem dX7_goesOn_165 : decode cX7_goesOn 165 = .ok (.if_icmp .gt 7, 3) := by decide +kernel
theorem dX7_goesOn_168 : decode cX7_goesOn 168 = .ok (.iconst 1, 1) := by decide +kernel
theorem dX7_goesOn_169 : decode cX7_goesOn 169 = .ok (.goto 4, 3) := by decide +kernel
theorem dX7_goesOn_172 : decode cX7_goesOn 172 = .ok (.iconst 0, 1) := by decide +kernel
theorem dX7_goesOn_173 : decode cX7_goesOn 173 = .ok (.ireturn, 1) := by decide +kernel
set_option maxRecDepth 20000 in
theorem ggX7_readInto_X6_at : GoodIn wsX7_readInto wsX6_at := goodIn_r _ [16, 17, 18, 30, 31, 32] (by decide +kernel) (by decide +kernel)
set_option maxRecDepth 20000 in
theorem gX7_readInto_X6_at : GoodIn wsX7_readInto (wsV RX7 11 RX6 yX6_at wsX6_at) := goodIn_app (goodIn_of _ (by decide +kernel)) ggX7_readInto_X6_at
set_option maxRecDepth 20000 in
theorem ggX7_readInto_X7_kindOf : GoodIn wsX7_readInto wsX7_kindOf := goodIn_r _ [22] (by decide +kernel) (by decide +kernel)
set_option maxRecDepth 20000 in
theorem gX7_readInto_X7_kindOf : GoodIn wsX7_readInto (va_wsS RX7 44 yX7_kindOf wsX7_kindOf) := goodIn_app (goodIn_of _ (by decide +kernel)) ggX7_readInto_X7_kindOf
theorem dX7_readInto_0 : decode cX7_readInto 0 = .ok (.aload_n 0, 1) := by decide +kernel
theorem dX7_readInto_1 : decode cX7_readInto 1 = .ok (.aload_n 1, 1) := by decide +kernel
theorem dX7_readInto_2 : decode cX7_readInto 2 = .ok (.iload_n 2, 1) := by decide +kernel
theorem dX7_readInto_3 : decode cX7_readInto 3 = .ok (.iconst 1, 1) := by decide +kernel
theorem dX7_readInto_4 : decode cX7_readInto 4 = .ok (.iadd, 1) := by decide +kernel
theorem dX7_readInto_5 : decode cX7_readInto 5 = .ok (.invokevirtual 11, 3) := by decide +kernel
theorem dX7_readInto_8 : decode cX7_readInto 8 = .ok (.bipush 48, 2) := by decide +kernel
theorem dX7_readInto_10 : decode cX7_readInto 10 = .ok (.isub, 1) := by decide +kernel
theorem dX7_readInto_11 : decode cX7_readInto 11 = .ok (.putfield 21, 3) := by decide +kernel
theorem dX7_readInto_14 : decode cX7_readInto 14 = .ok (.aload_n 0, 1) := by decide +kernel
theorem dX7_readInto_15 : decode cX7_readInto 15 = .ok (.iload_n 3, 1) := by decide +kernel
theorem dX7_readInto_16 : decode cX7_readInto 16 = .ok (.iconst 2, 1) := by decide +kernel
theorem dX7_readInto_17 : decode cX7_readInto 17 = .ok (.isub, 1) := by decide +kernel
theorem dX7_readInto_18 : decode cX7_readInto 18 = .ok (.iconst 5, 1) := by decide +kernel
theorem dX7_readInto_19 : decode cX7_readInto 19 = .ok (.idiv, 1) := by decide +kernel
theorem dX7_readInto_20 : decode cX7_readInto 20 = .ok (.bipush 7, 2) := by decide +kernel
theorem dX7_readInto_22 : decode cX7_readInto 22 = .ok (.invokestatic 27, 3) := by decide +kernel
theorem dX7_readInto_25 : decode cX7_readInto 25 = .ok (.putfield 33, 3) := by decide +kernel
theorem dX7_readInto_28 : decode cX7_readInto 28 = .ok (.aload_n 0, 1) := by decide +kernel
theorem dX7_readInto_29 : decode cX7_readInto 29 = .ok (.lconst 0, 1) := by decide +kernel
theorem dX7_readInto_30 : decode cX7_readInto 30 = .ok (.putfield 36, 3) := by decide +kernel
theorem dX7_readInto_33 : decode cX7_readInto 33 = .ok (.iconst 0, 1) := by decide +kernel
theorem dX7_readInto_34 : decode cX7_readInto 34 = .ok (.istore 4, 2) := by decide +kernel
theorem dX7_readInto_36 : decode cX7_readInto 36 = .ok (.iload 4, 2) := by decide +kernel
theorem dX7_readInto_38 : decode cX7_readInto 38 = .ok (.aload_n 0, 1) := by decide +kernel
theorem dX7_readInto_39 : decode cX7_readInto 39 = .ok (.getfield 33, 3) := by decide +kernel
theorem dX7_readInto_42 : decode cX7_readInto 42 = .ok (.if_icmp .ge 97, 3) := by decide +kernel
theorem dX7_readInto_45 : decode cX7_readInto 45 = .ok (.iload_n 2, 1) := by decide +kernel
theorem dX7_readInto_46 : decode cX7_readInto 46 = .ok (.iconst 2, 1) := by decide +kernel
theorem dX7_readInto_47 : decode cX7_readInto 47 = .ok (.iadd, 1) := by decide +kernel
theorem dX7_readInto_48 : decode cX7_readInto 48 = .ok (.iconst 5, 1) := by decide +kernel
theorem dX7_readInto_49 : decode cX7_readInto 49 = .ok (.iload 4, 2) := by decide +kernel
theorem dX7_readInto_51 : decode cX7_readInto 51 = .ok (.imul, 1) := by decide +kernel
theorem dX7_readInto_52 : decode cX7_readInto 52 = .ok (.iadd, 1) := by decide +kernel
theorem dX7_readInto_53 : decode cX7_readInto 53 = .ok (.istore 5, 2) := by decide +kernel
theorem dX7_readInto_55 : decode cX7_readInto 55 = .ok (.aload_n 0, 1) := by decide +kernel
theorem dX7_readInto_56 : decode cX7_readInto 56 = .ok (.getfield 40, 3) := by decide +kernel
theorem dX7_readInto_59 : decode cX7_readInto 59 = .ok (.iload 4, 2) := by decide +kernel
theorem dX7_readInto_61 : decode cX7_readInto 61 = .ok (.aload_n 1, 1) := by decide +kernel
theorem dX7_readInto_62 : decode cX7_readInto 62 = .ok (.iload 5, 2) := by decide +kernel
theorem dX7_readInto_64 : decode cX7_readInto 64 = .ok (.iconst 1, 1) := by decide +kernel
theorem dX7_readInto_65 : decode cX7_readInto 65 = .ok (.iadd, 1) := by decide +kernel
theorem dX7_readInto_66 : decode cX7_readInto 66 = .ok (.invokevirtual 11, 3) := by decide +kernel
theorem dX7_readInto_69 : decode cX7_readInto 69 = .ok (.invokestatic 44, 3) := by decide +kernel
theorem dX7_readInto_72 : decode cX7_readInto 72 = .ok (.iastore, 1) := by decide +kernel
theorem dX7_readInto_73 : decode cX7_readInto 73 = .ok (.aload_n 0, 1) := by decide +kernel
theorem dX7_readInto_74 : decode cX7_readInto 74 = .ok (.getfield 47, 3) := by decide +kernel
theorem dX7_readInto_77 : decode cX7_readInto 77 = .ok (.iload 4, 2) := by decide +kernel
theorem dX7_readInto_79 : decode cX7_readInto 79 = .ok (.bipush 10, 2) := by decide +kernel
theorem dX7_readInto_81 : decode cX7_readInto 81 = .ok (.aload_n 1, 1) := by decide +kernel
theorem dX7_readInto_82 : decode cX7_readInto 82 = .ok (.iload 5, 2) := by decide +kernel
theorem dX7_readInto_84 : decode cX7_readInto 84 = .ok (.iconst 2, 1) := by decide +kernel
theorem dX7_readInto_85 : decode cX7_readInto 85 = .ok (.iadd, 1) := by decide +kernel
theorem dX7_readInto_86 : decode cX7_readInto 86 = .ok (.invokevirtual 11, 3) := by decide +kernel
theorem dX7_readInto_89 : decode cX7_readInto 89 = .ok (.bipush 48, 2) := by decide +kernel
theorem dX7_readInto_91 : decode cX7_readInto 91 = .ok (.isub, 1) := by decide +kernel
theorem dX7_readInto_92 : decode cX7_readInto 92 = .ok (.imul, 1) := by decide +kernel
theorem dX7_readInto_93 : decode cX7_readInto 93 = .ok (.aload_n 1, 1) := by decide +kernel
theorem dX7_readInto_94 : decode cX7_readInto 94 = .ok (.iload 5, 2) := by decide +kernel
theorem dX7_readInto_96 : decode cX7_readInto 96 = .ok (.iconst 3, 1) := by decide +kernel
theorem dX7_readInto_97 : decode cX7_readInto 97 = .ok (.iadd, 1) := by decide +kernel
theorem dX7_readInto_98 : decode cX7_readInto 98 = .ok (.invokevirtual 11, 3) := by decide +kernel
theorem dX7_readInto_101 : decode cX7_readInto 101 = .ok (.iadd, 1) := by decide +kernel
theorem dX7_readInto_102 : decode cX7_readInto 102 = .ok (.bipush 48, 2) := by decide +kernel
theorem dX7_readInto_104 : decode cX7_readInto 104 = .ok (.isub, 1) := by decide +kernel
theorem dX7_readInto_105 : decode cX7_readInto 105 = .ok (.iastore, 1) := by decide +kernel
theorem dX7_readInto_106 : decode cX7_readInto 106 = .ok (.aload_n 0, 1) := by decide +kernel
theorem dX7_readInto_107 : decode cX7_readInto 107 = .ok (.getfield 50, 3) := by decide +kernel
theorem dX7_readInto_110 : decode cX7_readInto 110 = .ok (.iload 4, 2) := by decide +kernel
theorem dX7_readInto_112 : decode cX7_readInto 112 = .ok (.aload_n 1, 1) := by decide +kernel
theorem dX7_readInto_113 : decode cX7_readInto 113 = .ok (.iload 5, 2) := by decide +kernel
theorem dX7_readInto_115 : decode cX7_readInto 115 = .ok (.iconst 4, 1) := by decide +kernel
theorem dX7_readInto_116 : decode cX7_readInto 116 = .ok (.iadd, 1) := by decide +kernel
theorem dX7_readInto_117 : decode cX7_readInto 117 = .ok (.invokevirtual 11, 3) := by decide +kernel
theorem dX7_readInto_120 : decode cX7_readInto 120 = .ok (.bipush 48, 2) := by decide +kernel
theorem dX7_readInto_122 : decode cX7_readInto 122 = .ok (.isub, 1) := by decide +kernel
theorem dX7_readInto_123 : decode cX7_readInto 123 = .ok (.iastore, 1) := by decide +kernel
theorem dX7_readInto_124 : decode cX7_readInto 124 = .ok (.aload_n 0, 1) := by decide +kernel
theorem dX7_readInto_125 : decode cX7_readInto 125 = .ok (.getfield 53, 3) := by decide +kernel
theorem dX7_readInto_128 : decode cX7_readInto 128 = .ok (.iload 4, 2) := by decide +kernel
theorem dX7_readInto_130 : decode cX7_readInto 130 = .ok (.bipush (-9), 2) := by decide +kernel
theorem dX7_readInto_132 : decode cX7_readInto 132 = .ok (.iastore, 1) := by decide +kernel
theorem dX7_readInto_133 : decode cX7_readInto 133 = .ok (.iinc 4 1, 3) := by decide +kernel
theorem dX7_readInto_136 : decode cX7_readInto 136 = .ok (.goto (-100), 3) := by decide +kernel
theorem dX7_readInto_139 : decode cX7_readInto 139 = .ok (.return_, 1) := by decide +kernel
theorem dX7_kindOf_0 : decode cX7_kindOf 0 = .ok (.iload_n 0, 1) := by decide +kernel
theorem dX7_kindOf_1 : decode cX7_kindOf 1 = .ok (.bipush 99, 2) := by decide +kernel
theorem dX7_kindOf_3 : decode cX7_kindOf 3 = .ok (.if_icmp .ne 5, 3) := by decide +kernel
theorem dX7_kindOf_6 : decode cX7_kindOf 6 = .ok (.iconst 2, 1) := by decide +kernel
theorem dX7_kindOf_7 : decode cX7_kindOf 7 = .ok (.ireturn, 1) := by decide +kernel
theorem dX7_kindOf_8 : decode cX7_kindOf 8 = .ok (.iload_n 0, 1) := by decide +kernel
theorem dX7_kindOf_9 : decode cX7_kindOf 9 = .ok (.bipush 109, 2) := by decide +kernel
theorem dX7_kindOf_11 : decode cX7_kindOf 11 = .ok (.if_icmp .ne 7, 3) := by decide +kernel
theorem dX7_kindOf_14 : decode cX7_kindOf 14 = .ok (.iconst 1, 1) := by decide +kernel
theorem dX7_kindOf_15 : decode cX7_kindOf 15 = .ok (.goto 4, 3) := by decide +kernel
theorem dX7_kindOf_18 : decode cX7_kindOf 18 = .ok (.iconst 0, 1) := by decide +kernel
theorem dX7_kindOf_19 : decode cX7_kindOf 19 = .ok (.ireturn, 1) := by decide +kernel
set_option maxRecDepth 20000 in
theorem ggX8_init_X3_init : GoodIn wsX8_init wsX3_init := goodIn_r _ [31, 32, 2, 3, 33, 34, 35, 36, 37, 38, 39, 40, 94, 95, 96, 97, 98, 99, 100] (by decide +kernel) (by decide +kernel)
set_option maxRecDepth 20000 in
theorem gX8_init_X3_init_n11 : GoodIn wsX8_init (wsX3_init) := ggX8_init_X3_init
set_option maxRecDepth 20000 in
theorem ggX8_init_X1_init : GoodIn wsX8_init wsX1_init := goodIn_r _ [42, 43, 2, 3, 44, 45, 46, 47, 36, 48, 49, 50, 51, 52, 53, 54, 55, 56, 57, 134, 135, 109, 110, 111, 112, 113, 114] (by decide +kernel) (by decide +kernel)
set_option maxRecDepth 20000 in
theorem gX8_init_X1_init_n20 : GoodIn wsX8_init (wsX1_init) := ggX8_init_X1_init
set_option maxRecDepth 20000 in
theorem ggX8_init_X0_init : GoodIn wsX8_init wsX0_init := goodIn_r _ [59, 60, 2, 3, 61, 9, 10, 62, 63, 5, 6, 64, 65, 66, 67, 41, 42, 43, 44, 45, 46, 47, 36, 48, 49, 50, 51, 52, 53, 54, 55, 56, 57, 30, 31, 32, 33, 34, 35, 37, 38, 39, 40, 109, 110, 111, 112, 113, 114, 115, 116, 117, 118, 119, 94, 95, 96, 97, 98, 99, 100, 134, 135] (by decide +kernel) (by decide +kernel)
set_option maxRecDepth 20000 in
theorem gX8_init_X0_init_n27 : GoodIn wsX8_init (wsX0_init) := ggX8_init_X0_init
set_option maxRecDepth 20000 in
theorem ggX8_init_X5_init : GoodIn wsX8_init wsX5_init := goodIn_r _ [69, 70, 2, 3, 71, 9, 10, 72, 73, 5, 6, 74, 75, 76, 77, 78, 79, 80, 81, 41, 42, 43, 44, 45, 46, 47, 36, 48, 49, 50, 51, 52, 53, 54, 55, 56, 57, 30, 31, 32, 33, 34, 35, 37, 38, 39, 40, 109, 110, 111, 112, 113, 114, 120, 121, 122, 123, 124, 125, 126, 127, 94, 95, 96, 97, 98, 99, 100, 134, 135] (by decide +kernel) (by decide +kernel)
set_option maxRecDepth 20000 in
theorem gX8_init_X5_init_n34 : GoodIn wsX8_init (wsX5_init) := ggX8_init_X5_init
set_option maxRecDepth 20000 in
theorem ggX8_init_X4_init : GoodIn wsX8_init wsX4_init := goodIn_r _ [83, 84, 2, 3, 36, 85, 86, 87, 128, 129, 130] (by decide +kernel) (by decide +kernel)
set_option maxRecDepth 20000 in
theorem gX8_init_X4_init_n41 : GoodIn wsX8_init (wsX4_init) := ggX8_init_X4_init
set_option maxRecDepth 20000 in
theorem ggX8_init_X6_init : GoodIn wsX8_init wsX6_init := goodIn_r _ [89, 90, 2, 3, 36, 91, 92, 93, 131, 132, 133] (by decide +kernel) (by decide +kernel)
set_option maxRecDepth 20000 in
theorem gX8_init_X6_init_n59 : GoodIn wsX8_init (wsX6_init) := ggX8_init_X6_init
theorem dX8_init_0 : decode cX8_init 0 = .ok (.aload_n 0, 1) := by decide +kernel
theorem dX8_init_1 : decode cX8_init 1 = .ok (.invokespecial 3, 3) := by decide +kernel
theorem dX8_init_4 : decode cX8_init 4 = .ok (.aload_n 0, 1) := by decide +kernel
theorem dX8_init_5 : decode cX8_init 5 = .ok (.new 9, 3) := by decide +kernel
theorem dX8_init_8 : decode cX8_init 8 = .ok (.dup, 1) := by decide +kernel
theorem dX8_init_9 : decode cX8_init 9 = .ok (.invokespecial 11, 3) := by decide +kernel
theorem dX8_init_12 : decode cX8_init 12 = .ok (.putfield 12, 3) := by decide +kernel
theorem dX8_init_15 : decode cX8_init 15 = .ok (.aload_n 0, 1) := by decide +kernel
theorem dX8_init_16 : decode cX8_init 16 = .ok (.new 18, 3) := by decide +kernel
theorem dX8_init_19 : decode cX8_init 19 = .ok (.dup, 1) := by decide +kernel
theorem dX8_init_20 : decode cX8_init 20 = .ok (.invokespecial 20, 3) := by decide +kernel
theorem dX8_init_23 : decode cX8_init 23 = .ok (.putfield 21, 3) := by decide +kernel
theorem dX8_init_26 : decode cX8_init 26 = .ok (.aload_n 0, 1) := by decide +kernel
theorem dX8_init_27 : decode cX8_init 27 = .ok (.new 25, 3) := by decide +kernel
theorem dX8_init_30 : decode cX8_init 30 = .ok (.dup, 1) := by decide +kernel
theorem dX8_init_31 : decode cX8_init 31 = .ok (.invokespecial 27, 3) := by decide +kernel
theorem dX8_init_34 : decode cX8_init 34 = .ok (.putfield 28, 3) := by decide +kernel
theorem dX8_init_37 : decode cX8_init 37 = .ok (.aload_n 0, 1) := by decide +kernel
theorem dX8_init_38 : decode cX8_init 38 = .ok (.new 32, 3) := by decide +kernel
theorem dX8_init_41 : decode cX8_init 41 = .ok (.dup, 1) := by decide +kernel
theorem dX8_init_42 : decode cX8_init 42 = .ok (.invokespecial 34, 3) := by decide +kernel
theorem dX8_init_45 : decode cX8_init 45 = .ok (.putfield 35, 3) := by decide +kernel
theorem dX8_init_48 : decode cX8_init 48 = .ok (.aload_n 0, 1) := by decide +kernel
theorem dX8_init_49 : decode cX8_init 49 = .ok (.new 39, 3) := by decide +kernel
theorem dX8_init_52 : decode cX8_init 52 = .ok (.dup, 1) := by decide +kernel
theorem dX8_init_53 : decode cX8_init 53 = .ok (.invokespecial 41, 3) := by decide +kernel
theorem dX8_init_56 : decode cX8_init 56 = .ok (.putfield 42, 3) := by decide +kernel
theorem dX8_init_59 : decode cX8_init 59 = .ok (.aload_n 0, 1) := by decide +kernel
theorem dX8_init_60 : decode cX8_init 60 = .ok (.iconst 4, 1) := by decide +kernel
theorem dX8_init_61 : decode cX8_init 61 = .ok (.anewarray 46, 3) := by decide +kernel
theorem dX8_init_64 : decode cX8_init 64 = .ok (.putfield 48, 3) := by decide +kernel
theorem dX8_init_67 : decode cX8_init 67 = .ok (.aload_n 0, 1) := by decide +kernel
theorem dX8_init_68 : decode cX8_init 68 = .ok (.iconst 0, 1) := by decide +kernel
theorem dX8_init_69 : decode cX8_init 69 = .ok (.putfield 52, 3) := by decide +kernel
theorem dX8_init_72 : decode cX8_init 72 = .ok (.aload_n 0, 1) := by decide +kernel
theorem dX8_init_73 : decode cX8_init 73 = .ok (.iconst 0, 1) := by decide +kernel
theorem dX8_init_74 : decode cX8_init 74 = .ok (.putfield 56, 3) := by decide +kernel
theorem dX8_init_77 : decode cX8_init 77 = .ok (.iconst 0, 1) := by decide +kernel
theorem dX8_init_78 : decode cX8_init 78 = .ok (.istore_n 1, 1) := by decide +kernel
theorem dX8_init_79 : decode cX8_init 79 = .ok (.iload_n 1, 1) := by decide +kernel
theorem dX8_init_80 : decode cX8_init 80 = .ok (.iconst 4, 1) := by decide +kernel
theorem dX8_init_81 : decode cX8_init 81 = .ok (.if_icmp .ge 22, 3) := by decide +kernel
theorem dX8_init_84 : decode cX8_init 84 = .ok (.aload_n 0, 1) := by decide +kernel
theorem dX8_init_85 : decode cX8_init 85 = .ok (.getfield 48, 3) := by decide +kernel
theorem dX8_init_88 : decode cX8_init 88 = .ok (.iload_n 1, 1) := by decide +kernel
theorem dX8_init_89 : decode cX8_init 89 = .ok (.new 46, 3) := by decide +kernel
theorem dX8_init_92 : decode cX8_init 92 = .ok (.dup, 1) := by decide +kernel
theorem dX8_init_93 : decode cX8_init 93 = .ok (.invokespecial 59, 3) := by decide +kernel
theorem dX8_init_96 : decode cX8_init 96 = .ok (.aastore, 1) := by decide +kernel
theorem dX8_init_97 : decode cX8_init 97 = .ok (.iinc 1 1, 3) := by decide +kernel
theorem dX8_init_100 : decode cX8_init 100 = .ok (.goto (-21), 3) := by decide +kernel
theorem dX8_init_103 : decode cX8_init 103 = .ok (.return_, 1) := by decide +kernel
set_option maxRecDepth 20000 in
theorem ggX8_day_X8_isSheet : GoodIn wsX8_day wsX8_isSheet := goodIn_r _ [9] (by decide +kernel) (by decide +kernel)
set_option maxRecDepth 20000 in
theorem gX8_day_X8_isSheet : GoodIn wsX8_day (va_wsS RX8 60 yX8_isSheet wsX8_isSheet) := goodIn_app (goodIn_of _ (by decide +kernel)) ggX8_day_X8_isSheet
set_option maxRecDepth 20000 in
theorem ggX8_day_X8_faultless : GoodIn wsX8_day wsX8_faultless := goodIn_r _ [13, 14, 66, 67, 68, 69, 70, 71, 72, 73] (by decide +kernel) (by decide +kernel)
set_option maxRecDepth 20000 in
theorem gX8_day_X8_faultless : GoodIn wsX8_day (wsV RX8 64 RX8 yX8_faultless wsX8_faultless) := goodIn_app (goodIn_of _ (by decide +kernel)) ggX8_day_X8_faultless
set_option maxRecDepth 20000 in
theorem ggX8_day_X8_isLane : GoodIn wsX8_day wsX8_isLane := goodIn_r _ [17] (by decide +kernel) (by decide +kernel)
set_option maxRecDepth 20000 in
theorem gX8_day_X8_isLane : GoodIn wsX8_day (va_wsS RX8 68 yX8_isLane wsX8_isLane) := goodIn_app (goodIn_of _ (by decide +kernel)) ggX8_day_X8_isLane
set_option maxRecDepth 20000 in
theorem ggX8_day_X6_isOfAnother : GoodIn wsX8_day wsX6_isOfAnother := goodIn_r _ [22, 23, 84, 85, 86] (by decide +kernel) (by decide +kernel)
set_option maxRecDepth 20000 in
theorem gX8_day_X6_isOfAnother : GoodIn wsX8_day (wsV RX8 71 RX6 yX6_isOfAnother wsX6_isOfAnother) := goodIn_app (goodIn_of _ (by decide +kernel)) ggX8_day_X6_isOfAnother
set_option maxRecDepth 20000 in
theorem ggX8_day_X8_faulted : GoodIn wsX8_day wsX8_faulted := goodIn_r _ [27, 14, 66, 67, 68, 69, 70, 71, 72, 73] (by decide +kernel) (by decide +kernel)
set_option maxRecDepth 20000 in
theorem gX8_day_X8_faulted : GoodIn wsX8_day (wsV RX8 74 RX8 yX8_faulted wsX8_faulted) := goodIn_app (goodIn_of _ (by decide +kernel)) ggX8_day_X8_faulted
set_option maxRecDepth 20000 in
theorem ggX8_day_X6_hasNothing : GoodIn wsX8_day wsX6_hasNothing := goodIn_r _ [31, 23, 84, 85, 86] (by decide +kernel) (by decide +kernel)
set_option maxRecDepth 20000 in
theorem gX8_day_X6_hasNothing : GoodIn wsX8_day (wsV RX8 77 RX6 yX6_hasNothing wsX6_hasNothing) := goodIn_app (goodIn_of _ (by decide +kernel)) ggX8_day_X6_hasNothing
set_option maxRecDepth 20000 in
theorem ggX8_day_X6_holds : GoodIn wsX8_day wsX6_holds := goodIn_r _ [35, 36, 84, 85, 86] (by decide +kernel) (by decide +kernel)
set_option maxRecDepth 20000 in
theorem gX8_day_X6_holds : GoodIn wsX8_day (wsV RX8 81 RX6 yX6_holds wsX6_holds) := goodIn_app (goodIn_of _ (by decide +kernel)) ggX8_day_X6_holds
set_option maxRecDepth 20000 in
theorem ggX8_day_X7_firstFault : GoodIn wsX8_day wsX7_firstFault := goodIn_r _ [40, 41, 42, 43, 21, 44, 36, 45, 46, 47, 39, 48, 84, 85, 86] (by decide +kernel) (by decide +kernel)
set_option maxRecDepth 20000 in
theorem gX8_day_X7_firstFault : GoodIn wsX8_day (va_wsS RX8 85 yX7_firstFault wsX7_firstFault) := goodIn_app (goodIn_of _ (by decide +kernel)) ggX8_day_X7_firstFault
set_option maxRecDepth 20000 in
theorem ggX8_day_X7_readInto : GoodIn wsX8_day wsX7_readInto := goodIn_r _ [51, 52, 53, 54, 55, 56, 57, 58, 59, 60, 61, 62, 41, 42, 43, 21, 44, 36, 45, 63, 64, 39, 65, 77, 78, 79, 80, 81, 82, 83, 84, 85, 86] (by decide +kernel) (by decide +kernel)
set_option maxRecDepth 20000 in
theorem gX8_day_X7_readInto : GoodIn wsX8_day (va_wsS RX8 91 yX7_readInto wsX7_readInto) := goodIn_app (goodIn_of _ (by decide +kernel)) ggX8_day_X7_readInto
theorem dX8_day_0 : decode cX8_day 0 = .ok (.iload_n 1, 1) := by decide +kernel
theorem dX8_day_1 : decode cX8_day 1 = .ok (.invokestatic 60, 3) := by decide +kernel
theorem dX8_day_4 : decode cX8_day 4 = .ok (.ifCond .ne 9, 3) := by decide +kernel
theorem dX8_day_7 : decode cX8_day 7 = .ok (.aload_n 0, 1) := by decide +kernel
theorem dX8_day_8 : decode cX8_day 8 = .ok (.iconst (-1), 1) := by decide +kernel
theorem dX8_day_9 : decode cX8_day 9 = .ok (.invokevirtual 64, 3) := by decide +kernel
theorem dX8_day_12 : decode cX8_day 12 = .ok (.ireturn, 1) := by decide +kernel
theorem dX8_day_13 : decode cX8_day 13 = .ok (.iload_n 2, 1) := by decide +kernel
