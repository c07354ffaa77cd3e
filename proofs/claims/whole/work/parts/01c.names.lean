theorem dX5_init_0 : decode cX5_init 0 = .ok (.aload_n 0, 1) := by decide +kernel
theorem dX5_init_1 : decode cX5_init 1 = .ok (.invokespecial 3, 3) := by decide +kernel
theorem dX5_init_4 : decode cX5_init 4 = .ok (.aload_n 0, 1) := by decide +kernel
theorem dX5_init_5 : decode cX5_init 5 = .ok (.sipush 200, 3) := by decide +kernel
theorem dX5_init_8 : decode cX5_init 8 = .ok (.newarray .int, 2) := by decide +kernel
theorem dX5_init_10 : decode cX5_init 10 = .ok (.putfield 9, 3) := by decide +kernel
theorem dX5_init_13 : decode cX5_init 13 = .ok (.aload_n 0, 1) := by decide +kernel
theorem dX5_init_14 : decode cX5_init 14 = .ok (.iconst 0, 1) := by decide +kernel
theorem dX5_init_15 : decode cX5_init 15 = .ok (.putfield 13, 3) := by decide +kernel
theorem dX5_init_18 : decode cX5_init 18 = .ok (.aload_n 0, 1) := by decide +kernel
theorem dX5_init_19 : decode cX5_init 19 = .ok (.new 17, 3) := by decide +kernel
theorem dX5_init_22 : decode cX5_init 22 = .ok (.dup, 1) := by decide +kernel
theorem dX5_init_23 : decode cX5_init 23 = .ok (.invokespecial 19, 3) := by decide +kernel
theorem dX5_init_26 : decode cX5_init 26 = .ok (.putfield 20, 3) := by decide +kernel
theorem dX5_init_29 : decode cX5_init 29 = .ok (.aload_n 0, 1) := by decide +kernel
theorem dX5_init_30 : decode cX5_init 30 = .ok (.new 17, 3) := by decide +kernel
theorem dX5_init_33 : decode cX5_init 33 = .ok (.dup, 1) := by decide +kernel
theorem dX5_init_34 : decode cX5_init 34 = .ok (.invokespecial 19, 3) := by decide +kernel
theorem dX5_init_37 : decode cX5_init 37 = .ok (.putfield 24, 3) := by decide +kernel
theorem dX5_init_40 : decode cX5_init 40 = .ok (.aload_n 0, 1) := by decide +kernel
theorem dX5_init_41 : decode cX5_init 41 = .ok (.new 27, 3) := by decide +kernel
theorem dX5_init_44 : decode cX5_init 44 = .ok (.dup, 1) := by decide +kernel
theorem dX5_init_45 : decode cX5_init 45 = .ok (.aload_n 0, 1) := by decide +kernel
theorem dX5_init_46 : decode cX5_init 46 = .ok (.getfield 9, 3) := by decide +kernel
theorem dX5_init_49 : decode cX5_init 49 = .ok (.aload_n 0, 1) := by decide +kernel
theorem dX5_init_50 : decode cX5_init 50 = .ok (.getfield 24, 3) := by decide +kernel
theorem dX5_init_53 : decode cX5_init 53 = .ok (.invokespecial 29, 3) := by decide +kernel
theorem dX5_init_56 : decode cX5_init 56 = .ok (.putfield 32, 3) := by decide +kernel
theorem dX5_init_59 : decode cX5_init 59 = .ok (.aload_n 0, 1) := by decide +kernel
theorem dX5_init_60 : decode cX5_init 60 = .ok (.new 36, 3) := by decide +kernel
theorem dX5_init_63 : decode cX5_init 63 = .ok (.dup, 1) := by decide +kernel
theorem dX5_init_64 : decode cX5_init 64 = .ok (.invokespecial 38, 3) := by decide +kernel
theorem dX5_init_67 : decode cX5_init 67 = .ok (.putfield 39, 3) := by decide +kernel
theorem dX5_init_70 : decode cX5_init 70 = .ok (.aload_n 0, 1) := by decide +kernel
theorem dX5_init_71 : decode cX5_init 71 = .ok (.new 36, 3) := by decide +kernel
theorem dX5_init_74 : decode cX5_init 74 = .ok (.dup, 1) := by decide +kernel
theorem dX5_init_75 : decode cX5_init 75 = .ok (.invokespecial 38, 3) := by decide +kernel
theorem dX5_init_78 : decode cX5_init 78 = .ok (.putfield 43, 3) := by decide +kernel
theorem dX5_init_81 : decode cX5_init 81 = .ok (.aload_n 0, 1) := by decide +kernel
theorem dX5_init_82 : decode cX5_init 82 = .ok (.new 36, 3) := by decide +kernel
theorem dX5_init_85 : decode cX5_init 85 = .ok (.dup, 1) := by decide +kernel
theorem dX5_init_86 : decode cX5_init 86 = .ok (.invokespecial 38, 3) := by decide +kernel
theorem dX5_init_89 : decode cX5_init 89 = .ok (.putfield 46, 3) := by decide +kernel
theorem dX5_init_92 : decode cX5_init 92 = .ok (.aload_n 0, 1) := by decide +kernel
theorem dX5_init_93 : decode cX5_init 93 = .ok (.new 49, 3) := by decide +kernel
theorem dX5_init_96 : decode cX5_init 96 = .ok (.dup, 1) := by decide +kernel
theorem dX5_init_97 : decode cX5_init 97 = .ok (.aload_n 0, 1) := by decide +kernel
theorem dX5_init_98 : decode cX5_init 98 = .ok (.getfield 20, 3) := by decide +kernel
theorem dX5_init_101 : decode cX5_init 101 = .ok (.aload_n 0, 1) := by decide +kernel
theorem dX5_init_102 : decode cX5_init 102 = .ok (.getfield 39, 3) := by decide +kernel
theorem dX5_init_105 : decode cX5_init 105 = .ok (.invokespecial 51, 3) := by decide +kernel
theorem dX5_init_108 : decode cX5_init 108 = .ok (.putfield 54, 3) := by decide +kernel
theorem dX5_init_111 : decode cX5_init 111 = .ok (.aload_n 0, 1) := by decide +kernel
theorem dX5_init_112 : decode cX5_init 112 = .ok (.new 58, 3) := by decide +kernel
theorem dX5_init_115 : decode cX5_init 115 = .ok (.dup, 1) := by decide +kernel
theorem dX5_init_116 : decode cX5_init 116 = .ok (.invokespecial 60, 3) := by decide +kernel
theorem dX5_init_119 : decode cX5_init 119 = .ok (.putfield 61, 3) := by decide +kernel
theorem dX5_init_122 : decode cX5_init 122 = .ok (.aload_n 0, 1) := by decide +kernel
theorem dX5_init_123 : decode cX5_init 123 = .ok (.lconst 0, 1) := by decide +kernel
theorem dX5_init_124 : decode cX5_init 124 = .ok (.putfield 65, 3) := by decide +kernel
theorem dX5_init_127 : decode cX5_init 127 = .ok (.return_, 1) := by decide +kernel
set_option maxRecDepth 20000 in
theorem ggX5_type_X5_isWithin : GoodIn wsX5_type wsX5_isWithin := goodIn_r _ [6] (by decide +kernel) (by decide +kernel)
set_option maxRecDepth 20000 in
theorem gX5_type_X5_isWithin : GoodIn wsX5_type (va_wsS RX5 69 yX5_isWithin wsX5_isWithin) := goodIn_app (goodIn_of _ (by decide +kernel)) ggX5_type_X5_isWithin
theorem dX5_type_0 : decode cX5_type 0 = .ok (.iload_n 1, 1) := by decide +kernel
theorem dX5_type_1 : decode cX5_type 1 = .ok (.iconst 0, 1) := by decide +kernel
theorem dX5_type_2 : decode cX5_type 2 = .ok (.sipush 255, 3) := by decide +kernel
theorem dX5_type_5 : decode cX5_type 5 = .ok (.invokestatic 69, 3) := by decide +kernel
theorem dX5_type_8 : decode cX5_type 8 = .ok (.ifCond .ne 5, 3) := by decide +kernel
theorem dX5_type_11 : decode cX5_type 11 = .ok (.iconst (-1), 1) := by decide +kernel
theorem dX5_type_12 : decode cX5_type 12 = .ok (.ireturn, 1) := by decide +kernel
theorem dX5_type_13 : decode cX5_type 13 = .ok (.aload_n 0, 1) := by decide +kernel
theorem dX5_type_14 : decode cX5_type 14 = .ok (.getfield 13, 3) := by decide +kernel
theorem dX5_type_17 : decode cX5_type 17 = .ok (.ifCond .lt 15, 3) := by decide +kernel
theorem dX5_type_20 : decode cX5_type 20 = .ok (.aload_n 0, 1) := by decide +kernel
theorem dX5_type_21 : decode cX5_type 21 = .ok (.getfield 13, 3) := by decide +kernel
theorem dX5_type_24 : decode cX5_type 24 = .ok (.aload_n 0, 1) := by decide +kernel
theorem dX5_type_25 : decode cX5_type 25 = .ok (.getfield 9, 3) := by decide +kernel
theorem dX5_type_28 : decode cX5_type 28 = .ok (.arraylength, 1) := by decide +kernel
theorem dX5_type_29 : decode cX5_type 29 = .ok (.if_icmp .lt 6, 3) := by decide +kernel
theorem dX5_type_32 : decode cX5_type 32 = .ok (.bipush (-3), 2) := by decide +kernel
theorem dX5_type_34 : decode cX5_type 34 = .ok (.ireturn, 1) := by decide +kernel
theorem dX5_type_35 : decode cX5_type 35 = .ok (.aload_n 0, 1) := by decide +kernel
theorem dX5_type_36 : decode cX5_type 36 = .ok (.getfield 9, 3) := by decide +kernel
theorem dX5_type_39 : decode cX5_type 39 = .ok (.aload_n 0, 1) := by decide +kernel
theorem dX5_type_40 : decode cX5_type 40 = .ok (.getfield 13, 3) := by decide +kernel
theorem dX5_type_43 : decode cX5_type 43 = .ok (.iload_n 1, 1) := by decide +kernel
theorem dX5_type_44 : decode cX5_type 44 = .ok (.iastore, 1) := by decide +kernel
theorem dX5_type_45 : decode cX5_type 45 = .ok (.aload_n 0, 1) := by decide +kernel
theorem dX5_type_46 : decode cX5_type 46 = .ok (.dup, 1) := by decide +kernel
theorem dX5_type_47 : decode cX5_type 47 = .ok (.getfield 13, 3) := by decide +kernel
theorem dX5_type_50 : decode cX5_type 50 = .ok (.iconst 1, 1) := by decide +kernel
theorem dX5_type_51 : decode cX5_type 51 = .ok (.iadd, 1) := by decide +kernel
theorem dX5_type_52 : decode cX5_type 52 = .ok (.putfield 13, 3) := by decide +kernel
theorem dX5_type_55 : decode cX5_type 55 = .ok (.aload_n 0, 1) := by decide +kernel
theorem dX5_type_56 : decode cX5_type 56 = .ok (.getfield 13, 3) := by decide +kernel
theorem dX5_type_59 : decode cX5_type 59 = .ok (.ireturn, 1) := by decide +kernel
theorem dX5_clear_0 : decode cX5_clear 0 = .ok (.aload_n 0, 1) := by decide +kernel
theorem dX5_clear_1 : decode cX5_clear 1 = .ok (.getfield 13, 3) := by decide +kernel
theorem dX5_clear_4 : decode cX5_clear 4 = .ok (.istore_n 1, 1) := by decide +kernel
theorem dX5_clear_5 : decode cX5_clear 5 = .ok (.aload_n 0, 1) := by decide +kernel
theorem dX5_clear_6 : decode cX5_clear 6 = .ok (.iconst 0, 1) := by decide +kernel
theorem dX5_clear_7 : decode cX5_clear 7 = .ok (.putfield 13, 3) := by decide +kernel
theorem dX5_clear_10 : decode cX5_clear 10 = .ok (.iload_n 1, 1) := by decide +kernel
theorem dX5_clear_11 : decode cX5_clear 11 = .ok (.ireturn, 1) := by decide +kernel
set_option maxRecDepth 20000 in
theorem ggX5_tale_X1_readTale : GoodIn wsX5_tale wsX1_readTale := goodIn_r _ [15, 16, 17, 18, 19, 20, 21, 22, 23, 24, 25, 26, 27, 28, 29, 30, 31, 32, 33, 34, 35, 36, 37, 38, 14, 39, 40, 41, 42, 43, 44, 45, 46, 47, 48, 49, 50, 51, 52, 53, 54, 55, 56, 57, 58, 59, 60, 61, 62, 63, 64, 65, 66, 67, 68, 69, 70, 71, 72, 73, 74, 75, 76, 77, 78, 79, 80, 81, 82, 83, 84, 85, 86, 87, 88, 89, 90, 91, 92, 93, 94, 95, 96, 97, 98, 99, 100, 101, 102, 103, 104, 105, 106, 107, 108, 109, 110, 111, 112, 113, 114, 115, 116, 117, 118, 119, 120, 121, 122, 123, 124, 125, 126, 127, 128, 129, 130, 131, 132, 182, 183, 184, 185, 186, 187, 188, 189, 190, 191, 192, 193, 194, 195, 196, 197, 198, 199, 200, 201, 202] (by decide +kernel) (by decide +kernel)
set_option maxRecDepth 20000 in
theorem gX5_tale_X1_readTale : GoodIn wsX5_tale (wsV RX5 73 RX1 yX1_readTale wsX1_readTale) := goodIn_app (goodIn_of _ (by decide +kernel)) ggX5_tale_X1_readTale
set_option maxRecDepth 20000 in
theorem ggX5_tale_X4_becomeLike : GoodIn wsX5_tale wsX4_becomeLike := goodIn_r _ [136, 32, 33, 34, 35, 55, 137, 138, 139, 140, 56, 57, 82, 83, 84, 96, 97, 98, 190, 191, 192, 193, 194, 195, 196, 197, 198, 199, 200, 201, 202] (by decide +kernel) (by decide +kernel)
set_option maxRecDepth 20000 in
theorem gX5_tale_X4_becomeLike : GoodIn wsX5_tale (wsV RX5 77 RX4 yX4_becomeLike wsX4_becomeLike) := goodIn_app (goodIn_of _ (by decide +kernel)) ggX5_tale_X4_becomeLike
set_option maxRecDepth 20000 in
theorem ggX5_tale_X2_startAnew : GoodIn wsX5_tale wsX2_startAnew := goodIn_r _ [145, 146, 147, 148, 149, 174, 175, 176, 177, 178, 179, 180, 181] (by decide +kernel) (by decide +kernel)
set_option maxRecDepth 20000 in
theorem gX5_tale_X2_startAnew : GoodIn wsX5_tale (wsV RX5 81 RX2 yX2_startAnew wsX2_startAnew) := goodIn_app (goodIn_of _ (by decide +kernel)) ggX5_tale_X2_startAnew
set_option maxRecDepth 20000 in
theorem ggX5_tale_X3_forgetWay : GoodIn wsX5_tale wsX3_forgetWay := goodIn_r _ [154, 155, 203, 204, 205, 206, 207, 208, 209, 210, 211, 212, 213, 214, 215, 216] (by decide +kernel) (by decide +kernel)
set_option maxRecDepth 20000 in
theorem gX5_tale_X3_forgetWay : GoodIn wsX5_tale (wsV RX5 84 RX3 yX3_forgetWay wsX3_forgetWay) := goodIn_app (goodIn_of _ (by decide +kernel)) ggX5_tale_X3_forgetWay
set_option maxRecDepth 20000 in
theorem ggX5_tale_X0_forgetAll : GoodIn wsX5_tale wsX0_forgetAll := goodIn_r _ [160, 161, 162, 217, 218, 219, 220, 221, 222, 223, 224] (by decide +kernel) (by decide +kernel)
set_option maxRecDepth 20000 in
theorem gX5_tale_X0_forgetAll : GoodIn wsX5_tale (wsV RX5 91 RX0 yX0_forgetAll wsX0_forgetAll) := goodIn_app (goodIn_of _ (by decide +kernel)) ggX5_tale_X0_forgetAll
theorem dX5_tale_0 : decode cX5_tale 0 = .ok (.aload_n 0, 1) := by decide +kernel
theorem dX5_tale_1 : decode cX5_tale 1 = .ok (.getfield 32, 3) := by decide +kernel
theorem dX5_tale_4 : decode cX5_tale 4 = .ok (.aload_n 0, 1) := by decide +kernel
theorem dX5_tale_5 : decode cX5_tale 5 = .ok (.getfield 13, 3) := by decide +kernel
theorem dX5_tale_8 : decode cX5_tale 8 = .ok (.invokevirtual 73, 3) := by decide +kernel
theorem dX5_tale_11 : decode cX5_tale 11 = .ok (.istore_n 1, 1) := by decide +kernel
theorem dX5_tale_12 : decode cX5_tale 12 = .ok (.iload_n 1, 1) := by decide +kernel
theorem dX5_tale_13 : decode cX5_tale 13 = .ok (.ifCond .ge 5, 3) := by decide +kernel
theorem dX5_tale_16 : decode cX5_tale 16 = .ok (.iload_n 1, 1) := by decide +kernel
theorem dX5_tale_17 : decode cX5_tale 17 = .ok (.ireturn, 1) := by decide +kernel
theorem dX5_tale_18 : decode cX5_tale 18 = .ok (.aload_n 0, 1) := by decide +kernel
theorem dX5_tale_19 : decode cX5_tale 19 = .ok (.iconst 0, 1) := by decide +kernel
theorem dX5_tale_20 : decode cX5_tale 20 = .ok (.putfield 13, 3) := by decide +kernel
theorem dX5_tale_23 : decode cX5_tale 23 = .ok (.aload_n 0, 1) := by decide +kernel
theorem dX5_tale_24 : decode cX5_tale 24 = .ok (.getfield 20, 3) := by decide +kernel
theorem dX5_tale_27 : decode cX5_tale 27 = .ok (.aload_n 0, 1) := by decide +kernel
theorem dX5_tale_28 : decode cX5_tale 28 = .ok (.getfield 24, 3) := by decide +kernel
theorem dX5_tale_31 : decode cX5_tale 31 = .ok (.invokevirtual 77, 3) := by decide +kernel
theorem dX5_tale_34 : decode cX5_tale 34 = .ok (.aload_n 0, 1) := by decide +kernel
theorem dX5_tale_35 : decode cX5_tale 35 = .ok (.getfield 39, 3) := by decide +kernel
theorem dX5_tale_38 : decode cX5_tale 38 = .ok (.invokevirtual 81, 3) := by decide +kernel
theorem dX5_tale_41 : decode cX5_tale 41 = .ok (.aload_n 0, 1) := by decide +kernel
theorem dX5_tale_42 : decode cX5_tale 42 = .ok (.getfield 54, 3) := by decide +kernel
theorem dX5_tale_45 : decode cX5_tale 45 = .ok (.invokevirtual 84, 3) := by decide +kernel
theorem dX5_tale_48 : decode cX5_tale 48 = .ok (.aload_n 0, 1) := by decide +kernel
theorem dX5_tale_49 : decode cX5_tale 49 = .ok (.getfield 43, 3) := by decide +kernel
theorem dX5_tale_52 : decode cX5_tale 52 = .ok (.iconst 0, 1) := by decide +kernel
theorem dX5_tale_53 : decode cX5_tale 53 = .ok (.putfield 87, 3) := by decide +kernel
theorem dX5_tale_56 : decode cX5_tale 56 = .ok (.aload_n 0, 1) := by decide +kernel
theorem dX5_tale_57 : decode cX5_tale 57 = .ok (.getfield 46, 3) := by decide +kernel
theorem dX5_tale_60 : decode cX5_tale 60 = .ok (.iconst 0, 1) := by decide +kernel
theorem dX5_tale_61 : decode cX5_tale 61 = .ok (.putfield 87, 3) := by decide +kernel
theorem dX5_tale_64 : decode cX5_tale 64 = .ok (.aload_n 0, 1) := by decide +kernel
theorem dX5_tale_65 : decode cX5_tale 65 = .ok (.getfield 61, 3) := by decide +kernel
theorem dX5_tale_68 : decode cX5_tale 68 = .ok (.invokevirtual 91, 3) := by decide +kernel
theorem dX5_tale_71 : decode cX5_tale 71 = .ok (.iload_n 1, 1) := by decide +kernel
theorem dX5_tale_72 : decode cX5_tale 72 = .ok (.ireturn, 1) := by decide +kernel
set_option maxRecDepth 20000 in
theorem ggX5_place_X4_hasPlace : GoodIn wsX5_place wsX4_hasPlace := goodIn_r _ [6, 7, 35, 36, 37, 38, 39, 40, 41, 42, 43, 44, 45, 46, 47] (by decide +kernel) (by decide +kernel)
set_option maxRecDepth 20000 in
theorem gX5_place_X4_hasPlace : GoodIn wsX5_place (wsV RX5 94 RX4 yX4_hasPlace wsX4_hasPlace) := goodIn_app (goodIn_of _ (by decide +kernel)) ggX5_place_X4_hasPlace
set_option maxRecDepth 20000 in
theorem ggX5_place_X4_lionAt : GoodIn wsX5_place wsX4_lionAt := goodIn_r _ [11, 12, 13, 3, 4, 5, 6, 7, 35, 36, 37, 38, 39, 40, 41, 42, 43, 44, 45, 46, 47] (by decide +kernel) (by decide +kernel)
set_option maxRecDepth 20000 in
theorem gX5_place_X4_lionAt : GoodIn wsX5_place (wsV RX5 98 RX4 yX4_lionAt wsX4_lionAt) := goodIn_app (goodIn_of _ (by decide +kernel)) ggX5_place_X4_lionAt
set_option maxRecDepth 20000 in
theorem ggX5_place_X4_gateFromAt : GoodIn wsX5_place wsX4_gateFromAt := goodIn_r _ [17, 18, 13, 3, 4, 5, 6, 7, 35, 36, 37, 38, 39, 40, 41, 42, 43, 44, 45, 46, 47] (by decide +kernel) (by decide +kernel)
set_option maxRecDepth 20000 in
theorem gX5_place_X4_gateFromAt : GoodIn wsX5_place (wsV RX5 101 RX4 yX4_gateFromAt wsX4_gateFromAt) := goodIn_app (goodIn_of _ (by decide +kernel)) ggX5_place_X4_gateFromAt
set_option maxRecDepth 20000 in
theorem ggX5_place_X4_gateHoursAt : GoodIn wsX5_place wsX4_gateHoursAt := goodIn_r _ [22, 23, 13, 3, 4, 5, 6, 7, 35, 36, 37, 38, 39, 40, 41, 42, 43, 44, 45, 46, 47] (by decide +kernel) (by decide +kernel)
set_option maxRecDepth 20000 in
theorem gX5_place_X4_gateHoursAt : GoodIn wsX5_place (wsV RX5 104 RX4 yX4_gateHoursAt wsX4_gateHoursAt) := goodIn_app (goodIn_of _ (by decide +kernel)) ggX5_place_X4_gateHoursAt
theorem dX5_place_0 : decode cX5_place 0 = .ok (.aload_n 0, 1) := by decide +kernel
theorem dX5_place_1 : decode cX5_place 1 = .ok (.getfield 20, 3) := by decide +kernel
theorem dX5_place_4 : decode cX5_place 4 = .ok (.iload_n 1, 1) := by decide +kernel
theorem dX5_place_5 : decode cX5_place 5 = .ok (.invokevirtual 94, 3) := by decide +kernel
theorem dX5_place_8 : decode cX5_place 8 = .ok (.ifCond .ne 5, 3) := by decide +kernel
theorem dX5_place_11 : decode cX5_place 11 = .ok (.iconst (-1), 1) := by decide +kernel
theorem dX5_place_12 : decode cX5_place 12 = .ok (.ireturn, 1) := by decide +kernel
theorem dX5_place_13 : decode cX5_place 13 = .ok (.iload_n 2, 1) := by decide +kernel
theorem dX5_place_14 : decode cX5_place 14 = .ok (.tableswitch 53 0 2 #[26, 35, 44], 26) := by decide +kernel
theorem dX5_place_40 : decode cX5_place 40 = .ok (.aload_n 0, 1) := by decide +kernel
theorem dX5_place_41 : decode cX5_place 41 = .ok (.getfield 20, 3) := by decide +kernel
theorem dX5_place_44 : decode cX5_place 44 = .ok (.iload_n 1, 1) := by decide +kernel
theorem dX5_place_45 : decode cX5_place 45 = .ok (.invokevirtual 98, 3) := by decide +kernel
theorem dX5_place_48 : decode cX5_place 48 = .ok (.ireturn, 1) := by decide +kernel
theorem dX5_place_49 : decode cX5_place 49 = .ok (.aload_n 0, 1) := by decide +kernel
theorem dX5_place_50 : decode cX5_place 50 = .ok (.getfield 20, 3) := by decide +kernel
theorem dX5_place_53 : decode cX5_place 53 = .ok (.iload_n 1, 1) := by decide +kernel
theorem dX5_place_54 : decode cX5_place 54 = .ok (.invokevirtual 101, 3) := by decide +kernel
theorem dX5_place_57 : decode cX5_place 57 = .ok (.ireturn, 1) := by decide +kernel
theorem dX5_place_58 : decode cX5_place 58 = .ok (.aload_n 0, 1) := by decide +kernel
theorem dX5_place_59 : decode cX5_place 59 = .ok (.getfield 20, 3) := by decide +kernel
theorem dX5_place_62 : decode cX5_place 62 = .ok (.iload_n 1, 1) := by decide +kernel
theorem dX5_place_63 : decode cX5_place 63 = .ok (.invokevirtual 104, 3) := by decide +kernel
theorem dX5_place_66 : decode cX5_place 66 = .ok (.ireturn, 1) := by decide +kernel
theorem dX5_place_67 : decode cX5_place 67 = .ok (.iconst (-1), 1) := by decide +kernel
theorem dX5_place_68 : decode cX5_place 68 = .ok (.ireturn, 1) := by decide +kernel
set_option maxRecDepth 20000 in
theorem ggX5_road_X4_hasRoad : GoodIn wsX5_road wsX4_hasRoad := goodIn_r _ [6, 7, 35, 36, 37, 38, 39, 40, 41, 42, 43, 44, 45, 46, 47] (by decide +kernel) (by decide +kernel)
set_option maxRecDepth 20000 in
theorem gX5_road_X4_hasRoad : GoodIn wsX5_road (wsV RX5 107 RX4 yX4_hasRoad wsX4_hasRoad) := goodIn_app (goodIn_of _ (by decide +kernel)) ggX5_road_X4_hasRoad
set_option maxRecDepth 20000 in
theorem ggX5_road_X4_roadStart : GoodIn wsX5_road wsX4_roadStart := goodIn_r _ [11, 12, 13, 3, 4, 5, 6, 7, 35, 36, 37, 38, 39, 40, 41, 42, 43, 44, 45, 46, 47] (by decide +kernel) (by decide +kernel)
set_option maxRecDepth 20000 in
theorem gX5_road_X4_roadStart : GoodIn wsX5_road (wsV RX5 110 RX4 yX4_roadStart wsX4_roadStart) := goodIn_app (goodIn_of _ (by decide +kernel)) ggX5_road_X4_roadStart
set_option maxRecDepth 20000 in
theorem ggX5_road_X4_roadEnd : GoodIn wsX5_road wsX4_roadEnd := goodIn_r _ [17, 18, 13, 3, 4, 5, 6, 7, 35, 36, 37, 38, 39, 40, 41, 42, 43, 44, 45, 46, 47] (by decide +kernel) (by decide +kernel)
set_option maxRecDepth 20000 in
theorem gX5_road_X4_roadEnd : GoodIn wsX5_road (wsV RX5 113 RX4 yX4_roadEnd wsX4_roadEnd) := goodIn_app (goodIn_of _ (by decide +kernel)) ggX5_road_X4_roadEnd
set_option maxRecDepth 20000 in
theorem ggX5_road_X4_roadHours : GoodIn wsX5_road wsX4_roadHours := goodIn_r _ [22, 23, 13, 3, 4, 5, 6, 7, 35, 36, 37, 38, 39, 40, 41, 42, 43, 44, 45, 46, 47] (by decide +kernel) (by decide +kernel)
set_option maxRecDepth 20000 in
theorem gX5_road_X4_roadHours : GoodIn wsX5_road (wsV RX5 116 RX4 yX4_roadHours wsX4_roadHours) := goodIn_app (goodIn_of _ (by decide +kernel)) ggX5_road_X4_roadHours
theorem dX5_road_0 : decode cX5_road 0 = .ok (.aload_n 0, 1) := by decide +kernel
theorem dX5_road_1 : decode cX5_road 1 = .ok (.getfield 20, 3) := by decide +kernel
theorem dX5_road_4 : decode cX5_road 4 = .ok (.iload_n 1, 1) := by decide +kernel
theorem dX5_road_5 : decode cX5_road 5 = .ok (.invokevirtual 107, 3) := by decide +kernel
theorem dX5_road_8 : decode cX5_road 8 = .ok (.ifCond .ne 5, 3) := by decide +kernel
theorem dX5_road_11 : decode cX5_road 11 = .ok (.iconst (-1), 1) := by decide +kernel
theorem dX5_road_12 : decode cX5_road 12 = .ok (.ireturn, 1) := by decide +kernel
theorem dX5_road_13 : decode cX5_road 13 = .ok (.iload_n 2, 1) := by decide +kernel
theorem dX5_road_14 : decode cX5_road 14 = .ok (.tableswitch 53 0 2 #[26, 35, 44], 26) := by decide +kernel
theorem dX5_road_40 : decode cX5_road 40 = .ok (.aload_n 0, 1) := by decide +kernel
theorem dX5_road_41 : decode cX5_road 41 = .ok (.getfield 20, 3) := by decide +kernel
theorem dX5_road_44 : decode cX5_road 44 = .ok (.iload_n 1, 1) := by decide +kernel
theorem dX5_road_45 : decode cX5_road 45 = .ok (.invokevirtual 110, 3) := by decide +kernel
theorem dX5_road_48 : decode cX5_road 48 = .ok (.ireturn, 1) := by decide +kernel
theorem dX5_road_49 : decode cX5_road 49 = .ok (.aload_n 0, 1) := by decide +kernel
theorem dX5_road_50 : decode cX5_road 50 = .ok (.getfield 20, 3) := by decide +kernel
theorem dX5_road_53 : decode cX5_road 53 = .ok (.iload_n 1, 1) := by decide +kernel
theorem dX5_road_54 : decode cX5_road 54 = .ok (.invokevirtual 113, 3) := by decide +kernel
theorem dX5_road_57 : decode cX5_road 57 = .ok (.ireturn, 1) := by decide +kernel
theorem dX5_road_58 : decode cX5_road 58 = .ok (.aload_n 0, 1) := by decide +kernel
theorem dX5_road_59 : decode cX5_road 59 = .ok (.getfield 20, 3) := by decide +kernel
theorem dX5_road_62 : decode cX5_road 62 = .ok (.iload_n 1, 1) := by decide +kernel
theorem dX5_road_63 : decode cX5_road 63 = .ok (.invokevirtual 116, 3) := by decide +kernel
theorem dX5_road_66 : decode cX5_road 66 = .ok (.ireturn, 1) := by decide +kernel
theorem dX5_road_67 : decode cX5_road 67 = .ok (.iconst (-1), 1) := by decide +kernel
theorem dX5_road_68 : decode cX5_road 68 = .ok (.ireturn, 1) := by decide +kernel
set_option maxRecDepth 20000 in
theorem ggX5_host_X4_hasHost : GoodIn wsX5_host wsX4_hasHost := goodIn_r _ [6, 7, 35, 36, 37, 38, 39, 40, 41, 42, 43, 44, 45, 46, 47] (by decide +kernel) (by decide +kernel)
set_option maxRecDepth 20000 in
theorem gX5_host_X4_hasHost : GoodIn wsX5_host (wsV RX5 119 RX4 yX4_hasHost wsX4_hasHost) := goodIn_app (goodIn_of _ (by decide +kernel)) ggX5_host_X4_hasHost
set_option maxRecDepth 20000 in
theorem ggX5_host_X4_hostPlace : GoodIn wsX5_host wsX4_hostPlace := goodIn_r _ [11, 12, 13, 3, 4, 5, 6, 7, 35, 36, 37, 38, 39, 40, 41, 42, 43, 44, 45, 46, 47] (by decide +kernel) (by decide +kernel)
set_option maxRecDepth 20000 in
theorem gX5_host_X4_hostPlace : GoodIn wsX5_host (wsV RX5 122 RX4 yX4_hostPlace wsX4_hostPlace) := goodIn_app (goodIn_of _ (by decide +kernel)) ggX5_host_X4_hostPlace
set_option maxRecDepth 20000 in
theorem ggX5_host_X4_hostGives : GoodIn wsX5_host wsX4_hostGives := goodIn_r _ [17, 18, 13, 3, 4, 5, 6, 7, 35, 36, 37, 38, 39, 40, 41, 42, 43, 44, 45, 46, 47] (by decide +kernel) (by decide +kernel)
set_option maxRecDepth 20000 in
theorem gX5_host_X4_hostGives : GoodIn wsX5_host (wsV RX5 125 RX4 yX4_hostGives wsX4_hostGives) := goodIn_app (goodIn_of _ (by decide +kernel)) ggX5_host_X4_hostGives
set_option maxRecDepth 20000 in
theorem ggX5_host_X4_hostAsks : GoodIn wsX5_host wsX4_hostAsks := goodIn_r _ [22, 23, 13, 3, 4, 5, 6, 7, 35, 36, 37, 38, 39, 40, 41, 42, 43, 44, 45, 46, 47] (by decide +kernel) (by decide +kernel)
set_option maxRecDepth 20000 in
theorem gX5_host_X4_hostAsks : GoodIn wsX5_host (wsV RX5 128 RX4 yX4_hostAsks wsX4_hostAsks) := goodIn_app (goodIn_of _ (by decide +kernel)) ggX5_host_X4_hostAsks
theorem dX5_host_0 : decode cX5_host 0 = .ok (.aload_n 0, 1) := by decide +kernel
theorem dX5_host_1 : decode cX5_host 1 = .ok (.getfield 20, 3) := by decide +kernel
theorem dX5_host_4 : decode cX5_host 4 = .ok (.iload_n 1, 1) := by decide +kernel
theorem dX5_host_5 : decode cX5_host 5 = .ok (.invokevirtual 119, 3) := by decide +kernel
theorem dX5_host_8 : decode cX5_host 8 = .ok (.ifCond .ne 5, 3) := by decide +kernel
theorem dX5_host_11 : decode cX5_host 11 = .ok (.iconst (-1), 1) := by decide +kernel
theorem dX5_host_12 : decode cX5_host 12 = .ok (.ireturn, 1) := by decide +kernel
theorem dX5_host_13 : decode cX5_host 13 = .ok (.iload_n 2, 1) := by decide +kernel
theorem dX5_host_14 : decode cX5_host 14 = .ok (.tableswitch 53 0 2 #[26, 35, 44], 26) := by decide +kernel
theorem dX5_host_40 : decode cX5_host 40 = .ok (.aload_n 0, 1) := by decide +kernel
theorem dX5_host_41 : decode cX5_host 41 = .ok (.getfield 20, 3) := by decide +kernel
theorem dX5_host_44 : decode cX5_host 44 = .ok (.iload_n 1, 1) := by decide +kernel
theorem dX5_host_45 : decode cX5_host 45 = .ok (.invokevirtual 122, 3) := by decide +kernel
theorem dX5_host_48 : decode cX5_host 48 = .ok (.ireturn, 1) := by decide +kernel
theorem dX5_host_49 : decode cX5_host 49 = .ok (.aload_n 0, 1) := by decide +kernel
theorem dX5_host_50 : decode cX5_host 50 = .ok (.getfield 20, 3) := by decide +kernel
theorem dX5_host_53 : decode cX5_host 53 = .ok (.iload_n 1, 1) := by decide +kernel
theorem dX5_host_54 : decode cX5_host 54 = .ok (.invokevirtual 125, 3) := by decide +kernel
theorem dX5_host_57 : decode cX5_host 57 = .ok (.ireturn, 1) := by decide +kernel
theorem dX5_host_58 : decode cX5_host 58 = .ok (.aload_n 0, 1) := by decide +kernel
theorem dX5_host_59 : decode cX5_host 59 = .ok (.getfield 20, 3) := by decide +kernel
theorem dX5_host_62 : decode cX5_host 62 = .ok (.iload_n 1, 1) := by decide +kernel
theorem dX5_host_63 : decode cX5_host 63 = .ok (.invokevirtual 128, 3) := by decide +kernel
theorem dX5_host_66 : decode cX5_host 66 = .ok (.ireturn, 1) := by decide +kernel
theorem dX5_host_67 : decode cX5_host 67 = .ok (.iconst (-1), 1) := by decide +kernel
theorem dX5_host_68 : decode cX5_host 68 = .ok (.ireturn, 1) := by decide +kernel
set_option maxRecDepth 20000 in
theorem ggX5_walks_X4_hasRoad : GoodIn wsX5_walks wsX4_hasRoad := goodIn_r _ [10, 11, 103, 104, 105, 106, 107, 108, 109, 110, 111, 112, 113, 114, 115] (by decide +kernel) (by decide +kernel)
set_option maxRecDepth 20000 in
theorem gX5_walks_X4_hasRoad : GoodIn wsX5_walks (wsV RX5 107 RX4 yX4_hasRoad wsX4_hasRoad) := goodIn_app (goodIn_of _ (by decide +kernel)) ggX5_walks_X4_hasRoad
set_option maxRecDepth 20000 in
theorem ggX5_walks_X5_canWalk : GoodIn wsX5_walks wsX5_canWalk := goodIn_r _ [16, 1, 2, 3, 4, 5, 17, 18, 19, 9, 20, 21, 22, 23, 7, 8, 10, 11, 24, 25, 26, 27, 28, 29, 30, 31, 32, 33, 34, 35, 36, 37, 38, 39, 40, 41, 42, 43, 44, 45, 46, 47, 48, 49, 50, 51, 52, 53, 15, 54, 55, 56, 57, 84, 85, 86, 87, 88, 89, 90, 91, 92, 93, 94, 95, 96, 97, 98, 99, 100, 101, 102, 103, 104, 105, 106, 107, 108, 109, 110, 111, 112, 113, 114, 115] (by decide +kernel) (by decide +kernel)
set_option maxRecDepth 20000 in
theorem gX5_walks_X5_canWalk : GoodIn wsX5_walks (wsV RX5 131 RX5 yX5_canWalk wsX5_canWalk) := goodIn_app (goodIn_of _ (by decide +kernel)) ggX5_walks_X5_canWalk
set_option maxRecDepth 20000 in
theorem ggX5_walks_X4_farEnd : GoodIn wsX5_walks wsX4_farEnd := goodIn_r _ [20, 21, 22, 23, 7, 8, 9, 10, 11, 103, 104, 105, 106, 107, 108, 109, 110, 111, 112, 113, 114, 115] (by decide +kernel) (by decide +kernel)
set_option maxRecDepth 20000 in
theorem gX5_walks_X4_farEnd : GoodIn wsX5_walks (wsV RX5 137 RX4 yX4_farEnd wsX4_farEnd) := goodIn_app (goodIn_of _ (by decide +kernel)) ggX5_walks_X4_farEnd
set_option maxRecDepth 20000 in
theorem ggX5_walks_X2_remember : GoodIn wsX5_walks wsX2_remember := goodIn_r _ [62, 63, 64, 65, 66, 67, 68, 69, 70, 71, 72, 61, 73, 74, 75, 76, 77, 78, 15, 79, 95, 96, 97, 98, 99, 100, 101, 102] (by decide +kernel) (by decide +kernel)
set_option maxRecDepth 20000 in
theorem gX5_walks_X2_remember : GoodIn wsX5_walks (wsV RX5 141 RX2 yX2_remember wsX2_remember) := goodIn_app (goodIn_of _ (by decide +kernel)) ggX5_walks_X2_remember
set_option maxRecDepth 20000 in
theorem ggX5_walks_X4_roadHours : GoodIn wsX5_walks wsX4_roadHours := goodIn_r _ [27, 28, 23, 7, 8, 9, 10, 11, 103, 104, 105, 106, 107, 108, 109, 110, 111, 112, 113, 114, 115] (by decide +kernel) (by decide +kernel)
set_option maxRecDepth 20000 in
theorem gX5_walks_X4_roadHours : GoodIn wsX5_walks (wsV RX5 116 RX4 yX4_roadHours wsX4_roadHours) := goodIn_app (goodIn_of _ (by decide +kernel)) ggX5_walks_X4_roadHours
set_option maxRecDepth 20000 in
theorem ggX5_walks_X4_thingsInside : GoodIn wsX5_walks wsX4_thingsInside := goodIn_r _ [83, 48, 49, 50, 9, 51, 52, 39, 40, 41, 42, 43, 56, 15, 57, 103, 104, 105, 106, 107, 108, 109, 110, 111, 112, 113, 114, 115] (by decide +kernel) (by decide +kernel)
set_option maxRecDepth 20000 in
theorem gX5_walks_X4_thingsInside : GoodIn wsX5_walks (wsV RX5 150 RX4 yX4_thingsInside wsX4_thingsInside) := goodIn_app (goodIn_of _ (by decide +kernel)) ggX5_walks_X4_thingsInside
theorem dX5_walks_0 : decode cX5_walks 0 = .ok (.aload_n 0, 1) := by decide +kernel
theorem dX5_walks_1 : decode cX5_walks 1 = .ok (.getfield 20, 3) := by decide +kernel
theorem dX5_walks_4 : decode cX5_walks 4 = .ok (.iload_n 1, 1) := by decide +kernel
theorem dX5_walks_5 : decode cX5_walks 5 = .ok (.invokevirtual 107, 3) := by decide +kernel
theorem dX5_walks_8 : decode cX5_walks 8 = .ok (.ifCond .ne 5, 3) := by decide +kernel
theorem dX5_walks_11 : decode cX5_walks 11 = .ok (.iconst (-1), 1) := by decide +kernel
theorem dX5_walks_12 : decode cX5_walks 12 = .ok (.ireturn, 1) := by decide +kernel
theorem dX5_walks_13 : decode cX5_walks 13 = .ok (.aload_n 0, 1) := by decide +kernel
theorem dX5_walks_14 : decode cX5_walks 14 = .ok (.iload_n 1, 1) := by decide +kernel
theorem dX5_walks_15 : decode cX5_walks 15 = .ok (.invokevirtual 131, 3) := by decide +kernel
theorem dX5_walks_18 : decode cX5_walks 18 = .ok (.ifCond .ne 6, 3) := by decide +kernel
theorem dX5_walks_21 : decode cX5_walks 21 = .ok (.bipush (-2), 2) := by decide +kernel
theorem dX5_walks_23 : decode cX5_walks 23 = .ok (.ireturn, 1) := by decide +kernel
theorem dX5_walks_24 : decode cX5_walks 24 = .ok (.aload_n 0, 1) := by decide +kernel
theorem dX5_walks_25 : decode cX5_walks 25 = .ok (.getfield 20, 3) := by decide +kernel
theorem dX5_walks_28 : decode cX5_walks 28 = .ok (.iload_n 1, 1) := by decide +kernel
theorem dX5_walks_29 : decode cX5_walks 29 = .ok (.aload_n 0, 1) := by decide +kernel
theorem dX5_walks_30 : decode cX5_walks 30 = .ok (.getfield 39, 3) := by decide +kernel
theorem dX5_walks_33 : decode cX5_walks 33 = .ok (.getfield 134, 3) := by decide +kernel
theorem dX5_walks_36 : decode cX5_walks 36 = .ok (.invokevirtual 137, 3) := by decide +kernel
theorem dX5_walks_39 : decode cX5_walks 39 = .ok (.istore_n 2, 1) := by decide +kernel
theorem dX5_walks_40 : decode cX5_walks 40 = .ok (.aload_n 0, 1) := by decide +kernel
theorem dX5_walks_41 : decode cX5_walks 41 = .ok (.getfield 39, 3) := by decide +kernel
theorem dX5_walks_44 : decode cX5_walks 44 = .ok (.invokevirtual 141, 3) := by decide +kernel
theorem dX5_walks_47 : decode cX5_walks 47 = .ok (.aload_n 0, 1) := by decide +kernel
theorem dX5_walks_48 : decode cX5_walks 48 = .ok (.getfield 39, 3) := by decide +kernel
theorem dX5_walks_51 : decode cX5_walks 51 = .ok (.iload_n 2, 1) := by decide +kernel
theorem dX5_walks_52 : decode cX5_walks 52 = .ok (.putfield 134, 3) := by decide +kernel
theorem dX5_walks_55 : decode cX5_walks 55 = .ok (.aload_n 0, 1) := by decide +kernel
theorem dX5_walks_56 : decode cX5_walks 56 = .ok (.getfield 39, 3) := by decide +kernel
theorem dX5_walks_59 : decode cX5_walks 59 = .ok (.dup, 1) := by decide +kernel
theorem dX5_walks_60 : decode cX5_walks 60 = .ok (.getfield 144, 3) := by decide +kernel
theorem dX5_walks_63 : decode cX5_walks 63 = .ok (.aload_n 0, 1) := by decide +kernel
theorem dX5_walks_64 : decode cX5_walks 64 = .ok (.getfield 20, 3) := by decide +kernel
theorem dX5_walks_67 : decode cX5_walks 67 = .ok (.iload_n 1, 1) := by decide +kernel
theorem dX5_walks_68 : decode cX5_walks 68 = .ok (.invokevirtual 116, 3) := by decide +kernel
theorem dX5_walks_71 : decode cX5_walks 71 = .ok (.iadd, 1) := by decide +kernel
theorem dX5_walks_72 : decode cX5_walks 72 = .ok (.putfield 144, 3) := by decide +kernel
theorem dX5_walks_75 : decode cX5_walks 75 = .ok (.aload_n 0, 1) := by decide +kernel
theorem dX5_walks_76 : decode cX5_walks 76 = .ok (.getfield 39, 3) := by decide +kernel
theorem dX5_walks_79 : decode cX5_walks 79 = .ok (.aload_n 0, 1) := by decide +kernel
theorem dX5_walks_80 : decode cX5_walks 80 = .ok (.getfield 20, 3) := by decide +kernel
theorem dX5_walks_83 : decode cX5_walks 83 = .ok (.iload_n 2, 1) := by decide +kernel
theorem dX5_walks_84 : decode cX5_walks 84 = .ok (.aload_n 0, 1) := by decide +kernel
theorem dX5_walks_85 : decode cX5_walks 85 = .ok (.getfield 39, 3) := by decide +kernel
theorem dX5_walks_88 : decode cX5_walks 88 = .ok (.getfield 147, 3) := by decide +kernel
theorem dX5_walks_91 : decode cX5_walks 91 = .ok (.invokevirtual 150, 3) := by decide +kernel
theorem dX5_walks_94 : decode cX5_walks 94 = .ok (.putfield 147, 3) := by decide +kernel
theorem dX5_walks_97 : decode cX5_walks 97 = .ok (.iload_n 2, 1) := by decide +kernel
theorem dX5_walks_98 : decode cX5_walks 98 = .ok (.ireturn, 1) := by decide +kernel
set_option maxRecDepth 20000 in
theorem ggX5_waits_X2_remember : GoodIn wsX5_waits wsX2_remember := goodIn_r _ [9, 10, 11, 12, 13, 14, 15, 16, 17, 18, 19, 8, 20, 21, 22, 23, 24, 25, 26, 27, 52, 53, 54, 55, 56, 57, 58, 59] (by decide +kernel) (by decide +kernel)
set_option maxRecDepth 20000 in
theorem gX5_waits_X2_remember : GoodIn wsX5_waits (wsV RX5 141 RX2 yX2_remember wsX2_remember) := goodIn_app (goodIn_of _ (by decide +kernel)) ggX5_waits_X2_remember
theorem dX5_waits_0 : decode cX5_waits 0 = .ok (.aload_n 0, 1) := by decide +kernel
theorem dX5_waits_1 : decode cX5_waits 1 = .ok (.getfield 20, 3) := by decide +kernel
theorem dX5_waits_4 : decode cX5_waits 4 = .ok (.getfield 153, 3) := by decide +kernel
theorem dX5_waits_7 : decode cX5_waits 7 = .ok (.ifCond .eq 16, 3) := by decide +kernel
theorem dX5_waits_10 : decode cX5_waits 10 = .ok (.aload_n 0, 1) := by decide +kernel
theorem dX5_waits_11 : decode cX5_waits 11 = .ok (.getfield 39, 3) := by decide +kernel
theorem dX5_waits_14 : decode cX5_waits 14 = .ok (.getfield 144, 3) := by decide +kernel
theorem dX5_waits_17 : decode cX5_waits 17 = .ok (.sipush 9999, 3) := by decide +kernel
theorem dX5_waits_20 : decode cX5_waits 20 = .ok (.if_icmp .lt 6, 3) := by decide +kernel
theorem dX5_waits_23 : decode cX5_waits 23 = .ok (.bipush (-2), 2) := by decide +kernel
theorem dX5_waits_25 : decode cX5_waits 25 = .ok (.ireturn, 1) := by decide +kernel
theorem dX5_waits_26 : decode cX5_waits 26 = .ok (.aload_n 0, 1) := by decide +kernel
theorem dX5_waits_27 : decode cX5_waits 27 = .ok (.getfield 39, 3) := by decide +kernel
theorem dX5_waits_30 : decode cX5_waits 30 = .ok (.invokevirtual 141, 3) := by decide +kernel
theorem dX5_waits_33 : decode cX5_waits 33 = .ok (.aload_n 0, 1) := by decide +kernel
theorem dX5_waits_34 : decode cX5_waits 34 = .ok (.getfield 39, 3) := by decide +kernel
theorem dX5_waits_37 : decode cX5_waits 37 = .ok (.dup, 1) := by decide +kernel
theorem dX5_waits_38 : decode cX5_waits 38 = .ok (.getfield 144, 3) := by decide +kernel
theorem dX5_waits_41 : decode cX5_waits 41 = .ok (.iconst 1, 1) := by decide +kernel
theorem dX5_waits_42 : decode cX5_waits 42 = .ok (.iadd, 1) := by decide +kernel
theorem dX5_waits_43 : decode cX5_waits 43 = .ok (.putfield 144, 3) := by decide +kernel
theorem dX5_waits_46 : decode cX5_waits 46 = .ok (.aload_n 0, 1) := by decide +kernel
theorem dX5_waits_47 : decode cX5_waits 47 = .ok (.getfield 39, 3) := by decide +kernel
theorem dX5_waits_50 : decode cX5_waits 50 = .ok (.getfield 144, 3) := by decide +kernel
theorem dX5_waits_53 : decode cX5_waits 53 = .ok (.ireturn, 1) := by decide +kernel
set_option maxRecDepth 20000 in
theorem ggX5_asks_X4_hasHost : GoodIn wsX5_asks wsX4_hasHost := goodIn_r _ [9, 10, 70, 71, 72, 73, 74, 75, 76, 77, 78, 79, 80, 81, 82] (by decide +kernel) (by decide +kernel)
set_option maxRecDepth 20000 in
theorem gX5_asks_X4_hasHost : GoodIn wsX5_asks (wsV RX5 119 RX4 yX4_hasHost wsX4_hasHost) := goodIn_app (goodIn_of _ (by decide +kernel)) ggX5_asks_X4_hasHost
set_option maxRecDepth 20000 in
theorem ggX5_asks_X4_isGiven : GoodIn wsX5_asks wsX4_isGiven := goodIn_r _ [14, 15, 16, 17, 18, 6, 7, 8, 9, 10, 19, 20, 21, 22, 23, 24, 70, 71, 72, 73, 74, 75, 76, 77, 78, 79, 80, 81, 82] (by decide +kernel) (by decide +kernel)
set_option maxRecDepth 20000 in
theorem gX5_asks_X4_isGiven : GoodIn wsX5_asks (wsV RX5 156 RX4 yX4_isGiven wsX4_isGiven) := goodIn_app (goodIn_of _ (by decide +kernel)) ggX5_asks_X4_isGiven
set_option maxRecDepth 20000 in
theorem ggX5_asks_X2_remember : GoodIn wsX5_asks wsX2_remember := goodIn_r _ [29, 30, 31, 32, 33, 34, 35, 36, 37, 38, 39, 28, 40, 41, 42, 43, 44, 45, 20, 46, 62, 63, 64, 65, 66, 67, 68, 69] (by decide +kernel) (by decide +kernel)
set_option maxRecDepth 20000 in
theorem gX5_asks_X2_remember : GoodIn wsX5_asks (wsV RX5 141 RX2 yX2_remember wsX2_remember) := goodIn_app (goodIn_of _ (by decide +kernel)) ggX5_asks_X2_remember
set_option maxRecDepth 20000 in
theorem ggX5_asks_X4_hostGives : GoodIn wsX5_asks wsX4_hostGives := goodIn_r _ [50, 17, 18, 6, 7, 8, 9, 10, 70, 71, 72, 73, 74, 75, 76, 77, 78, 79, 80, 81, 82] (by decide +kernel) (by decide +kernel)
set_option maxRecDepth 20000 in
theorem gX5_asks_X4_hostGives : GoodIn wsX5_asks (wsV RX5 125 RX4 yX4_hostGives wsX4_hostGives) := goodIn_app (goodIn_of _ (by decide +kernel)) ggX5_asks_X4_hostGives
theorem dX5_asks_0 : decode cX5_asks 0 = .ok (.aload_n 0, 1) := by decide +kernel
theorem dX5_asks_1 : decode cX5_asks 1 = .ok (.getfield 20, 3) := by decide +kernel
theorem dX5_asks_4 : decode cX5_asks 4 = .ok (.iload_n 1, 1) := by decide +kernel
theorem dX5_asks_5 : decode cX5_asks 5 = .ok (.invokevirtual 119, 3) := by decide +kernel
theorem dX5_asks_8 : decode cX5_asks 8 = .ok (.ifCond .ne 5, 3) := by decide +kernel
theorem dX5_asks_11 : decode cX5_asks 11 = .ok (.iconst (-1), 1) := by decide +kernel
theorem dX5_asks_12 : decode cX5_asks 12 = .ok (.ireturn, 1) := by decide +kernel
theorem dX5_asks_13 : decode cX5_asks 13 = .ok (.aload_n 0, 1) := by decide +kernel
theorem dX5_asks_14 : decode cX5_asks 14 = .ok (.getfield 20, 3) := by decide +kernel
theorem dX5_asks_17 : decode cX5_asks 17 = .ok (.iload_n 1, 1) := by decide +kernel
theorem dX5_asks_18 : decode cX5_asks 18 = .ok (.aload_n 0, 1) := by decide +kernel
theorem dX5_asks_19 : decode cX5_asks 19 = .ok (.getfield 39, 3) := by decide +kernel
theorem dX5_asks_22 : decode cX5_asks 22 = .ok (.getfield 134, 3) := by decide +kernel
theorem dX5_asks_25 : decode cX5_asks 25 = .ok (.aload_n 0, 1) := by decide +kernel
theorem dX5_asks_26 : decode cX5_asks 26 = .ok (.getfield 39, 3) := by decide +kernel
theorem dX5_asks_29 : decode cX5_asks 29 = .ok (.getfield 147, 3) := by decide +kernel
theorem dX5_asks_32 : decode cX5_asks 32 = .ok (.invokevirtual 156, 3) := by decide +kernel
theorem dX5_asks_35 : decode cX5_asks 35 = .ok (.ifCond .ne 6, 3) := by decide +kernel
theorem dX5_asks_38 : decode cX5_asks 38 = .ok (.bipush (-2), 2) := by decide +kernel
theorem dX5_asks_40 : decode cX5_asks 40 = .ok (.ireturn, 1) := by decide +kernel
theorem dX5_asks_41 : decode cX5_asks 41 = .ok (.aload_n 0, 1) := by decide +kernel
theorem dX5_asks_42 : decode cX5_asks 42 = .ok (.getfield 39, 3) := by decide +kernel
theorem dX5_asks_45 : decode cX5_asks 45 = .ok (.invokevirtual 141, 3) := by decide +kernel
theorem dX5_asks_48 : decode cX5_asks 48 = .ok (.aload_n 0, 1) := by decide +kernel
theorem dX5_asks_49 : decode cX5_asks 49 = .ok (.getfield 39, 3) := by decide +kernel
theorem dX5_asks_52 : decode cX5_asks 52 = .ok (.dup, 1) := by decide +kernel
theorem dX5_asks_53 : decode cX5_asks 53 = .ok (.getfield 147, 3) := by decide +kernel
theorem dX5_asks_56 : decode cX5_asks 56 = .ok (.iconst 1, 1) := by decide +kernel
theorem dX5_asks_57 : decode cX5_asks 57 = .ok (.aload_n 0, 1) := by decide +kernel
theorem dX5_asks_58 : decode cX5_asks 58 = .ok (.getfield 20, 3) := by decide +kernel
theorem dX5_asks_61 : decode cX5_asks 61 = .ok (.iload_n 1, 1) := by decide +kernel
theorem dX5_asks_62 : decode cX5_asks 62 = .ok (.invokevirtual 125, 3) := by decide +kernel
theorem dX5_asks_65 : decode cX5_asks 65 = .ok (.ishl, 1) := by decide +kernel
theorem dX5_asks_66 : decode cX5_asks 66 = .ok (.ior, 1) := by decide +kernel
theorem dX5_asks_67 : decode cX5_asks 67 = .ok (.putfield 147, 3) := by decide +kernel
theorem dX5_asks_70 : decode cX5_asks 70 = .ok (.aload_n 0, 1) := by decide +kernel
theorem dX5_asks_71 : decode cX5_asks 71 = .ok (.getfield 39, 3) := by decide +kernel
theorem dX5_asks_74 : decode cX5_asks 74 = .ok (.getfield 147, 3) := by decide +kernel
theorem dX5_asks_77 : decode cX5_asks 77 = .ok (.ireturn, 1) := by decide +kernel
set_option maxRecDepth 20000 in
theorem ggX5_undo_X2_recall : GoodIn wsX5_undo wsX2_recall := goodIn_r _ [7, 8, 9, 10, 11, 12, 13, 14, 15, 16, 17, 29, 30, 31, 32, 33, 34, 35, 36] (by decide +kernel) (by decide +kernel)
set_option maxRecDepth 20000 in
theorem gX5_undo_X2_recall : GoodIn wsX5_undo (wsV RX5 162 RX2 yX2_recall wsX2_recall) := goodIn_app (goodIn_of _ (by decide +kernel)) ggX5_undo_X2_recall
theorem dX5_undo_0 : decode cX5_undo 0 = .ok (.aload_n 0, 1) := by decide +kernel
theorem dX5_undo_1 : decode cX5_undo 1 = .ok (.getfield 39, 3) := by decide +kernel
theorem dX5_undo_4 : decode cX5_undo 4 = .ok (.getfield 159, 3) := by decide +kernel
theorem dX5_undo_7 : decode cX5_undo 7 = .ok (.ifCond .ne 6, 3) := by decide +kernel
theorem dX5_undo_10 : decode cX5_undo 10 = .ok (.bipush (-2), 2) := by decide +kernel
theorem dX5_undo_12 : decode cX5_undo 12 = .ok (.ireturn, 1) := by decide +kernel
theorem dX5_undo_13 : decode cX5_undo 13 = .ok (.aload_n 0, 1) := by decide +kernel
theorem dX5_undo_14 : decode cX5_undo 14 = .ok (.getfield 39, 3) := by decide +kernel
theorem dX5_undo_17 : decode cX5_undo 17 = .ok (.invokevirtual 162, 3) := by decide +kernel
theorem dX5_undo_20 : decode cX5_undo 20 = .ok (.aload_n 0, 1) := by decide +kernel
theorem dX5_undo_21 : decode cX5_undo 21 = .ok (.getfield 39, 3) := by decide +kernel
theorem dX5_undo_24 : decode cX5_undo 24 = .ok (.getfield 159, 3) := by decide +kernel
theorem dX5_undo_27 : decode cX5_undo 27 = .ok (.ireturn, 1) := by decide +kernel
set_option maxRecDepth 20000 in
theorem ggX5_now_X5_openRoads : GoodIn wsX5_now wsX5_openRoads := goodIn_r _ [11, 1, 12, 13, 14, 15, 10, 16, 3, 4, 5, 6, 17, 18, 19, 20, 21, 22, 23, 24, 25, 26, 27, 28, 29, 30, 31, 32, 33, 34, 35, 36, 37, 38, 39, 40, 41, 42, 43, 44, 45, 46, 47, 48, 49, 50, 51, 52, 53, 54, 55, 56, 57, 58, 59, 60, 61, 62, 80, 81, 82, 83, 84, 85, 86, 87, 88, 89, 90, 91, 92, 93, 94, 95, 96, 97, 98, 99, 100, 101, 102, 103, 104, 105, 106, 107, 108, 109, 110, 111] (by decide +kernel) (by decide +kernel)
set_option maxRecDepth 20000 in
theorem gX5_now_X5_openRoads : GoodIn wsX5_now (wsV RX5 165 RX5 yX5_openRoads wsX5_openRoads) := goodIn_app (goodIn_of _ (by decide +kernel)) ggX5_now_X5_openRoads
set_option maxRecDepth 20000 in
theorem ggX5_now_X5_givingHosts : GoodIn wsX5_now wsX5_givingHosts := goodIn_r _ [66, 1, 67, 3, 4, 6, 68, 69, 70, 20, 71, 72, 73, 74, 75, 76, 77, 78, 79, 58, 10, 59, 60, 61, 62, 80, 81, 82, 83, 84, 85, 86, 87, 88, 89, 90, 91, 92, 93, 94, 95, 96, 97, 98, 99, 100, 101, 102, 103, 104, 105, 106, 107, 108, 109, 110, 111] (by decide +kernel) (by decide +kernel)
set_option maxRecDepth 20000 in
theorem gX5_now_X5_givingHosts : GoodIn wsX5_now (wsV RX5 169 RX5 yX5_givingHosts wsX5_givingHosts) := goodIn_app (goodIn_of _ (by decide +kernel)) ggX5_now_X5_givingHosts
theorem dX5_now_0 : decode cX5_now 0 = .ok (.iload_n 1, 1) := by decide +kernel
theorem dX5_now_1 : decode cX5_now 1 = .ok (.tableswitch 99 0 5 #[39, 62, 70, 81, 89, 94], 39) := by decide +kernel
theorem dX5_now_40 : decode cX5_now 40 = .ok (.aload_n 0, 1) := by decide +kernel
theorem dX5_now_41 : decode cX5_now 41 = .ok (.getfield 20, 3) := by decide +kernel
theorem dX5_now_44 : decode cX5_now 44 = .ok (.getfield 153, 3) := by decide +kernel
theorem dX5_now_47 : decode cX5_now 47 = .ok (.ifCond .ne 8, 3) := by decide +kernel
theorem dX5_now_50 : decode cX5_now 50 = .ok (.bipush (-9), 2) := by decide +kernel
theorem dX5_now_52 : decode cX5_now 52 = .ok (.goto 10, 3) := by decide +kernel
theorem dX5_now_55 : decode cX5_now 55 = .ok (.aload_n 0, 1) := by decide +kernel
theorem dX5_now_56 : decode cX5_now 56 = .ok (.getfield 39, 3) := by decide +kernel
theorem dX5_now_59 : decode cX5_now 59 = .ok (.getfield 134, 3) := by decide +kernel
theorem dX5_now_62 : decode cX5_now 62 = .ok (.ireturn, 1) := by decide +kernel
theorem dX5_now_63 : decode cX5_now 63 = .ok (.aload_n 0, 1) := by decide +kernel
theorem dX5_now_64 : decode cX5_now 64 = .ok (.getfield 39, 3) := by decide +kernel
theorem dX5_now_67 : decode cX5_now 67 = .ok (.getfield 144, 3) := by decide +kernel
theorem dX5_now_70 : decode cX5_now 70 = .ok (.ireturn, 1) := by decide +kernel
theorem dX5_now_71 : decode cX5_now 71 = .ok (.aload_n 0, 1) := by decide +kernel
theorem dX5_now_72 : decode cX5_now 72 = .ok (.getfield 39, 3) := by decide +kernel
theorem dX5_now_75 : decode cX5_now 75 = .ok (.getfield 144, 3) := by decide +kernel
theorem dX5_now_78 : decode cX5_now 78 = .ok (.bipush 24, 2) := by decide +kernel
theorem dX5_now_80 : decode cX5_now 80 = .ok (.irem, 1) := by decide +kernel
theorem dX5_now_81 : decode cX5_now 81 = .ok (.ireturn, 1) := by decide +kernel
theorem dX5_now_82 : decode cX5_now 82 = .ok (.aload_n 0, 1) := by decide +kernel
theorem dX5_now_83 : decode cX5_now 83 = .ok (.getfield 39, 3) := by decide +kernel
theorem dX5_now_86 : decode cX5_now 86 = .ok (.getfield 147, 3) := by decide +kernel
theorem dX5_now_89 : decode cX5_now 89 = .ok (.ireturn, 1) := by decide +kernel
theorem dX5_now_90 : decode cX5_now 90 = .ok (.aload_n 0, 1) := by decide +kernel
theorem dX5_now_91 : decode cX5_now 91 = .ok (.invokevirtual 165, 3) := by decide +kernel
theorem dX5_now_94 : decode cX5_now 94 = .ok (.ireturn, 1) := by decide +kernel
theorem dX5_now_95 : decode cX5_now 95 = .ok (.aload_n 0, 1) := by decide +kernel
theorem dX5_now_96 : decode cX5_now 96 = .ok (.invokevirtual 169, 3) := by decide +kernel
theorem dX5_now_99 : decode cX5_now 99 = .ok (.ireturn, 1) := by decide +kernel
theorem dX5_now_100 : decode cX5_now 100 = .ok (.iconst (-1), 1) := by decide +kernel
theorem dX5_now_101 : decode cX5_now 101 = .ok (.ireturn, 1) := by decide +kernel
set_option maxRecDepth 20000 in
theorem ggX5_canWalk_X4_farEnd : GoodIn wsX5_canWalk wsX4_farEnd := goodIn_r _ [10, 11, 12, 13, 14, 15, 9, 16, 17, 72, 73, 74, 75, 76, 77, 78, 79, 80, 81, 82, 83, 84] (by decide +kernel) (by decide +kernel)
set_option maxRecDepth 20000 in
theorem gX5_canWalk_X4_farEnd : GoodIn wsX5_canWalk (wsV RX5 137 RX4 yX4_farEnd wsX4_farEnd) := goodIn_app (goodIn_of _ (by decide +kernel)) ggX5_canWalk_X4_farEnd
set_option maxRecDepth 20000 in
theorem ggX5_canWalk_X4_roadHours : GoodIn wsX5_canWalk wsX4_roadHours := goodIn_r _ [21, 22, 13, 14, 15, 9, 16, 17, 72, 73, 74, 75, 76, 77, 78, 79, 80, 81, 82, 83, 84] (by decide +kernel) (by decide +kernel)
set_option maxRecDepth 20000 in
theorem gX5_canWalk_X4_roadHours : GoodIn wsX5_canWalk (wsV RX5 116 RX4 yX4_roadHours wsX4_roadHours) := goodIn_app (goodIn_of _ (by decide +kernel)) ggX5_canWalk_X4_roadHours
set_option maxRecDepth 20000 in
theorem ggX5_canWalk_X4_letsIn : GoodIn wsX5_canWalk wsX4_letsIn := goodIn_r _ [26, 27, 28, 29, 9, 30, 31, 32, 33, 34, 35, 36, 37, 38, 39, 40, 41, 42, 43, 44, 45, 46, 47, 48, 49, 50, 51, 52, 72, 73, 74, 75, 76, 77, 78, 79, 80, 81, 82, 83, 84] (by decide +kernel) (by decide +kernel)
set_option maxRecDepth 20000 in
theorem gX5_canWalk_X4_letsIn : GoodIn wsX5_canWalk (wsV RX5 172 RX4 yX4_letsIn wsX4_letsIn) := goodIn_app (goodIn_of _ (by decide +kernel)) ggX5_canWalk_X4_letsIn
theorem dX5_canWalk_0 : decode cX5_canWalk 0 = .ok (.aload_n 0, 1) := by decide +kernel
theorem dX5_canWalk_1 : decode cX5_canWalk 1 = .ok (.getfield 20, 3) := by decide +kernel
theorem dX5_canWalk_4 : decode cX5_canWalk 4 = .ok (.iload_n 1, 1) := by decide +kernel
theorem dX5_canWalk_5 : decode cX5_canWalk 5 = .ok (.aload_n 0, 1) := by decide +kernel
theorem dX5_canWalk_6 : decode cX5_canWalk 6 = .ok (.getfield 39, 3) := by decide +kernel
theorem dX5_canWalk_9 : decode cX5_canWalk 9 = .ok (.getfield 134, 3) := by decide +kernel
theorem dX5_canWalk_12 : decode cX5_canWalk 12 = .ok (.invokevirtual 137, 3) := by decide +kernel
theorem dX5_canWalk_15 : decode cX5_canWalk 15 = .ok (.istore_n 2, 1) := by decide +kernel
theorem dX5_canWalk_16 : decode cX5_canWalk 16 = .ok (.aload_n 0, 1) := by decide +kernel
theorem dX5_canWalk_17 : decode cX5_canWalk 17 = .ok (.getfield 39, 3) := by decide +kernel
theorem dX5_canWalk_20 : decode cX5_canWalk 20 = .ok (.getfield 144, 3) := by decide +kernel
theorem dX5_canWalk_23 : decode cX5_canWalk 23 = .ok (.aload_n 0, 1) := by decide +kernel
theorem dX5_canWalk_24 : decode cX5_canWalk 24 = .ok (.getfield 20, 3) := by decide +kernel
theorem dX5_canWalk_27 : decode cX5_canWalk 27 = .ok (.iload_n 1, 1) := by decide +kernel
theorem dX5_canWalk_28 : decode cX5_canWalk 28 = .ok (.invokevirtual 116, 3) := by decide +kernel
theorem dX5_canWalk_31 : decode cX5_canWalk 31 = .ok (.iadd, 1) := by decide +kernel
theorem dX5_canWalk_32 : decode cX5_canWalk 32 = .ok (.istore_n 3, 1) := by decide +kernel
theorem dX5_canWalk_33 : decode cX5_canWalk 33 = .ok (.iload_n 2, 1) := by decide +kernel
theorem dX5_canWalk_34 : decode cX5_canWalk 34 = .ok (.bipush (-9), 2) := by decide +kernel
theorem dX5_canWalk_36 : decode cX5_canWalk 36 = .ok (.if_icmp .eq 33, 3) := by decide +kernel
theorem dX5_canWalk_39 : decode cX5_canWalk 39 = .ok (.iload_n 3, 1) := by decide +kernel
theorem dX5_canWalk_40 : decode cX5_canWalk 40 = .ok (.sipush 9999, 3) := by decide +kernel
theorem dX5_canWalk_43 : decode cX5_canWalk 43 = .ok (.if_icmp .gt 26, 3) := by decide +kernel
theorem dX5_canWalk_46 : decode cX5_canWalk 46 = .ok (.aload_n 0, 1) := by decide +kernel
theorem dX5_canWalk_47 : decode cX5_canWalk 47 = .ok (.getfield 20, 3) := by decide +kernel
theorem dX5_canWalk_50 : decode cX5_canWalk 50 = .ok (.iload_n 2, 1) := by decide +kernel
theorem dX5_canWalk_51 : decode cX5_canWalk 51 = .ok (.iload_n 3, 1) := by decide +kernel
theorem dX5_canWalk_52 : decode cX5_canWalk 52 = .ok (.aload_n 0, 1) := by decide +kernel
theorem dX5_canWalk_53 : decode cX5_canWalk 53 = .ok (.getfield 39, 3) := by decide +kernel
theorem dX5_canWalk_56 : decode cX5_canWalk 56 = .ok (.getfield 147, 3) := by decide +kernel
theorem dX5_canWalk_59 : decode cX5_canWalk 59 = .ok (.invokevirtual 172, 3) := by decide +kernel
theorem dX5_canWalk_62 : decode cX5_canWalk 62 = .ok (.ifCond .eq 7, 3) := by decide +kernel
theorem dX5_canWalk_65 : decode cX5_canWalk 65 = .ok (.iconst 1, 1) := by decide +kernel
theorem dX5_canWalk_66 : decode cX5_canWalk 66 = .ok (.goto 4, 3) := by decide +kernel
theorem dX5_canWalk_69 : decode cX5_canWalk 69 = .ok (.iconst 0, 1) := by decide +kernel
theorem dX5_canWalk_70 : decode cX5_canWalk 70 = .ok (.ireturn, 1) := by decide +kernel
set_option maxRecDepth 20000 in
theorem ggX5_openRoads_X5_canWalk : GoodIn wsX5_openRoads wsX5_canWalk := goodIn_r _ [7, 1, 8, 9, 10, 11, 12, 13, 14, 15, 16, 17, 18, 19, 20, 21, 22, 23, 24, 25, 26, 27, 28, 29, 30, 31, 32, 33, 34, 35, 36, 37, 38, 39, 40, 41, 42, 43, 44, 45, 46, 47, 48, 49, 50, 51, 52, 53, 6, 54, 55, 56, 57, 58, 59, 60, 61, 62, 63, 64, 65, 66, 67, 68, 82, 83, 84, 85, 86, 87, 88, 89, 69, 70, 71, 72, 73, 74, 75, 76, 77, 78, 79, 80, 81] (by decide +kernel) (by decide +kernel)
set_option maxRecDepth 20000 in
theorem gX5_openRoads_X5_canWalk : GoodIn wsX5_openRoads (wsV RX5 131 RX5 yX5_canWalk wsX5_canWalk) := goodIn_app (goodIn_of _ (by decide +kernel)) ggX5_openRoads_X5_canWalk
theorem dX5_openRoads_0 : decode cX5_openRoads 0 = .ok (.iconst 0, 1) := by decide +kernel
theorem dX5_openRoads_1 : decode cX5_openRoads 1 = .ok (.istore_n 1, 1) := by decide +kernel
theorem dX5_openRoads_2 : decode cX5_openRoads 2 = .ok (.iconst 0, 1) := by decide +kernel
theorem dX5_openRoads_3 : decode cX5_openRoads 3 = .ok (.istore_n 2, 1) := by decide +kernel
theorem dX5_openRoads_4 : decode cX5_openRoads 4 = .ok (.iload_n 2, 1) := by decide +kernel
theorem dX5_openRoads_5 : decode cX5_openRoads 5 = .ok (.aload_n 0, 1) := by decide +kernel
theorem dX5_openRoads_6 : decode cX5_openRoads 6 = .ok (.getfield 20, 3) := by decide +kernel
theorem dX5_openRoads_9 : decode cX5_openRoads 9 = .ok (.getfield 175, 3) := by decide +kernel
theorem dX5_openRoads_12 : decode cX5_openRoads 12 = .ok (.if_icmp .ge 23, 3) := by decide +kernel
theorem dX5_openRoads_15 : decode cX5_openRoads 15 = .ok (.aload_n 0, 1) := by decide +kernel
theorem dX5_openRoads_16 : decode cX5_openRoads 16 = .ok (.iload_n 2, 1) := by decide +kernel
theorem dX5_openRoads_17 : decode cX5_openRoads 17 = .ok (.invokevirtual 131, 3) := by decide +kernel
theorem dX5_openRoads_20 : decode cX5_openRoads 20 = .ok (.ifCond .eq 9, 3) := by decide +kernel
theorem dX5_openRoads_23 : decode cX5_openRoads 23 = .ok (.iload_n 1, 1) := by decide +kernel
theorem dX5_openRoads_24 : decode cX5_openRoads 24 = .ok (.iconst 1, 1) := by decide +kernel
theorem dX5_openRoads_25 : decode cX5_openRoads 25 = .ok (.iload_n 2, 1) := by decide +kernel
theorem dX5_openRoads_26 : decode cX5_openRoads 26 = .ok (.ishl, 1) := by decide +kernel
theorem dX5_openRoads_27 : decode cX5_openRoads 27 = .ok (.ior, 1) := by decide +kernel
theorem dX5_openRoads_28 : decode cX5_openRoads 28 = .ok (.istore_n 1, 1) := by decide +kernel
theorem dX5_openRoads_29 : decode cX5_openRoads 29 = .ok (.iinc 2 1, 3) := by decide +kernel
theorem dX5_openRoads_32 : decode cX5_openRoads 32 = .ok (.goto (-28), 3) := by decide +kernel
theorem dX5_openRoads_35 : decode cX5_openRoads 35 = .ok (.iload_n 1, 1) := by decide +kernel
theorem dX5_openRoads_36 : decode cX5_openRoads 36 = .ok (.ireturn, 1) := by decide +kernel
set_option maxRecDepth 20000 in
theorem ggX5_givingHosts_X4_isGiven : GoodIn wsX5_givingHosts wsX4_isGiven := goodIn_r _ [10, 11, 12, 13, 14, 15, 16, 9, 17, 18, 19, 20, 21, 22, 23, 24, 36, 37, 38, 39, 40, 41, 42, 43, 44, 45, 46, 47, 48] (by decide +kernel) (by decide +kernel)
set_option maxRecDepth 20000 in
theorem gX5_givingHosts_X4_isGiven : GoodIn wsX5_givingHosts (wsV RX5 156 RX4 yX4_isGiven wsX4_isGiven) := goodIn_app (goodIn_of _ (by decide +kernel)) ggX5_givingHosts_X4_isGiven
theorem dX5_givingHosts_0 : decode cX5_givingHosts 0 = .ok (.iconst 0, 1) := by decide +kernel
theorem dX5_givingHosts_1 : decode cX5_givingHosts 1 = .ok (.istore_n 1, 1) := by decide +kernel
theorem dX5_givingHosts_2 : decode cX5_givingHosts 2 = .ok (.iconst 0, 1) := by decide +kernel
theorem dX5_givingHosts_3 : decode cX5_givingHosts 3 = .ok (.istore_n 2, 1) := by decide +kernel
theorem dX5_givingHosts_4 : decode cX5_givingHosts 4 = .ok (.iload_n 2, 1) := by decide +kernel
theorem dX5_givingHosts_5 : decode cX5_givingHosts 5 = .ok (.aload_n 0, 1) := by decide +kernel
theorem dX5_givingHosts_6 : decode cX5_givingHosts 6 = .ok (.getfield 20, 3) := by decide +kernel
theorem dX5_givingHosts_9 : decode cX5_givingHosts 9 = .ok (.getfield 178, 3) := by decide +kernel
theorem dX5_givingHosts_12 : decode cX5_givingHosts 12 = .ok (.if_icmp .ge 40, 3) := by decide +kernel
theorem dX5_givingHosts_15 : decode cX5_givingHosts 15 = .ok (.aload_n 0, 1) := by decide +kernel
theorem dX5_givingHosts_16 : decode cX5_givingHosts 16 = .ok (.getfield 20, 3) := by decide +kernel
theorem dX5_givingHosts_19 : decode cX5_givingHosts 19 = .ok (.iload_n 2, 1) := by decide +kernel
theorem dX5_givingHosts_20 : decode cX5_givingHosts 20 = .ok (.aload_n 0, 1) := by decide +kernel
theorem dX5_givingHosts_21 : decode cX5_givingHosts 21 = .ok (.getfield 39, 3) := by decide +kernel
theorem dX5_givingHosts_24 : decode cX5_givingHosts 24 = .ok (.getfield 134, 3) := by decide +kernel
theorem dX5_givingHosts_27 : decode cX5_givingHosts 27 = .ok (.aload_n 0, 1) := by decide +kernel
theorem dX5_givingHosts_28 : decode cX5_givingHosts 28 = .ok (.getfield 39, 3) := by decide +kernel
theorem dX5_givingHosts_31 : decode cX5_givingHosts 31 = .ok (.getfield 147, 3) := by decide +kernel
theorem dX5_givingHosts_34 : decode cX5_givingHosts 34 = .ok (.invokevirtual 156, 3) := by decide +kernel
theorem dX5_givingHosts_37 : decode cX5_givingHosts 37 = .ok (.ifCond .eq 9, 3) := by decide +kernel
theorem dX5_givingHosts_40 : decode cX5_givingHosts 40 = .ok (.iload_n 1, 1) := by decide +kernel
theorem dX5_givingHosts_41 : decode cX5_givingHosts 41 = .ok (.iconst 1, 1) := by decide +kernel
theorem dX5_givingHosts_42 : decode cX5_givingHosts 42 = .ok (.iload_n 2, 1) := by decide +kernel
theorem dX5_givingHosts_43 : decode cX5_givingHosts 43 = .ok (.ishl, 1) := by decide +kernel
theorem dX5_givingHosts_44 : decode cX5_givingHosts 44 = .ok (.ior, 1) := by decide +kernel
theorem dX5_givingHosts_45 : decode cX5_givingHosts 45 = .ok (.istore_n 1, 1) := by decide +kernel
theorem dX5_givingHosts_46 : decode cX5_givingHosts 46 = .ok (.iinc 2 1, 3) := by decide +kernel
theorem dX5_givingHosts_49 : decode cX5_givingHosts 49 = .ok (.goto (-45), 3) := by decide +kernel
theorem dX5_givingHosts_52 : decode cX5_givingHosts 52 = .ok (.iload_n 1, 1) := by decide +kernel
theorem dX5_givingHosts_53 : decode cX5_givingHosts 53 = .ok (.ireturn, 1) := by decide +kernel
set_option maxRecDepth 20000 in
theorem ggX5_soonest_X5_isThing : GoodIn wsX5_soonest wsX5_isThing := goodIn_r _ [6] (by decide +kernel) (by decide +kernel)
set_option maxRecDepth 20000 in
theorem gX5_soonest_X5_isThing : GoodIn wsX5_soonest (va_wsS RX5 181 yX5_isThing wsX5_isThing) := goodIn_app (goodIn_of _ (by decide +kernel)) ggX5_soonest_X5_isThing
set_option maxRecDepth 20000 in
theorem ggX5_soonest_X5_isWithin : GoodIn wsX5_soonest wsX5_isWithin := goodIn_r _ [9] (by decide +kernel) (by decide +kernel)
set_option maxRecDepth 20000 in
theorem gX5_soonest_X5_isWithin : GoodIn wsX5_soonest (va_wsS RX5 69 yX5_isWithin wsX5_isWithin) := goodIn_app (goodIn_of _ (by decide +kernel)) ggX5_soonest_X5_isWithin
set_option maxRecDepth 20000 in
theorem ggX5_soonest_X3_findWay : GoodIn wsX5_soonest wsX3_findWay := goodIn_r _ [14, 15, 16, 17, 18, 19, 20, 21, 22, 23, 24, 25, 26, 27, 28, 13, 29, 30, 31, 32, 33, 34, 35, 36, 37, 38, 39, 40, 41, 42, 43, 44, 45, 46, 47, 48, 49, 50, 51, 52, 53, 54, 55, 56, 57, 58, 59, 60, 61, 62, 63, 64, 65, 66, 67, 68, 69, 70, 71, 72, 73, 74, 75, 76, 77, 78, 79, 80, 81, 82, 83, 84, 85, 4, 5, 6, 86, 87, 88, 89, 90, 91, 92, 93, 94, 95, 96, 97, 98, 99, 100, 101, 102, 103, 104, 105, 106, 107, 108, 109, 110, 111, 112, 113, 114, 115, 116, 117, 118, 119, 120, 121, 122, 123, 124, 125, 126, 127, 128, 129, 130, 131, 132, 133, 134, 135, 136, 137, 138, 139, 140, 141, 142, 143, 144, 145, 146, 147, 148, 149, 150, 151, 152, 153, 154, 155, 156, 157, 3, 158, 159, 160, 161, 162, 163, 164, 165, 166, 167, 168, 169, 170, 171, 172, 173, 174, 175, 176, 177, 178, 179, 180, 181, 182, 183, 184, 185, 186, 187, 188, 189, 190, 191, 192, 193, 194, 210, 211, 212, 213, 214, 215, 216, 217, 218, 219, 220, 221, 222, 223, 224, 225, 226, 227, 228, 229, 230, 231, 232, 233, 234, 235, 236, 237, 238, 239, 240, 241, 242, 243, 244] (by decide +kernel) (by decide +kernel)
set_option maxRecDepth 20000 in
theorem gX5_soonest_X3_findWay : GoodIn wsX5_soonest (wsV RX5 184 RX3 yX3_findWay wsX3_findWay) := goodIn_app (goodIn_of _ (by decide +kernel)) ggX5_soonest_X3_findWay
set_option maxRecDepth 20000 in
theorem ggX5_soonest_X3_stepOfWay : GoodIn wsX5_soonest wsX3_stepOfWay := goodIn_r _ [198, 23, 25, 210, 211, 212, 213, 214, 215, 216, 217, 218, 219, 220, 221, 222, 223] (by decide +kernel) (by decide +kernel)
set_option maxRecDepth 20000 in
theorem gX5_soonest_X3_stepOfWay : GoodIn wsX5_soonest (wsV RX5 191 RX3 yX3_stepOfWay wsX3_stepOfWay) := goodIn_app (goodIn_of _ (by decide +kernel)) ggX5_soonest_X3_stepOfWay
theorem dX5_soonest_0 : decode cX5_soonest 0 = .ok (.iload_n 1, 1) := by decide +kernel
theorem dX5_soonest_1 : decode cX5_soonest 1 = .ok (.invokestatic 181, 3) := by decide +kernel
theorem dX5_soonest_4 : decode cX5_soonest 4 = .ok (.ifCond .eq 13, 3) := by decide +kernel
theorem dX5_soonest_7 : decode cX5_soonest 7 = .ok (.iload_n 2, 1) := by decide +kernel
theorem dX5_soonest_8 : decode cX5_soonest 8 = .ok (.iconst (-1), 1) := by decide +kernel
theorem dX5_soonest_9 : decode cX5_soonest 9 = .ok (.bipush 99, 2) := by decide +kernel
theorem dX5_soonest_11 : decode cX5_soonest 11 = .ok (.invokestatic 69, 3) := by decide +kernel
theorem dX5_soonest_14 : decode cX5_soonest 14 = .ok (.ifCond .ne 5, 3) := by decide +kernel
theorem dX5_soonest_17 : decode cX5_soonest 17 = .ok (.iconst (-1), 1) := by decide +kernel
theorem dX5_soonest_18 : decode cX5_soonest 18 = .ok (.ireturn, 1) := by decide +kernel
theorem dX5_soonest_19 : decode cX5_soonest 19 = .ok (.aload_n 0, 1) := by decide +kernel
theorem dX5_soonest_20 : decode cX5_soonest 20 = .ok (.getfield 54, 3) := by decide +kernel
theorem dX5_soonest_23 : decode cX5_soonest 23 = .ok (.iload_n 1, 1) := by decide +kernel
theorem dX5_soonest_24 : decode cX5_soonest 24 = .ok (.invokevirtual 184, 3) := by decide +kernel
theorem dX5_soonest_27 : decode cX5_soonest 27 = .ok (.iload_n 2, 1) := by decide +kernel
theorem dX5_soonest_28 : decode cX5_soonest 28 = .ok (.iconst (-1), 1) := by decide +kernel
theorem dX5_soonest_29 : decode cX5_soonest 29 = .ok (.if_icmp .ne 13, 3) := by decide +kernel
theorem dX5_soonest_32 : decode cX5_soonest 32 = .ok (.aload_n 0, 1) := by decide +kernel
theorem dX5_soonest_33 : decode cX5_soonest 33 = .ok (.getfield 54, 3) := by decide +kernel
theorem dX5_soonest_36 : decode cX5_soonest 36 = .ok (.getfield 188, 3) := by decide +kernel
theorem dX5_soonest_39 : decode cX5_soonest 39 = .ok (.goto 11, 3) := by decide +kernel
theorem dX5_soonest_42 : decode cX5_soonest 42 = .ok (.aload_n 0, 1) := by decide +kernel
theorem dX5_soonest_43 : decode cX5_soonest 43 = .ok (.getfield 54, 3) := by decide +kernel
theorem dX5_soonest_46 : decode cX5_soonest 46 = .ok (.iload_n 2, 1) := by decide +kernel
theorem dX5_soonest_47 : decode cX5_soonest 47 = .ok (.invokevirtual 191, 3) := by decide +kernel
theorem dX5_soonest_50 : decode cX5_soonest 50 = .ok (.ireturn, 1) := by decide +kernel
set_option maxRecDepth 20000 in
theorem ggX5_latest_X5_isThing : GoodIn wsX5_latest wsX5_isThing := goodIn_r _ [5] (by decide +kernel) (by decide +kernel)
set_option maxRecDepth 20000 in
theorem gX5_latest_X5_isThing : GoodIn wsX5_latest (va_wsS RX5 181 yX5_isThing wsX5_isThing) := goodIn_app (goodIn_of _ (by decide +kernel)) ggX5_latest_X5_isThing
set_option maxRecDepth 20000 in
theorem ggX5_latest_X5_isWithin : GoodIn wsX5_latest wsX5_isWithin := goodIn_r _ [8] (by decide +kernel) (by decide +kernel)
set_option maxRecDepth 20000 in
theorem gX5_latest_X5_isWithin : GoodIn wsX5_latest (va_wsS RX5 69 yX5_isWithin wsX5_isWithin) := goodIn_app (goodIn_of _ (by decide +kernel)) ggX5_latest_X5_isWithin
set_option maxRecDepth 20000 in
theorem ggX5_latest_X3_mostWaiting : GoodIn wsX5_latest wsX3_mostWaiting := goodIn_r _ [13, 14, 15, 16, 17, 18, 19, 12, 20, 21, 22, 23, 24, 25, 26, 27, 28, 29, 30, 31, 3, 4, 5, 32, 33, 34, 35, 36, 37, 38, 39, 40, 41, 42, 43, 44, 45, 46, 47, 48, 49, 50, 51, 52, 53, 54, 55, 56, 57, 58, 59, 60, 61, 62, 63, 64, 65, 66, 67, 68, 69, 70, 71, 72, 73, 74, 75, 76, 77, 78, 79, 80, 81, 82, 83, 84, 85, 86, 87, 88, 89, 90, 91, 92, 93, 94, 95, 96, 97, 98, 99, 100, 101, 102, 103, 104, 105, 106, 107, 108, 109, 110, 111, 112, 113, 114, 115, 116, 117, 118, 119, 120, 121, 122, 123, 124, 125, 126, 127, 128, 129, 130, 131, 132, 144, 145, 146, 147, 148, 149, 150, 151, 152, 153, 154, 155, 156, 157, 158, 159, 160, 161, 162, 163, 164, 165, 166, 167, 168, 169, 170, 171, 172, 173, 174, 175, 176, 177, 178] (by decide +kernel) (by decide +kernel)
set_option maxRecDepth 20000 in
theorem gX5_latest_X3_mostWaiting : GoodIn wsX5_latest (wsV RX5 194 RX3 yX3_mostWaiting wsX3_mostWaiting) := goodIn_app (goodIn_of _ (by decide +kernel)) ggX5_latest_X3_mostWaiting
theorem dX5_latest_0 : decode cX5_latest 0 = .ok (.iload_n 1, 1) := by decide +kernel
theorem dX5_latest_1 : decode cX5_latest 1 = .ok (.invokestatic 181, 3) := by decide +kernel
theorem dX5_latest_4 : decode cX5_latest 4 = .ok (.ifCond .eq 13, 3) := by decide +kernel
theorem dX5_latest_7 : decode cX5_latest 7 = .ok (.iload_n 2, 1) := by decide +kernel
theorem dX5_latest_8 : decode cX5_latest 8 = .ok (.iconst 0, 1) := by decide +kernel
theorem dX5_latest_9 : decode cX5_latest 9 = .ok (.bipush 60, 2) := by decide +kernel
theorem dX5_latest_11 : decode cX5_latest 11 = .ok (.invokestatic 69, 3) := by decide +kernel
theorem dX5_latest_14 : decode cX5_latest 14 = .ok (.ifCond .ne 5, 3) := by decide +kernel
theorem dX5_latest_17 : decode cX5_latest 17 = .ok (.iconst (-1), 1) := by decide +kernel
theorem dX5_latest_18 : decode cX5_latest 18 = .ok (.ireturn, 1) := by decide +kernel
theorem dX5_latest_19 : decode cX5_latest 19 = .ok (.aload_n 0, 1) := by decide +kernel
theorem dX5_latest_20 : decode cX5_latest 20 = .ok (.getfield 54, 3) := by decide +kernel
theorem dX5_latest_23 : decode cX5_latest 23 = .ok (.iload_n 1, 1) := by decide +kernel
theorem dX5_latest_24 : decode cX5_latest 24 = .ok (.iload_n 2, 1) := by decide +kernel
theorem dX5_latest_25 : decode cX5_latest 25 = .ok (.invokevirtual 194, 3) := by decide +kernel
theorem dX5_latest_28 : decode cX5_latest 28 = .ok (.ireturn, 1) := by decide +kernel
set_option maxRecDepth 20000 in
theorem ggX5_without_X5_isThing : GoodIn wsX5_without wsX5_isThing := goodIn_r _ [5] (by decide +kernel) (by decide +kernel)
set_option maxRecDepth 20000 in
theorem gX5_without_X5_isThing : GoodIn wsX5_without (va_wsS RX5 181 yX5_isThing wsX5_isThing) := goodIn_app (goodIn_of _ (by decide +kernel)) ggX5_without_X5_isThing
set_option maxRecDepth 20000 in
theorem ggX5_without_X5_isWithin : GoodIn wsX5_without wsX5_isWithin := goodIn_r _ [8] (by decide +kernel) (by decide +kernel)
set_option maxRecDepth 20000 in
theorem gX5_without_X5_isWithin : GoodIn wsX5_without (va_wsS RX5 69 yX5_isWithin wsX5_isWithin) := goodIn_app (goodIn_of _ (by decide +kernel)) ggX5_without_X5_isWithin
set_option maxRecDepth 20000 in
theorem ggX5_without_X3_findWay : GoodIn wsX5_without wsX3_findWay := goodIn_r _ [13, 14, 15, 16, 17, 18, 19, 20, 21, 22, 23, 24, 25, 26, 27, 12, 28, 29, 30, 31, 32, 33, 34, 35, 36, 37, 38, 39, 40, 41, 42, 43, 44, 45, 46, 47, 48, 49, 50, 51, 52, 53, 54, 55, 56, 57, 58, 59, 60, 61, 62, 63, 64, 65, 66, 67, 68, 69, 70, 71, 72, 73, 74, 75, 76, 77, 78, 79, 80, 81, 82, 83, 84, 3, 4, 5, 85, 86, 87, 88, 89, 90, 91, 92, 93, 94, 95, 96, 97, 98, 99, 100, 101, 102, 103, 104, 105, 106, 107, 108, 109, 110, 111, 112, 113, 114, 115, 116, 117, 118, 119, 120, 121, 122, 123, 124, 125, 126, 127, 128, 129, 130, 131, 132, 133, 134, 135, 136, 137, 138, 139, 140, 141, 142, 143, 144, 145, 146, 147, 148, 149, 150, 151, 152, 153, 154, 155, 156, 2, 157, 158, 159, 160, 161, 162, 163, 164, 165, 166, 167, 168, 169, 170, 171, 172, 173, 174, 175, 176, 177, 178, 179, 180, 181, 182, 183, 184, 185, 186, 187, 188, 189, 190, 191, 192, 193, 217, 218, 219, 220, 221, 222, 223, 224, 225, 226, 227, 228, 229, 230, 231, 232, 233, 234, 235, 236, 237, 238, 239, 240, 241, 242, 243, 244, 245, 246, 247, 248, 249, 250, 251] (by decide +kernel) (by decide +kernel)
set_option maxRecDepth 20000 in
theorem gX5_without_X3_findWay : GoodIn wsX5_without (wsV RX5 184 RX3 yX3_findWay wsX3_findWay) := goodIn_app (goodIn_of _ (by decide +kernel)) ggX5_without_X3_findWay
set_option maxRecDepth 20000 in
theorem ggX5_without_X3_neededRoads : GoodIn wsX5_without wsX3_neededRoads := goodIn_r _ [197, 34, 89, 14, 198, 199, 200, 12, 201, 22, 24, 29, 30, 31, 32, 33, 15, 16, 20, 35, 36, 37, 38, 39, 40, 41, 42, 43, 44, 45, 46, 47, 48, 49, 50, 51, 52, 53, 54, 55, 56, 57, 58, 59, 60, 61, 62, 63, 64, 65, 66, 67, 68, 69, 70, 71, 72, 73, 74, 75, 76, 77, 78, 79, 80, 81, 82, 83, 84, 3, 4, 5, 85, 86, 87, 88, 90, 91, 92, 93, 94, 95, 96, 97, 98, 99, 100, 101, 102, 103, 104, 105, 106, 107, 108, 109, 110, 111, 112, 113, 18, 114, 115, 116, 117, 118, 119, 120, 121, 122, 123, 124, 125, 126, 127, 128, 129, 130, 131, 132, 133, 134, 135, 136, 137, 138, 139, 217, 218, 219, 220, 221, 222, 223, 224, 225, 226, 227, 228, 229, 230, 239, 240, 241, 242, 243, 244, 245, 246, 247, 248, 249, 250, 251, 231, 232, 233, 234, 235, 236, 237, 238] (by decide +kernel) (by decide +kernel)
set_option maxRecDepth 20000 in
theorem gX5_without_X3_neededRoads : GoodIn wsX5_without (wsV RX5 197 RX3 yX3_neededRoads wsX3_neededRoads) := goodIn_app (goodIn_of _ (by decide +kernel)) ggX5_without_X3_neededRoads
set_option maxRecDepth 20000 in
theorem ggX5_without_X3_neededHosts : GoodIn wsX5_without wsX3_neededHosts := goodIn_r _ [205, 34, 51, 14, 198, 199, 200, 12, 201, 22, 24, 29, 30, 31, 32, 33, 15, 16, 20, 35, 36, 37, 38, 39, 40, 41, 42, 43, 44, 45, 46, 47, 48, 49, 50, 52, 53, 54, 55, 56, 57, 58, 59, 60, 61, 62, 63, 64, 65, 66, 67, 68, 69, 70, 71, 72, 73, 74, 75, 76, 77, 78, 79, 80, 81, 82, 83, 84, 3, 4, 5, 85, 86, 87, 88, 89, 90, 91, 92, 93, 94, 95, 96, 97, 98, 99, 100, 101, 102, 103, 104, 105, 106, 107, 108, 109, 110, 111, 112, 113, 18, 114, 115, 116, 117, 118, 119, 120, 121, 122, 123, 124, 125, 126, 127, 128, 129, 130, 131, 132, 133, 134, 135, 136, 137, 138, 139, 217, 218, 219, 220, 221, 222, 223, 224, 225, 226, 227, 228, 229, 230, 239, 240, 241, 242, 243, 244, 245, 246, 247, 248, 249, 250, 251, 231, 232, 233, 234, 235, 236, 237, 238] (by decide +kernel) (by decide +kernel)
set_option maxRecDepth 20000 in
theorem gX5_without_X3_neededHosts : GoodIn wsX5_without (wsV RX5 200 RX3 yX3_neededHosts wsX3_neededHosts) := goodIn_app (goodIn_of _ (by decide +kernel)) ggX5_without_X3_neededHosts
theorem dX5_without_0 : decode cX5_without 0 = .ok (.iload_n 1, 1) := by decide +kernel
theorem dX5_without_1 : decode cX5_without 1 = .ok (.invokestatic 181, 3) := by decide +kernel
theorem dX5_without_4 : decode cX5_without 4 = .ok (.ifCond .eq 12, 3) := by decide +kernel
theorem dX5_without_7 : decode cX5_without 7 = .ok (.iload_n 2, 1) := by decide +kernel
theorem dX5_without_8 : decode cX5_without 8 = .ok (.iconst 0, 1) := by decide +kernel
theorem dX5_without_9 : decode cX5_without 9 = .ok (.iconst 1, 1) := by decide +kernel
theorem dX5_without_10 : decode cX5_without 10 = .ok (.invokestatic 69, 3) := by decide +kernel
theorem dX5_without_13 : decode cX5_without 13 = .ok (.ifCond .ne 5, 3) := by decide +kernel
theorem dX5_without_16 : decode cX5_without 16 = .ok (.iconst (-1), 1) := by decide +kernel
theorem dX5_without_17 : decode cX5_without 17 = .ok (.ireturn, 1) := by decide +kernel
theorem dX5_without_18 : decode cX5_without 18 = .ok (.aload_n 0, 1) := by decide +kernel
theorem dX5_without_19 : decode cX5_without 19 = .ok (.getfield 54, 3) := by decide +kernel
theorem dX5_without_22 : decode cX5_without 22 = .ok (.iload_n 1, 1) := by decide +kernel
theorem dX5_without_23 : decode cX5_without 23 = .ok (.invokevirtual 184, 3) := by decide +kernel
theorem dX5_without_26 : decode cX5_without 26 = .ok (.iload_n 2, 1) := by decide +kernel
theorem dX5_without_27 : decode cX5_without 27 = .ok (.ifCond .ne 13, 3) := by decide +kernel
theorem dX5_without_30 : decode cX5_without 30 = .ok (.aload_n 0, 1) := by decide +kernel
theorem dX5_without_31 : decode cX5_without 31 = .ok (.getfield 54, 3) := by decide +kernel
theorem dX5_without_34 : decode cX5_without 34 = .ok (.invokevirtual 197, 3) := by decide +kernel
theorem dX5_without_37 : decode cX5_without 37 = .ok (.goto 10, 3) := by decide +kernel
theorem dX5_without_40 : decode cX5_without 40 = .ok (.aload_n 0, 1) := by decide +kernel
theorem dX5_without_41 : decode cX5_without 41 = .ok (.getfield 54, 3) := by decide +kernel
theorem dX5_without_44 : decode cX5_without 44 = .ok (.invokevirtual 200, 3) := by decide +kernel
theorem dX5_without_47 : decode cX5_without 47 = .ok (.ireturn, 1) := by decide +kernel
set_option maxRecDepth 20000 in
theorem ggX5_robbed_X5_isThing : GoodIn wsX5_robbed wsX5_isThing := goodIn_r _ [6] (by decide +kernel) (by decide +kernel)
set_option maxRecDepth 20000 in
theorem gX5_robbed_X5_isThing : GoodIn wsX5_robbed (va_wsS RX5 181 yX5_isThing wsX5_isThing) := goodIn_app (goodIn_of _ (by decide +kernel)) ggX5_robbed_X5_isThing
set_option maxRecDepth 20000 in
theorem ggX5_robbed_X4_hasPlace : GoodIn wsX5_robbed wsX4_hasPlace := goodIn_r _ [11, 12, 222, 223, 224, 225, 226, 227, 228, 229, 230, 231, 232, 233, 234] (by decide +kernel) (by decide +kernel)
set_option maxRecDepth 20000 in
theorem gX5_robbed_X4_hasPlace : GoodIn wsX5_robbed (wsV RX5 94 RX4 yX4_hasPlace wsX4_hasPlace) := goodIn_app (goodIn_of _ (by decide +kernel)) ggX5_robbed_X4_hasPlace
set_option maxRecDepth 20000 in
theorem ggX5_robbed_X3_findWay : GoodIn wsX5_robbed wsX3_findWay := goodIn_r _ [17, 18, 19, 20, 21, 22, 23, 24, 25, 26, 27, 28, 29, 30, 31, 16, 32, 33, 34, 35, 36, 37, 38, 39, 40, 41, 42, 43, 44, 45, 46, 47, 48, 49, 50, 51, 52, 53, 54, 55, 56, 57, 58, 59, 60, 61, 62, 10, 63, 64, 65, 66, 67, 68, 69, 70, 71, 72, 73, 74, 75, 76, 77, 78, 79, 80, 81, 82, 83, 84, 85, 86, 87, 4, 5, 6, 88, 89, 90, 91, 92, 93, 94, 95, 96, 97, 98, 99, 100, 101, 102, 103, 104, 105, 106, 107, 108, 109, 110, 111, 112, 113, 114, 115, 116, 117, 118, 119, 120, 121, 122, 123, 8, 9, 11, 12, 124, 125, 126, 127, 128, 129, 130, 131, 132, 133, 134, 135, 136, 137, 138, 139, 140, 141, 142, 143, 144, 145, 146, 147, 148, 149, 150, 151, 152, 153, 154, 155, 3, 156, 157, 158, 159, 160, 161, 162, 163, 164, 165, 166, 167, 168, 169, 170, 171, 172, 173, 174, 175, 176, 177, 178, 179, 180, 181, 182, 183, 184, 185, 186, 187, 188, 189, 190, 191, 192, 235, 236, 237, 238, 239, 240, 241, 242, 243, 244, 245, 246, 247, 248, 249, 250, 251, 252, 253, 254, 255, 256, 222, 223, 224, 225, 226, 227, 228, 229, 230, 231, 232, 233, 234] (by decide +kernel) (by decide +kernel)
set_option maxRecDepth 20000 in
theorem gX5_robbed_X3_findWay : GoodIn wsX5_robbed (wsV RX5 184 RX3 yX3_findWay wsX3_findWay) := goodIn_app (goodIn_of _ (by decide +kernel)) ggX5_robbed_X3_findWay
set_option maxRecDepth 20000 in
theorem ggX5_robbed_X3_placeOfRobbery : GoodIn wsX5_robbed wsX3_placeOfRobbery := goodIn_r _ [196, 26, 149, 18, 28, 147, 148, 197, 198, 199, 16, 200, 201, 38, 92, 93, 94, 95, 10, 96, 97, 98, 99, 100, 101, 102, 103, 104, 105, 106, 107, 202, 203, 204, 205, 206, 207, 208, 209, 210, 8, 9, 11, 12, 108, 109, 110, 111, 112, 143, 144, 145, 146, 21, 25, 154, 5, 155, 3, 4, 6, 186, 187, 188, 189, 190, 191, 192, 164, 165, 166, 167, 174, 175, 176, 177, 173, 129, 130, 131, 132, 123, 70, 71, 72, 73, 74, 65, 66, 67, 68, 69, 235, 236, 237, 238, 239, 240, 241, 242, 243, 244, 245, 246, 247, 248, 222, 223, 224, 225, 226, 227, 228, 229, 230, 231, 232, 233, 234] (by decide +kernel) (by decide +kernel)
set_option maxRecDepth 20000 in
theorem gX5_robbed_X3_placeOfRobbery : GoodIn wsX5_robbed (wsV RX5 203 RX3 yX3_placeOfRobbery wsX3_placeOfRobbery) := goodIn_app (goodIn_of _ (by decide +kernel)) ggX5_robbed_X3_placeOfRobbery
theorem dX5_robbed_0 : decode cX5_robbed 0 = .ok (.iload_n 1, 1) := by decide +kernel
theorem dX5_robbed_1 : decode cX5_robbed 1 = .ok (.invokestatic 181, 3) := by decide +kernel
theorem dX5_robbed_4 : decode cX5_robbed 4 = .ok (.ifCond .eq 14, 3) := by decide +kernel
theorem dX5_robbed_7 : decode cX5_robbed 7 = .ok (.aload_n 0, 1) := by decide +kernel
theorem dX5_robbed_8 : decode cX5_robbed 8 = .ok (.getfield 20, 3) := by decide +kernel
theorem dX5_robbed_11 : decode cX5_robbed 11 = .ok (.iload_n 2, 1) := by decide +kernel
theorem dX5_robbed_12 : decode cX5_robbed 12 = .ok (.invokevirtual 94, 3) := by decide +kernel
theorem dX5_robbed_15 : decode cX5_robbed 15 = .ok (.ifCond .ne 5, 3) := by decide +kernel
theorem dX5_robbed_18 : decode cX5_robbed 18 = .ok (.iconst (-1), 1) := by decide +kernel
theorem dX5_robbed_19 : decode cX5_robbed 19 = .ok (.ireturn, 1) := by decide +kernel
theorem dX5_robbed_20 : decode cX5_robbed 20 = .ok (.aload_n 0, 1) := by decide +kernel
theorem dX5_robbed_21 : decode cX5_robbed 21 = .ok (.getfield 54, 3) := by decide +kernel
theorem dX5_robbed_24 : decode cX5_robbed 24 = .ok (.iload_n 1, 1) := by decide +kernel
theorem dX5_robbed_25 : decode cX5_robbed 25 = .ok (.invokevirtual 184, 3) := by decide +kernel
theorem dX5_robbed_28 : decode cX5_robbed 28 = .ok (.aload_n 0, 1) := by decide +kernel
theorem dX5_robbed_29 : decode cX5_robbed 29 = .ok (.getfield 54, 3) := by decide +kernel
theorem dX5_robbed_32 : decode cX5_robbed 32 = .ok (.iload_n 2, 1) := by decide +kernel
theorem dX5_robbed_33 : decode cX5_robbed 33 = .ok (.invokevirtual 203, 3) := by decide +kernel
theorem dX5_robbed_36 : decode cX5_robbed 36 = .ok (.ireturn, 1) := by decide +kernel
set_option maxRecDepth 20000 in
theorem ggX5_sure_X4_hasPlace : GoodIn wsX5_sure wsX4_hasPlace := goodIn_r _ [6, 7, 43, 44, 45, 46, 47, 48, 49, 50, 51, 52, 53, 54, 55] (by decide +kernel) (by decide +kernel)
set_option maxRecDepth 20000 in
theorem gX5_sure_X4_hasPlace : GoodIn wsX5_sure (wsV RX5 94 RX4 yX4_hasPlace wsX4_hasPlace) := goodIn_app (goodIn_of _ (by decide +kernel)) ggX5_sure_X4_hasPlace
set_option maxRecDepth 20000 in
theorem ggX5_sure_X5_isWithin : GoodIn wsX5_sure wsX5_isWithin := goodIn_r _ [11] (by decide +kernel) (by decide +kernel)
set_option maxRecDepth 20000 in
theorem gX5_sure_X5_isWithin : GoodIn wsX5_sure (va_wsS RX5 69 yX5_isWithin wsX5_isWithin) := goodIn_app (goodIn_of _ (by decide +kernel)) ggX5_sure_X5_isWithin
set_option maxRecDepth 20000 in
theorem ggX5_sure_X4_openAround : GoodIn wsX5_sure wsX4_openAround := goodIn_r _ [15, 16, 17, 18, 19, 5, 20, 21, 22, 23, 3, 4, 6, 7, 24, 25, 26, 27, 43, 44, 45, 46, 47, 48, 49, 50, 51, 52, 53, 54, 55] (by decide +kernel) (by decide +kernel)
set_option maxRecDepth 20000 in
theorem gX5_sure_X4_openAround : GoodIn wsX5_sure (wsV RX5 206 RX4 yX4_openAround wsX4_openAround) := goodIn_app (goodIn_of _ (by decide +kernel)) ggX5_sure_X4_openAround
set_option maxRecDepth 20000 in
theorem ggX5_sure_X4_hoursAround : GoodIn wsX5_sure wsX4_hoursAround := goodIn_r _ [31, 16, 43, 44, 45, 46, 47, 48, 49, 50, 51, 52, 53, 54, 55] (by decide +kernel) (by decide +kernel)
set_option maxRecDepth 20000 in
theorem gX5_sure_X4_hoursAround : GoodIn wsX5_sure (wsV RX5 209 RX4 yX4_hoursAround wsX4_hoursAround) := goodIn_app (goodIn_of _ (by decide +kernel)) ggX5_sure_X4_hoursAround
theorem dX5_sure_0 : decode cX5_sure 0 = .ok (.aload_n 0, 1) := by decide +kernel
theorem dX5_sure_1 : decode cX5_sure 1 = .ok (.getfield 20, 3) := by decide +kernel
theorem dX5_sure_4 : decode cX5_sure 4 = .ok (.iload_n 1, 1) := by decide +kernel
theorem dX5_sure_5 : decode cX5_sure 5 = .ok (.invokevirtual 94, 3) := by decide +kernel
theorem dX5_sure_8 : decode cX5_sure 8 = .ok (.ifCond .eq 13, 3) := by decide +kernel
theorem dX5_sure_11 : decode cX5_sure 11 = .ok (.iload_n 2, 1) := by decide +kernel
theorem dX5_sure_12 : decode cX5_sure 12 = .ok (.iconst 0, 1) := by decide +kernel
theorem dX5_sure_13 : decode cX5_sure 13 = .ok (.bipush 23, 2) := by decide +kernel
theorem dX5_sure_15 : decode cX5_sure 15 = .ok (.invokestatic 69, 3) := by decide +kernel
theorem dX5_sure_18 : decode cX5_sure 18 = .ok (.ifCond .ne 5, 3) := by decide +kernel
theorem dX5_sure_21 : decode cX5_sure 21 = .ok (.iconst (-1), 1) := by decide +kernel
theorem dX5_sure_22 : decode cX5_sure 22 = .ok (.ireturn, 1) := by decide +kernel
theorem dX5_sure_23 : decode cX5_sure 23 = .ok (.aload_n 0, 1) := by decide +kernel
theorem dX5_sure_24 : decode cX5_sure 24 = .ok (.getfield 20, 3) := by decide +kernel
theorem dX5_sure_27 : decode cX5_sure 27 = .ok (.iload_n 1, 1) := by decide +kernel
theorem dX5_sure_28 : decode cX5_sure 28 = .ok (.iload_n 2, 1) := by decide +kernel
theorem dX5_sure_29 : decode cX5_sure 29 = .ok (.invokevirtual 206, 3) := by decide +kernel
theorem dX5_sure_32 : decode cX5_sure 32 = .ok (.aload_n 0, 1) := by decide +kernel
theorem dX5_sure_33 : decode cX5_sure 33 = .ok (.getfield 20, 3) := by decide +kernel
theorem dX5_sure_36 : decode cX5_sure 36 = .ok (.invokevirtual 209, 3) := by decide +kernel
theorem dX5_sure_39 : decode cX5_sure 39 = .ok (.if_icmp .ne 7, 3) := by decide +kernel
theorem dX5_sure_42 : decode cX5_sure 42 = .ok (.iconst 1, 1) := by decide +kernel
theorem dX5_sure_43 : decode cX5_sure 43 = .ok (.goto 4, 3) := by decide +kernel
theorem dX5_sure_46 : decode cX5_sure 46 = .ok (.iconst 0, 1) := by decide +kernel
theorem dX5_sure_47 : decode cX5_sure 47 = .ok (.ireturn, 1) := by decide +kernel
set_option maxRecDepth 20000 in
theorem ggX5_odds_X4_hasPlace : GoodIn wsX5_odds wsX4_hasPlace := goodIn_r _ [6, 7, 46, 47, 48, 49, 50, 51, 52, 53, 54, 55, 56, 57, 58] (by decide +kernel) (by decide +kernel)
set_option maxRecDepth 20000 in
theorem gX5_odds_X4_hasPlace : GoodIn wsX5_odds (wsV RX5 94 RX4 yX4_hasPlace wsX4_hasPlace) := goodIn_app (goodIn_of _ (by decide +kernel)) ggX5_odds_X4_hasPlace
set_option maxRecDepth 20000 in
theorem ggX5_odds_X5_isWithin : GoodIn wsX5_odds wsX5_isWithin := goodIn_r _ [11] (by decide +kernel) (by decide +kernel)
set_option maxRecDepth 20000 in
theorem gX5_odds_X5_isWithin : GoodIn wsX5_odds (va_wsS RX5 69 yX5_isWithin wsX5_isWithin) := goodIn_app (goodIn_of _ (by decide +kernel)) ggX5_odds_X5_isWithin
set_option maxRecDepth 20000 in
theorem ggX5_odds_X4_openAround : GoodIn wsX5_odds wsX4_openAround := goodIn_r _ [15, 16, 17, 18, 19, 5, 20, 21, 22, 23, 3, 4, 6, 7, 24, 25, 26, 27, 46, 47, 48, 49, 50, 51, 52, 53, 54, 55, 56, 57, 58] (by decide +kernel) (by decide +kernel)
set_option maxRecDepth 20000 in
theorem gX5_odds_X4_openAround : GoodIn wsX5_odds (wsV RX5 206 RX4 yX4_openAround wsX4_openAround) := goodIn_app (goodIn_of _ (by decide +kernel)) ggX5_odds_X4_openAround
set_option maxRecDepth 20000 in
theorem ggX5_odds_X4_hoursAround : GoodIn wsX5_odds wsX4_hoursAround := goodIn_r _ [31, 16, 46, 47, 48, 49, 50, 51, 52, 53, 54, 55, 56, 57, 58] (by decide +kernel) (by decide +kernel)
set_option maxRecDepth 20000 in
theorem gX5_odds_X4_hoursAround : GoodIn wsX5_odds (wsV RX5 209 RX4 yX4_hoursAround wsX4_hoursAround) := goodIn_app (goodIn_of _ (by decide +kernel)) ggX5_odds_X4_hoursAround
set_option maxRecDepth 20000 in
theorem ggX5_odds_X5_greatestDivisor : GoodIn wsX5_odds wsX5_greatestDivisor := goodIn_r _ [34] (by decide +kernel) (by decide +kernel)
set_option maxRecDepth 20000 in
theorem gX5_odds_X5_greatestDivisor : GoodIn wsX5_odds (va_wsS RX5 212 yX5_greatestDivisor wsX5_greatestDivisor) := goodIn_app (goodIn_of _ (by decide +kernel)) ggX5_odds_X5_greatestDivisor
theorem dX5_odds_0 : decode cX5_odds 0 = .ok (.aload_n 0, 1) := by decide +kernel
theorem dX5_odds_1 : decode cX5_odds 1 = .ok (.getfield 20, 3) := by decide +kernel
theorem dX5_odds_4 : decode cX5_odds 4 = .ok (.iload_n 1, 1) := by decide +kernel
theorem dX5_odds_5 : decode cX5_odds 5 = .ok (.invokevirtual 94, 3) := by decide +kernel
theorem dX5_odds_8 : decode cX5_odds 8 = .ok (.ifCond .eq 22, 3) := by decide +kernel
theorem dX5_odds_11 : decode cX5_odds 11 = .ok (.iload_n 2, 1) := by decide +kernel
theorem dX5_odds_12 : decode cX5_odds 12 = .ok (.iconst 0, 1) := by decide +kernel
theorem dX5_odds_13 : decode cX5_odds 13 = .ok (.bipush 23, 2) := by decide +kernel
theorem dX5_odds_15 : decode cX5_odds 15 = .ok (.invokestatic 69, 3) := by decide +kernel
theorem dX5_odds_18 : decode cX5_odds 18 = .ok (.ifCond .eq 12, 3) := by decide +kernel
theorem dX5_odds_21 : decode cX5_odds 21 = .ok (.iload_n 3, 1) := by decide +kernel
theorem dX5_odds_22 : decode cX5_odds 22 = .ok (.iconst 0, 1) := by decide +kernel
theorem dX5_odds_23 : decode cX5_odds 23 = .ok (.iconst 1, 1) := by decide +kernel
theorem dX5_odds_24 : decode cX5_odds 24 = .ok (.invokestatic 69, 3) := by decide +kernel
theorem dX5_odds_27 : decode cX5_odds 27 = .ok (.ifCond .ne 5, 3) := by decide +kernel
theorem dX5_odds_30 : decode cX5_odds 30 = .ok (.iconst (-1), 1) := by decide +kernel
theorem dX5_odds_31 : decode cX5_odds 31 = .ok (.ireturn, 1) := by decide +kernel
theorem dX5_odds_32 : decode cX5_odds 32 = .ok (.aload_n 0, 1) := by decide +kernel
theorem dX5_odds_33 : decode cX5_odds 33 = .ok (.getfield 20, 3) := by decide +kernel
theorem dX5_odds_36 : decode cX5_odds 36 = .ok (.iload_n 1, 1) := by decide +kernel
theorem dX5_odds_37 : decode cX5_odds 37 = .ok (.iload_n 2, 1) := by decide +kernel
theorem dX5_odds_38 : decode cX5_odds 38 = .ok (.invokevirtual 206, 3) := by decide +kernel
theorem dX5_odds_41 : decode cX5_odds 41 = .ok (.istore 4, 2) := by decide +kernel
theorem dX5_odds_43 : decode cX5_odds 43 = .ok (.aload_n 0, 1) := by decide +kernel
theorem dX5_odds_44 : decode cX5_odds 44 = .ok (.getfield 20, 3) := by decide +kernel
theorem dX5_odds_47 : decode cX5_odds 47 = .ok (.invokevirtual 209, 3) := by decide +kernel
theorem dX5_odds_50 : decode cX5_odds 50 = .ok (.istore 5, 2) := by decide +kernel
theorem dX5_odds_52 : decode cX5_odds 52 = .ok (.iload 4, 2) := by decide +kernel
theorem dX5_odds_54 : decode cX5_odds 54 = .ok (.iload 5, 2) := by decide +kernel
theorem dX5_odds_56 : decode cX5_odds 56 = .ok (.invokestatic 212, 3) := by decide +kernel
theorem dX5_odds_59 : decode cX5_odds 59 = .ok (.istore 6, 2) := by decide +kernel
theorem dX5_odds_61 : decode cX5_odds 61 = .ok (.iload 6, 2) := by decide +kernel
theorem dX5_odds_63 : decode cX5_odds 63 = .ok (.ifCond .ne 5, 3) := by decide +kernel
theorem dX5_odds_66 : decode cX5_odds 66 = .ok (.iconst 0, 1) := by decide +kernel
theorem dX5_odds_67 : decode cX5_odds 67 = .ok (.ireturn, 1) := by decide +kernel
theorem dX5_odds_68 : decode cX5_odds 68 = .ok (.iload_n 3, 1) := by decide +kernel
theorem dX5_odds_69 : decode cX5_odds 69 = .ok (.ifCond .ne 8, 3) := by decide +kernel
theorem dX5_odds_72 : decode cX5_odds 72 = .ok (.iload 4, 2) := by decide +kernel
theorem dX5_odds_74 : decode cX5_odds 74 = .ok (.goto 5, 3) := by decide +kernel
theorem dX5_odds_77 : decode cX5_odds 77 = .ok (.iload 5, 2) := by decide +kernel
theorem dX5_odds_79 : decode cX5_odds 79 = .ok (.iload 6, 2) := by decide +kernel
theorem dX5_odds_81 : decode cX5_odds 81 = .ok (.idiv, 1) := by decide +kernel
theorem dX5_odds_82 : decode cX5_odds 82 = .ok (.ireturn, 1) := by decide +kernel
theorem dX5_greatestDivisor_0 : decode cX5_greatestDivisor 0 = .ok (.iload_n 1, 1) := by decide +kernel
theorem dX5_greatestDivisor_1 : decode cX5_greatestDivisor 1 = .ok (.istore_n 2, 1) := by decide +kernel
theorem dX5_greatestDivisor_2 : decode cX5_greatestDivisor 2 = .ok (.iload_n 2, 1) := by decide +kernel
theorem dX5_greatestDivisor_3 : decode cX5_greatestDivisor 3 = .ok (.iconst 1, 1) := by decide +kernel
theorem dX5_greatestDivisor_4 : decode cX5_greatestDivisor 4 = .ok (.if_icmp .le 23, 3) := by decide +kernel
theorem dX5_greatestDivisor_7 : decode cX5_greatestDivisor 7 = .ok (.iload_n 0, 1) := by decide +kernel
theorem dX5_greatestDivisor_8 : decode cX5_greatestDivisor 8 = .ok (.iload_n 2, 1) := by decide +kernel
theorem dX5_greatestDivisor_9 : decode cX5_greatestDivisor 9 = .ok (.irem, 1) := by decide +kernel
theorem dX5_greatestDivisor_10 : decode cX5_greatestDivisor 10 = .ok (.ifCond .ne 11, 3) := by decide +kernel
theorem dX5_greatestDivisor_13 : decode cX5_greatestDivisor 13 = .ok (.iload_n 1, 1) := by decide +kernel
theorem dX5_greatestDivisor_14 : decode cX5_greatestDivisor 14 = .ok (.iload_n 2, 1) := by decide +kernel
theorem dX5_greatestDivisor_15 : decode cX5_greatestDivisor 15 = .ok (.irem, 1) := by decide +kernel
theorem dX5_greatestDivisor_16 : decode cX5_greatestDivisor 16 = .ok (.ifCond .ne 5, 3) := by decide +kernel
theorem dX5_greatestDivisor_19 : decode cX5_greatestDivisor 19 = .ok (.iload_n 2, 1) := by decide +kernel
theorem dX5_greatestDivisor_20 : decode cX5_greatestDivisor 20 = .ok (.ireturn, 1) := by decide +kernel
theorem dX5_greatestDivisor_21 : decode cX5_greatestDivisor 21 = .ok (.iinc 2 (-1), 3) := by decide +kernel
theorem dX5_greatestDivisor_24 : decode cX5_greatestDivisor 24 = .ok (.goto (-22), 3) := by decide +kernel
theorem dX5_greatestDivisor_27 : decode cX5_greatestDivisor 27 = .ok (.iconst 1, 1) := by decide +kernel
theorem dX5_greatestDivisor_28 : decode cX5_greatestDivisor 28 = .ok (.ireturn, 1) := by decide +kernel
set_option maxRecDepth 20000 in
theorem ggX5_swaps_X5_isSeat : GoodIn wsX5_swaps wsX5_isSeat := goodIn_r _ [6, 7, 8, 5, 9] (by decide +kernel) (by decide +kernel)
set_option maxRecDepth 20000 in
theorem gX5_swaps_X5_isSeat : GoodIn wsX5_swaps (va_wsS RX5 215 yX5_isSeat wsX5_isSeat) := goodIn_app (goodIn_of _ (by decide +kernel)) ggX5_swaps_X5_isSeat
set_option maxRecDepth 20000 in
theorem ggX5_swaps_X0_addSwap : GoodIn wsX5_swaps wsX0_addSwap := goodIn_r _ [14, 15, 16, 17, 8, 5, 9, 29, 30, 31, 32, 33, 34, 35, 36] (by decide +kernel) (by decide +kernel)
set_option maxRecDepth 20000 in
theorem gX5_swaps_X0_addSwap : GoodIn wsX5_swaps (wsV RX5 218 RX0 yX0_addSwap wsX0_addSwap) := goodIn_app (goodIn_of _ (by decide +kernel)) ggX5_swaps_X0_addSwap
theorem dX5_swaps_0 : decode cX5_swaps 0 = .ok (.iload_n 1, 1) := by decide +kernel
theorem dX5_swaps_1 : decode cX5_swaps 1 = .ok (.invokestatic 215, 3) := by decide +kernel
theorem dX5_swaps_4 : decode cX5_swaps 4 = .ok (.ifCond .eq 15, 3) := by decide +kernel
theorem dX5_swaps_7 : decode cX5_swaps 7 = .ok (.iload_n 2, 1) := by decide +kernel
theorem dX5_swaps_8 : decode cX5_swaps 8 = .ok (.invokestatic 215, 3) := by decide +kernel
theorem dX5_swaps_11 : decode cX5_swaps 11 = .ok (.ifCond .eq 8, 3) := by decide +kernel
theorem dX5_swaps_14 : decode cX5_swaps 14 = .ok (.iload_n 1, 1) := by decide +kernel
theorem dX5_swaps_15 : decode cX5_swaps 15 = .ok (.iload_n 2, 1) := by decide +kernel
theorem dX5_swaps_16 : decode cX5_swaps 16 = .ok (.if_icmp .ne 5, 3) := by decide +kernel
theorem dX5_swaps_19 : decode cX5_swaps 19 = .ok (.iconst (-1), 1) := by decide +kernel
theorem dX5_swaps_20 : decode cX5_swaps 20 = .ok (.ireturn, 1) := by decide +kernel
theorem dX5_swaps_21 : decode cX5_swaps 21 = .ok (.aload_n 0, 1) := by decide +kernel
theorem dX5_swaps_22 : decode cX5_swaps 22 = .ok (.getfield 61, 3) := by decide +kernel
theorem dX5_swaps_25 : decode cX5_swaps 25 = .ok (.iload_n 1, 1) := by decide +kernel
theorem dX5_swaps_26 : decode cX5_swaps 26 = .ok (.iload_n 2, 1) := by decide +kernel
theorem dX5_swaps_27 : decode cX5_swaps 27 = .ok (.invokevirtual 218, 3) := by decide +kernel
theorem dX5_swaps_30 : decode cX5_swaps 30 = .ok (.ifCond .eq 13, 3) := by decide +kernel
theorem dX5_swaps_33 : decode cX5_swaps 33 = .ok (.aload_n 0, 1) := by decide +kernel
theorem dX5_swaps_34 : decode cX5_swaps 34 = .ok (.getfield 61, 3) := by decide +kernel
theorem dX5_swaps_37 : decode cX5_swaps 37 = .ok (.getfield 222, 3) := by decide +kernel
theorem dX5_swaps_40 : decode cX5_swaps 40 = .ok (.goto 5, 3) := by decide +kernel
theorem dX5_swaps_43 : decode cX5_swaps 43 = .ok (.bipush (-3), 2) := by decide +kernel
theorem dX5_swaps_45 : decode cX5_swaps 45 = .ok (.ireturn, 1) := by decide +kernel
set_option maxRecDepth 20000 in
theorem ggX5_tastes_X5_isSeat : GoodIn wsX5_tastes wsX5_isSeat := goodIn_r _ [6, 7, 8, 5, 9] (by decide +kernel) (by decide +kernel)
set_option maxRecDepth 20000 in
theorem gX5_tastes_X5_isSeat : GoodIn wsX5_tastes (va_wsS RX5 215 yX5_isSeat wsX5_isSeat) := goodIn_app (goodIn_of _ (by decide +kernel)) ggX5_tastes_X5_isSeat
set_option maxRecDepth 20000 in
theorem ggX5_tastes_X0_addTaste : GoodIn wsX5_tastes wsX0_addTaste := goodIn_r _ [14, 15, 16, 17, 8, 5, 9, 29, 30, 31, 32, 33, 34, 35, 36] (by decide +kernel) (by decide +kernel)
set_option maxRecDepth 20000 in
theorem gX5_tastes_X0_addTaste : GoodIn wsX5_tastes (wsV RX5 225 RX0 yX0_addTaste wsX0_addTaste) := goodIn_app (goodIn_of _ (by decide +kernel)) ggX5_tastes_X0_addTaste
theorem dX5_tastes_0 : decode cX5_tastes 0 = .ok (.iload_n 1, 1) := by decide +kernel
theorem dX5_tastes_1 : decode cX5_tastes 1 = .ok (.invokestatic 215, 3) := by decide +kernel
theorem dX5_tastes_4 : decode cX5_tastes 4 = .ok (.ifCond .eq 10, 3) := by decide +kernel
theorem dX5_tastes_7 : decode cX5_tastes 7 = .ok (.iload_n 2, 1) := by decide +kernel
theorem dX5_tastes_8 : decode cX5_tastes 8 = .ok (.invokestatic 215, 3) := by decide +kernel
theorem dX5_tastes_11 : decode cX5_tastes 11 = .ok (.ifCond .ne 5, 3) := by decide +kernel
theorem dX5_tastes_14 : decode cX5_tastes 14 = .ok (.iconst (-1), 1) := by decide +kernel
theorem dX5_tastes_15 : decode cX5_tastes 15 = .ok (.ireturn, 1) := by decide +kernel
theorem dX5_tastes_16 : decode cX5_tastes 16 = .ok (.aload_n 0, 1) := by decide +kernel
theorem dX5_tastes_17 : decode cX5_tastes 17 = .ok (.getfield 61, 3) := by decide +kernel
theorem dX5_tastes_20 : decode cX5_tastes 20 = .ok (.iload_n 1, 1) := by decide +kernel
theorem dX5_tastes_21 : decode cX5_tastes 21 = .ok (.iload_n 2, 1) := by decide +kernel
theorem dX5_tastes_22 : decode cX5_tastes 22 = .ok (.invokevirtual 225, 3) := by decide +kernel
theorem dX5_tastes_25 : decode cX5_tastes 25 = .ok (.ifCond .eq 13, 3) := by decide +kernel
theorem dX5_tastes_28 : decode cX5_tastes 28 = .ok (.aload_n 0, 1) := by decide +kernel
theorem dX5_tastes_29 : decode cX5_tastes 29 = .ok (.getfield 61, 3) := by decide +kernel
theorem dX5_tastes_32 : decode cX5_tastes 32 = .ok (.getfield 228, 3) := by decide +kernel
theorem dX5_tastes_35 : decode cX5_tastes 35 = .ok (.goto 5, 3) := by decide +kernel
theorem dX5_tastes_38 : decode cX5_tastes 38 = .ok (.bipush (-3), 2) := by decide +kernel
theorem dX5_tastes_40 : decode cX5_tastes 40 = .ok (.ireturn, 1) := by decide +kernel
set_option maxRecDepth 20000 in
theorem ggX5_clears_X0_forgetAll : GoodIn wsX5_clears wsX0_forgetAll := goodIn_r _ [8, 9, 10, 22, 23, 24, 25, 26, 27, 28, 29] (by decide +kernel) (by decide +kernel)
set_option maxRecDepth 20000 in
theorem gX5_clears_X0_forgetAll : GoodIn wsX5_clears (wsV RX5 91 RX0 yX0_forgetAll wsX0_forgetAll) := goodIn_app (goodIn_of _ (by decide +kernel)) ggX5_clears_X0_forgetAll
theorem dX5_clears_0 : decode cX5_clears 0 = .ok (.aload_n 0, 1) := by decide +kernel
theorem dX5_clears_1 : decode cX5_clears 1 = .ok (.getfield 61, 3) := by decide +kernel
theorem dX5_clears_4 : decode cX5_clears 4 = .ok (.getfield 222, 3) := by decide +kernel
theorem dX5_clears_7 : decode cX5_clears 7 = .ok (.aload_n 0, 1) := by decide +kernel
theorem dX5_clears_8 : decode cX5_clears 8 = .ok (.getfield 61, 3) := by decide +kernel
theorem dX5_clears_11 : decode cX5_clears 11 = .ok (.getfield 228, 3) := by decide +kernel
theorem dX5_clears_14 : decode cX5_clears 14 = .ok (.iadd, 1) := by decide +kernel
theorem dX5_clears_15 : decode cX5_clears 15 = .ok (.istore_n 1, 1) := by decide +kernel
theorem dX5_clears_16 : decode cX5_clears 16 = .ok (.aload_n 0, 1) := by decide +kernel
theorem dX5_clears_17 : decode cX5_clears 17 = .ok (.getfield 61, 3) := by decide +kernel
theorem dX5_clears_20 : decode cX5_clears 20 = .ok (.invokevirtual 91, 3) := by decide +kernel
theorem dX5_clears_23 : decode cX5_clears 23 = .ok (.iload_n 1, 1) := by decide +kernel
theorem dX5_clears_24 : decode cX5_clears 24 = .ok (.ireturn, 1) := by decide +kernel
set_option maxRecDepth 20000 in
theorem ggX5_lie_X5_isWithin : GoodIn wsX5_lie wsX5_isWithin := goodIn_r _ [6] (by decide +kernel) (by decide +kernel)
set_option maxRecDepth 20000 in
theorem gX5_lie_X5_isWithin : GoodIn wsX5_lie (va_wsS RX5 69 yX5_isWithin wsX5_isWithin) := goodIn_app (goodIn_of _ (by decide +kernel)) ggX5_lie_X5_isWithin
set_option maxRecDepth 20000 in
theorem ggX5_lie_X0_gatherRows : GoodIn wsX5_lie wsX0_gatherRows := goodIn_r _ [11, 12, 13, 14, 15, 16, 17, 10, 18, 19, 20, 21, 22, 23, 4, 5, 6, 24, 25, 26, 27, 28, 29, 30, 31, 32, 33, 34, 35, 36, 37, 38, 39, 40, 41, 42, 43, 44, 45, 76, 77, 78, 79, 80, 81, 82, 83] (by decide +kernel) (by decide +kernel)
set_option maxRecDepth 20000 in
theorem gX5_lie_X0_gatherRows : GoodIn wsX5_lie (wsV RX5 231 RX0 yX0_gatherRows wsX0_gatherRows) := goodIn_app (goodIn_of _ (by decide +kernel)) ggX5_lie_X0_gatherRows
set_option maxRecDepth 20000 in
theorem ggX5_lie_X0_bestTaste : GoodIn wsX5_lie wsX0_bestTaste := goodIn_r _ [49, 50, 51, 52, 10, 53, 12, 23, 32, 33, 34, 54, 55, 56, 57, 58, 59, 60, 76, 77, 78, 79, 80, 81, 82, 83] (by decide +kernel) (by decide +kernel)
set_option maxRecDepth 20000 in
theorem gX5_lie_X0_bestTaste : GoodIn wsX5_lie (wsV RX5 237 RX0 yX0_bestTaste wsX0_bestTaste) := goodIn_app (goodIn_of _ (by decide +kernel)) ggX5_lie_X0_bestTaste
set_option maxRecDepth 20000 in
theorem ggX5_lie_X0_surelyOn : GoodIn wsX5_lie wsX0_surelyOn := goodIn_r _ [64, 12, 23, 50, 51, 52, 10, 53, 32, 33, 34, 54, 55, 56, 57, 58, 59, 60, 76, 77, 78, 79, 80, 81, 82, 83] (by decide +kernel) (by decide +kernel)
set_option maxRecDepth 20000 in
theorem gX5_lie_X0_surelyOn : GoodIn wsX5_lie (wsV RX5 240 RX0 yX0_surelyOn wsX0_surelyOn) := goodIn_app (goodIn_of _ (by decide +kernel)) ggX5_lie_X0_surelyOn
theorem dX5_lie_0 : decode cX5_lie 0 = .ok (.iload_n 1, 1) := by decide +kernel
theorem dX5_lie_1 : decode cX5_lie 1 = .ok (.iconst 2, 1) := by decide +kernel
theorem dX5_lie_2 : decode cX5_lie 2 = .ok (.iconst 5, 1) := by decide +kernel
theorem dX5_lie_3 : decode cX5_lie 3 = .ok (.invokestatic 69, 3) := by decide +kernel
theorem dX5_lie_6 : decode cX5_lie 6 = .ok (.ifCond .eq 15, 3) := by decide +kernel
theorem dX5_lie_9 : decode cX5_lie 9 = .ok (.iload_n 2, 1) := by decide +kernel
theorem dX5_lie_10 : decode cX5_lie 10 = .ok (.bipush (-2), 2) := by decide +kernel
theorem dX5_lie_12 : decode cX5_lie 12 = .ok (.iload_n 1, 1) := by decide +kernel
theorem dX5_lie_13 : decode cX5_lie 13 = .ok (.iconst 1, 1) := by decide +kernel
theorem dX5_lie_14 : decode cX5_lie 14 = .ok (.isub, 1) := by decide +kernel
theorem dX5_lie_15 : decode cX5_lie 15 = .ok (.invokestatic 69, 3) := by decide +kernel
theorem dX5_lie_18 : decode cX5_lie 18 = .ok (.ifCond .ne 5, 3) := by decide +kernel
theorem dX5_lie_21 : decode cX5_lie 21 = .ok (.iconst (-1), 1) := by decide +kernel
theorem dX5_lie_22 : decode cX5_lie 22 = .ok (.ireturn, 1) := by decide +kernel
theorem dX5_lie_23 : decode cX5_lie 23 = .ok (.aload_n 0, 1) := by decide +kernel
theorem dX5_lie_24 : decode cX5_lie 24 = .ok (.getfield 61, 3) := by decide +kernel
theorem dX5_lie_27 : decode cX5_lie 27 = .ok (.iload_n 1, 1) := by decide +kernel
theorem dX5_lie_28 : decode cX5_lie 28 = .ok (.invokevirtual 231, 3) := by decide +kernel
theorem dX5_lie_31 : decode cX5_lie 31 = .ok (.iload_n 2, 1) := by decide +kernel
theorem dX5_lie_32 : decode cX5_lie 32 = .ok (.iconst (-1), 1) := by decide +kernel
theorem dX5_lie_33 : decode cX5_lie 33 = .ok (.if_icmp .ne 11, 3) := by decide +kernel
theorem dX5_lie_36 : decode cX5_lie 36 = .ok (.aload_n 0, 1) := by decide +kernel
theorem dX5_lie_37 : decode cX5_lie 37 = .ok (.getfield 61, 3) := by decide +kernel
theorem dX5_lie_40 : decode cX5_lie 40 = .ok (.getfield 234, 3) := by decide +kernel
theorem dX5_lie_43 : decode cX5_lie 43 = .ok (.ireturn, 1) := by decide +kernel
theorem dX5_lie_44 : decode cX5_lie 44 = .ok (.iload_n 2, 1) := by decide +kernel
theorem dX5_lie_45 : decode cX5_lie 45 = .ok (.bipush (-2), 2) := by decide +kernel
theorem dX5_lie_47 : decode cX5_lie 47 = .ok (.if_icmp .ne 14, 3) := by decide +kernel
theorem dX5_lie_50 : decode cX5_lie 50 = .ok (.aload_n 0, 1) := by decide +kernel
theorem dX5_lie_51 : decode cX5_lie 51 = .ok (.getfield 61, 3) := by decide +kernel
theorem dX5_lie_54 : decode cX5_lie 54 = .ok (.iload_n 1, 1) := by decide +kernel
theorem dX5_lie_55 : decode cX5_lie 55 = .ok (.invokevirtual 237, 3) := by decide +kernel
theorem dX5_lie_58 : decode cX5_lie 58 = .ok (.goto 11, 3) := by decide +kernel
theorem dX5_lie_61 : decode cX5_lie 61 = .ok (.aload_n 0, 1) := by decide +kernel
theorem dX5_lie_62 : decode cX5_lie 62 = .ok (.getfield 61, 3) := by decide +kernel
theorem dX5_lie_65 : decode cX5_lie 65 = .ok (.iload_n 2, 1) := by decide +kernel
theorem dX5_lie_66 : decode cX5_lie 66 = .ok (.invokevirtual 240, 3) := by decide +kernel
theorem dX5_lie_69 : decode cX5_lie 69 = .ok (.ireturn, 1) := by decide +kernel
set_option maxRecDepth 20000 in
theorem ggX5_mark_X4_hasHost : GoodIn wsX5_mark wsX4_hasHost := goodIn_r _ [7, 8, 77, 78, 79, 80, 81, 82, 83, 84, 85, 86, 87, 88, 89] (by decide +kernel) (by decide +kernel)
set_option maxRecDepth 20000 in
theorem gX5_mark_X4_hasHost : GoodIn wsX5_mark (wsV RX5 119 RX4 yX4_hasHost wsX4_hasHost) := goodIn_app (goodIn_of _ (by decide +kernel)) ggX5_mark_X4_hasHost
set_option maxRecDepth 20000 in
theorem ggX5_mark_X5_markOfHost : GoodIn wsX5_mark wsX5_markOfHost := goodIn_r _ [13, 14, 1, 15, 16, 17, 6, 18, 19, 20, 4, 5, 7, 8, 66, 67, 68, 69, 70, 71, 72, 73, 74, 75, 76, 77, 78, 79, 80, 81, 82, 83, 84, 85, 86, 87, 88, 89] (by decide +kernel) (by decide +kernel)
set_option maxRecDepth 20000 in
theorem gX5_mark_X5_markOfHost : GoodIn wsX5_mark (wsV RX5 244 RX5 yX5_markOfHost wsX5_markOfHost) := goodIn_app (goodIn_of _ (by decide +kernel)) ggX5_mark_X5_markOfHost
set_option maxRecDepth 20000 in
theorem ggX5_mark_X5_markOfLending : GoodIn wsX5_mark wsX5_markOfLending := goodIn_r _ [24, 14, 25, 1, 9, 10, 11, 12, 13, 15, 16, 17, 6, 18, 19, 20, 4, 5, 7, 8, 26, 27, 28, 29, 30, 66, 67, 68, 69, 70, 71, 72, 73, 74, 75, 76, 77, 78, 79, 80, 81, 82, 83, 84, 85, 86, 87, 88, 89] (by decide +kernel) (by decide +kernel)
set_option maxRecDepth 20000 in
theorem gX5_mark_X5_markOfLending : GoodIn wsX5_mark (wsV RX5 247 RX5 yX5_markOfLending wsX5_markOfLending) := goodIn_app (goodIn_of _ (by decide +kernel)) ggX5_mark_X5_markOfLending
set_option maxRecDepth 20000 in
theorem ggX5_mark_X5_markOfOffended : GoodIn wsX5_mark wsX5_markOfOffended := goodIn_r _ [34, 14, 35, 1, 9, 10, 11, 12, 13, 15, 16, 17, 6, 18, 19, 20, 4, 5, 7, 8, 36, 37, 38, 39, 40, 66, 67, 68, 69, 70, 71, 72, 73, 74, 75, 76, 77, 78, 79, 80, 81, 82, 83, 84, 85, 86, 87, 88, 89] (by decide +kernel) (by decide +kernel)
set_option maxRecDepth 20000 in
theorem gX5_mark_X5_markOfOffended : GoodIn wsX5_mark (wsV RX5 250 RX5 yX5_markOfOffended wsX5_markOfOffended) := goodIn_app (goodIn_of _ (by decide +kernel)) ggX5_mark_X5_markOfOffended
set_option maxRecDepth 20000 in
theorem ggX5_mark_X5_markOfTwice : GoodIn wsX5_mark wsX5_markOfTwice := goodIn_r _ [44, 14, 45, 21, 22, 23, 12, 24, 25, 1, 9, 10, 11, 13, 15, 16, 17, 6, 18, 19, 20, 4, 5, 7, 8, 26, 27, 28, 29, 30, 66, 67, 68, 69, 70, 71, 72, 73, 74, 75, 76, 77, 78, 79, 80, 81, 82, 83, 84, 85, 86, 87, 88, 89] (by decide +kernel) (by decide +kernel)
set_option maxRecDepth 20000 in
theorem gX5_mark_X5_markOfTwice : GoodIn wsX5_mark (wsV RX5 253 RX5 yX5_markOfTwice wsX5_markOfTwice) := goodIn_app (goodIn_of _ (by decide +kernel)) ggX5_mark_X5_markOfTwice
set_option maxRecDepth 20000 in
theorem ggX5_mark_X5_markOfFalse : GoodIn wsX5_mark wsX5_markOfFalse := goodIn_r _ [49, 14, 50, 51, 52, 31, 32, 33, 12, 34, 35, 1, 9, 10, 11, 13, 15, 16, 17, 6, 18, 19, 20, 4, 5, 7, 8, 36, 37, 38, 39, 40, 53, 54, 55, 56, 57, 58, 59, 66, 67, 68, 69, 70, 71, 72, 73, 74, 75, 76, 90, 91, 92, 93, 94, 95, 96, 97, 77, 78, 79, 80, 81, 82, 83, 84, 85, 86, 87, 88, 89] (by decide +kernel) (by decide +kernel)
set_option maxRecDepth 20000 in
theorem gX5_mark_X5_markOfFalse : GoodIn wsX5_mark (wsV RX5 256 RX5 yX5_markOfFalse wsX5_markOfFalse) := goodIn_app (goodIn_of _ (by decide +kernel)) ggX5_mark_X5_markOfFalse
set_option maxRecDepth 20000 in
theorem ggX5_mark_X5_markOfDwarf : GoodIn wsX5_mark wsX5_markOfDwarf := goodIn_r _ [63, 14, 64, 51, 65, 9, 10, 11, 12, 13, 1, 15, 16, 17, 6, 18, 19, 20, 4, 5, 7, 8, 66, 67, 68, 69, 70, 71, 72, 73, 74, 75, 76, 90, 91, 92, 93, 94, 95, 96, 97, 77, 78, 79, 80, 81, 82, 83, 84, 85, 86, 87, 88, 89] (by decide +kernel) (by decide +kernel)
set_option maxRecDepth 20000 in
theorem gX5_mark_X5_markOfDwarf : GoodIn wsX5_mark (wsV RX5 259 RX5 yX5_markOfDwarf wsX5_markOfDwarf) := goodIn_app (goodIn_of _ (by decide +kernel)) ggX5_mark_X5_markOfDwarf
theorem dX5_mark_0 : decode cX5_mark 0 = .ok (.aload_n 0, 1) := by decide +kernel
theorem dX5_mark_1 : decode cX5_mark 1 = .ok (.getfield 20, 3) := by decide +kernel
theorem dX5_mark_4 : decode cX5_mark 4 = .ok (.iload_n 2, 1) := by decide +kernel
theorem dX5_mark_5 : decode cX5_mark 5 = .ok (.invokevirtual 119, 3) := by decide +kernel
theorem dX5_mark_8 : decode cX5_mark 8 = .ok (.ifCond .ne 6, 3) := by decide +kernel
theorem dX5_mark_11 : decode cX5_mark 11 = .ok (.ldc 243, 2) := by decide +kernel
theorem dX5_mark_13 : decode cX5_mark 13 = .ok (.ireturn, 1) := by decide +kernel
theorem dX5_mark_14 : decode cX5_mark 14 = .ok (.iload_n 1, 1) := by decide +kernel
theorem dX5_mark_15 : decode cX5_mark 15 = .ok (.tableswitch 73 0 5 #[37, 43, 49, 55, 61, 67], 37) := by decide +kernel
theorem dX5_mark_52 : decode cX5_mark 52 = .ok (.aload_n 0, 1) := by decide +kernel
theorem dX5_mark_53 : decode cX5_mark 53 = .ok (.iload_n 2, 1) := by decide +kernel
theorem dX5_mark_54 : decode cX5_mark 54 = .ok (.invokevirtual 244, 3) := by decide +kernel
theorem dX5_mark_57 : decode cX5_mark 57 = .ok (.ireturn, 1) := by decide +kernel
theorem dX5_mark_58 : decode cX5_mark 58 = .ok (.aload_n 0, 1) := by decide +kernel
theorem dX5_mark_59 : decode cX5_mark 59 = .ok (.iload_n 2, 1) := by decide +kernel
theorem dX5_mark_60 : decode cX5_mark 60 = .ok (.invokevirtual 247, 3) := by decide +kernel
theorem dX5_mark_63 : decode cX5_mark 63 = .ok (.ireturn, 1) := by decide +kernel
theorem dX5_mark_64 : decode cX5_mark 64 = .ok (.aload_n 0, 1) := by decide +kernel
theorem dX5_mark_65 : decode cX5_mark 65 = .ok (.iload_n 2, 1) := by decide +kernel
theorem dX5_mark_66 : decode cX5_mark 66 = .ok (.invokevirtual 250, 3) := by decide +kernel
theorem dX5_mark_69 : decode cX5_mark 69 = .ok (.ireturn, 1) := by decide +kernel
theorem dX5_mark_70 : decode cX5_mark 70 = .ok (.aload_n 0, 1) := by decide +kernel
theorem dX5_mark_71 : decode cX5_mark 71 = .ok (.iload_n 2, 1) := by decide +kernel
theorem dX5_mark_72 : decode cX5_mark 72 = .ok (.invokevirtual 253, 3) := by decide +kernel
theorem dX5_mark_75 : decode cX5_mark 75 = .ok (.ireturn, 1) := by decide +kernel
theorem dX5_mark_76 : decode cX5_mark 76 = .ok (.aload_n 0, 1) := by decide +kernel
theorem dX5_mark_77 : decode cX5_mark 77 = .ok (.iload_n 2, 1) := by decide +kernel
theorem dX5_mark_78 : decode cX5_mark 78 = .ok (.invokevirtual 256, 3) := by decide +kernel
theorem dX5_mark_81 : decode cX5_mark 81 = .ok (.ireturn, 1) := by decide +kernel
theorem dX5_mark_82 : decode cX5_mark 82 = .ok (.aload_n 0, 1) := by decide +kernel
theorem dX5_mark_83 : decode cX5_mark 83 = .ok (.iload_n 2, 1) := by decide +kernel
theorem dX5_mark_84 : decode cX5_mark 84 = .ok (.invokevirtual 259, 3) := by decide +kernel
theorem dX5_mark_87 : decode cX5_mark 87 = .ok (.ireturn, 1) := by decide +kernel
theorem dX5_mark_88 : decode cX5_mark 88 = .ok (.ldc 243, 2) := by decide +kernel
theorem dX5_mark_90 : decode cX5_mark 90 = .ok (.ireturn, 1) := by decide +kernel
set_option maxRecDepth 20000 in
theorem ggX5_markOfHost_X4_hostGives : GoodIn wsX5_markOfHost wsX4_hostGives := goodIn_r _ [7, 8, 9, 10, 11, 6, 12, 13, 25, 26, 27, 28, 29, 30, 31, 32, 33, 34, 35, 36, 37] (by decide +kernel) (by decide +kernel)
set_option maxRecDepth 20000 in
theorem gX5_markOfHost_X4_hostGives : GoodIn wsX5_markOfHost (wsV RX5 125 RX4 yX4_hostGives wsX4_hostGives) := goodIn_app (goodIn_of _ (by decide +kernel)) ggX5_markOfHost_X4_hostGives
theorem dX5_markOfHost_0 : decode cX5_markOfHost 0 = .ok (.aload_n 0, 1) := by decide +kernel
theorem dX5_markOfHost_1 : decode cX5_markOfHost 1 = .ok (.dup, 1) := by decide +kernel
theorem dX5_markOfHost_2 : decode cX5_markOfHost 2 = .ok (.getfield 65, 3) := by decide +kernel
theorem dX5_markOfHost_5 : decode cX5_markOfHost 5 = .ok (.lconst 1, 1) := by decide +kernel
theorem dX5_markOfHost_6 : decode cX5_markOfHost 6 = .ok (.ladd, 1) := by decide +kernel
theorem dX5_markOfHost_7 : decode cX5_markOfHost 7 = .ok (.putfield 65, 3) := by decide +kernel
theorem dX5_markOfHost_10 : decode cX5_markOfHost 10 = .ok (.aload_n 0, 1) := by decide +kernel
theorem dX5_markOfHost_11 : decode cX5_markOfHost 11 = .ok (.getfield 20, 3) := by decide +kernel
theorem dX5_markOfHost_14 : decode cX5_markOfHost 14 = .ok (.iload_n 1, 1) := by decide +kernel
theorem dX5_markOfHost_15 : decode cX5_markOfHost 15 = .ok (.invokevirtual 125, 3) := by decide +kernel
theorem dX5_markOfHost_18 : decode cX5_markOfHost 18 = .ok (.ireturn, 1) := by decide +kernel
set_option maxRecDepth 20000 in
theorem ggX5_markOfLending_X5_markOfHost : GoodIn wsX5_markOfLending wsX5_markOfHost := goodIn_r _ [8, 1, 3, 9, 10, 11, 12, 13, 14, 15, 16, 17, 18, 19, 25, 26, 27, 28, 29, 30, 31, 32, 33, 34, 35, 36, 37, 38, 39, 40, 41, 42, 43, 44, 45, 46, 47, 48] (by decide +kernel) (by decide +kernel)
set_option maxRecDepth 20000 in
theorem gX5_markOfLending_X5_markOfHost : GoodIn wsX5_markOfLending (wsV RX5 244 RX5 yX5_markOfHost wsX5_markOfHost) := goodIn_app (goodIn_of _ (by decide +kernel)) ggX5_markOfLending_X5_markOfHost
set_option maxRecDepth 20000 in
theorem ggX5_markOfLending_X4_hostPlace : GoodIn wsX5_markOfLending wsX4_hostPlace := goodIn_r _ [23, 24, 15, 16, 17, 12, 18, 19, 36, 37, 38, 39, 40, 41, 42, 43, 44, 45, 46, 47, 48] (by decide +kernel) (by decide +kernel)
set_option maxRecDepth 20000 in
theorem gX5_markOfLending_X4_hostPlace : GoodIn wsX5_markOfLending (wsV RX5 122 RX4 yX4_hostPlace wsX4_hostPlace) := goodIn_app (goodIn_of _ (by decide +kernel)) ggX5_markOfLending_X4_hostPlace
theorem dX5_markOfLending_0 : decode cX5_markOfLending 0 = .ok (.aload_n 0, 1) := by decide +kernel
theorem dX5_markOfLending_1 : decode cX5_markOfLending 1 = .ok (.dup, 1) := by decide +kernel
theorem dX5_markOfLending_2 : decode cX5_markOfLending 2 = .ok (.getfield 65, 3) := by decide +kernel
theorem dX5_markOfLending_5 : decode cX5_markOfLending 5 = .ok (.ldc2_w 262, 3) := by decide +kernel
theorem dX5_markOfLending_8 : decode cX5_markOfLending 8 = .ok (.ladd, 1) := by decide +kernel
theorem dX5_markOfLending_9 : decode cX5_markOfLending 9 = .ok (.putfield 65, 3) := by decide +kernel
theorem dX5_markOfLending_12 : decode cX5_markOfLending 12 = .ok (.aload_n 0, 1) := by decide +kernel
theorem dX5_markOfLending_13 : decode cX5_markOfLending 13 = .ok (.iload_n 1, 1) := by decide +kernel
theorem dX5_markOfLending_14 : decode cX5_markOfLending 14 = .ok (.invokevirtual 244, 3) := by decide +kernel
theorem dX5_markOfLending_17 : decode cX5_markOfLending 17 = .ok (.aload_n 0, 1) := by decide +kernel
theorem dX5_markOfLending_18 : decode cX5_markOfLending 18 = .ok (.getfield 20, 3) := by decide +kernel
theorem dX5_markOfLending_21 : decode cX5_markOfLending 21 = .ok (.iload_n 1, 1) := by decide +kernel
theorem dX5_markOfLending_22 : decode cX5_markOfLending 22 = .ok (.invokevirtual 122, 3) := by decide +kernel
theorem dX5_markOfLending_25 : decode cX5_markOfLending 25 = .ok (.iadd, 1) := by decide +kernel
theorem dX5_markOfLending_26 : decode cX5_markOfLending 26 = .ok (.ireturn, 1) := by decide +kernel
set_option maxRecDepth 20000 in
theorem ggX5_markOfOffended_X5_markOfHost : GoodIn wsX5_markOfOffended wsX5_markOfHost := goodIn_r _ [8, 1, 3, 9, 10, 11, 12, 13, 14, 15, 16, 17, 18, 19, 25, 26, 27, 28, 29, 30, 31, 32, 33, 34, 35, 36, 37, 38, 39, 40, 41, 42, 43, 44, 45, 46, 47, 48] (by decide +kernel) (by decide +kernel)
set_option maxRecDepth 20000 in
theorem gX5_markOfOffended_X5_markOfHost : GoodIn wsX5_markOfOffended (wsV RX5 244 RX5 yX5_markOfHost wsX5_markOfHost) := goodIn_app (goodIn_of _ (by decide +kernel)) ggX5_markOfOffended_X5_markOfHost
set_option maxRecDepth 20000 in
theorem ggX5_markOfOffended_X4_hostAsks : GoodIn wsX5_markOfOffended wsX4_hostAsks := goodIn_r _ [23, 24, 15, 16, 17, 12, 18, 19, 36, 37, 38, 39, 40, 41, 42, 43, 44, 45, 46, 47, 48] (by decide +kernel) (by decide +kernel)
set_option maxRecDepth 20000 in
theorem gX5_markOfOffended_X4_hostAsks : GoodIn wsX5_markOfOffended (wsV RX5 128 RX4 yX4_hostAsks wsX4_hostAsks) := goodIn_app (goodIn_of _ (by decide +kernel)) ggX5_markOfOffended_X4_hostAsks
theorem dX5_markOfOffended_0 : decode cX5_markOfOffended 0 = .ok (.aload_n 0, 1) := by decide +kernel
theorem dX5_markOfOffended_1 : decode cX5_markOfOffended 1 = .ok (.dup, 1) := by decide +kernel
theorem dX5_markOfOffended_2 : decode cX5_markOfOffended 2 = .ok (.getfield 65, 3) := by decide +kernel
theorem dX5_markOfOffended_5 : decode cX5_markOfOffended 5 = .ok (.ldc2_w 264, 3) := by decide +kernel
theorem dX5_markOfOffended_8 : decode cX5_markOfOffended 8 = .ok (.ladd, 1) := by decide +kernel
theorem dX5_markOfOffended_9 : decode cX5_markOfOffended 9 = .ok (.putfield 65, 3) := by decide +kernel
theorem dX5_markOfOffended_12 : decode cX5_markOfOffended 12 = .ok (.aload_n 0, 1) := by decide +kernel
theorem dX5_markOfOffended_13 : decode cX5_markOfOffended 13 = .ok (.iload_n 1, 1) := by decide +kernel
theorem dX5_markOfOffended_14 : decode cX5_markOfOffended 14 = .ok (.invokevirtual 244, 3) := by decide +kernel
theorem dX5_markOfOffended_17 : decode cX5_markOfOffended 17 = .ok (.aload_n 0, 1) := by decide +kernel
theorem dX5_markOfOffended_18 : decode cX5_markOfOffended 18 = .ok (.getfield 20, 3) := by decide +kernel
theorem dX5_markOfOffended_21 : decode cX5_markOfOffended 21 = .ok (.iload_n 1, 1) := by decide +kernel
theorem dX5_markOfOffended_22 : decode cX5_markOfOffended 22 = .ok (.invokevirtual 128, 3) := by decide +kernel
theorem dX5_markOfOffended_25 : decode cX5_markOfOffended 25 = .ok (.isub, 1) := by decide +kernel
theorem dX5_markOfOffended_26 : decode cX5_markOfOffended 26 = .ok (.ireturn, 1) := by decide +kernel
set_option maxRecDepth 20000 in
theorem ggX5_markOfTwice_X5_markOfLending : GoodIn wsX5_markOfTwice wsX5_markOfLending := goodIn_r _ [7, 1, 8, 9, 10, 11, 12, 6, 13, 14, 15, 16, 17, 18, 19, 20, 21, 22, 23, 24, 25, 26, 27, 28, 29, 30, 31, 32, 33, 34, 35, 36, 37, 38, 39, 40, 41, 42, 43, 44, 45, 46, 47, 48, 49, 50, 51, 52, 53] (by decide +kernel) (by decide +kernel)
set_option maxRecDepth 20000 in
theorem gX5_markOfTwice_X5_markOfLending : GoodIn wsX5_markOfTwice (wsV RX5 247 RX5 yX5_markOfLending wsX5_markOfLending) := goodIn_app (goodIn_of _ (by decide +kernel)) ggX5_markOfTwice_X5_markOfLending
theorem dX5_markOfTwice_0 : decode cX5_markOfTwice 0 = .ok (.aload_n 0, 1) := by decide +kernel
theorem dX5_markOfTwice_1 : decode cX5_markOfTwice 1 = .ok (.dup, 1) := by decide +kernel
theorem dX5_markOfTwice_2 : decode cX5_markOfTwice 2 = .ok (.getfield 65, 3) := by decide +kernel
theorem dX5_markOfTwice_5 : decode cX5_markOfTwice 5 = .ok (.ldc2_w 266, 3) := by decide +kernel
theorem dX5_markOfTwice_8 : decode cX5_markOfTwice 8 = .ok (.ladd, 1) := by decide +kernel
theorem dX5_markOfTwice_9 : decode cX5_markOfTwice 9 = .ok (.putfield 65, 3) := by decide +kernel
theorem dX5_markOfTwice_12 : decode cX5_markOfTwice 12 = .ok (.aload_n 0, 1) := by decide +kernel
theorem dX5_markOfTwice_13 : decode cX5_markOfTwice 13 = .ok (.iload_n 1, 1) := by decide +kernel
theorem dX5_markOfTwice_14 : decode cX5_markOfTwice 14 = .ok (.invokevirtual 247, 3) := by decide +kernel
theorem dX5_markOfTwice_17 : decode cX5_markOfTwice 17 = .ok (.iconst 2, 1) := by decide +kernel
theorem dX5_markOfTwice_18 : decode cX5_markOfTwice 18 = .ok (.imul, 1) := by decide +kernel
theorem dX5_markOfTwice_19 : decode cX5_markOfTwice 19 = .ok (.ireturn, 1) := by decide +kernel
set_option maxRecDepth 20000 in
theorem ggX5_markOfFalse_X5_markOfOffended : GoodIn wsX5_markOfFalse wsX5_markOfOffended := goodIn_r _ [9, 1, 10, 11, 12, 13, 14, 8, 15, 16, 17, 18, 19, 20, 21, 22, 23, 24, 25, 26, 27, 28, 29, 30, 31, 39, 40, 41, 42, 43, 44, 45, 46, 47, 48, 49, 58, 59, 60, 61, 62, 63, 64, 65, 66, 67, 68, 69, 70] (by decide +kernel) (by decide +kernel)
set_option maxRecDepth 20000 in
theorem gX5_markOfFalse_X5_markOfOffended : GoodIn wsX5_markOfFalse (wsV RX5 250 RX5 yX5_markOfOffended wsX5_markOfOffended) := goodIn_app (goodIn_of _ (by decide +kernel)) ggX5_markOfFalse_X5_markOfOffended
set_option maxRecDepth 20000 in
theorem ggX5_markOfFalse_J6_bitCount_0f7a4 : GoodIn wsX5_markOfFalse wsJ6_bitCount_0f7a4 := goodIn_r _ [35, 36, 37, 38] (by decide +kernel) (by decide +kernel)
set_option maxRecDepth 20000 in
theorem gX5_markOfFalse_J6_bitCount_0f7a4 : GoodIn wsX5_markOfFalse (va_wsS RX5 270 yJ6_bitCount_0f7a4 wsJ6_bitCount_0f7a4) := goodIn_app (goodIn_of _ (by decide +kernel)) ggX5_markOfFalse_J6_bitCount_0f7a4
theorem dX5_markOfFalse_0 : decode cX5_markOfFalse 0 = .ok (.aload_n 0, 1) := by decide +kernel
theorem dX5_markOfFalse_1 : decode cX5_markOfFalse 1 = .ok (.dup, 1) := by decide +kernel
theorem dX5_markOfFalse_2 : decode cX5_markOfFalse 2 = .ok (.getfield 65, 3) := by decide +kernel
theorem dX5_markOfFalse_5 : decode cX5_markOfFalse 5 = .ok (.ldc2_w 268, 3) := by decide +kernel
theorem dX5_markOfFalse_8 : decode cX5_markOfFalse 8 = .ok (.ladd, 1) := by decide +kernel
theorem dX5_markOfFalse_9 : decode cX5_markOfFalse 9 = .ok (.putfield 65, 3) := by decide +kernel
theorem dX5_markOfFalse_12 : decode cX5_markOfFalse 12 = .ok (.aload_n 0, 1) := by decide +kernel
theorem dX5_markOfFalse_13 : decode cX5_markOfFalse 13 = .ok (.iload_n 1, 1) := by decide +kernel
theorem dX5_markOfFalse_14 : decode cX5_markOfFalse 14 = .ok (.invokevirtual 250, 3) := by decide +kernel
theorem dX5_markOfFalse_17 : decode cX5_markOfFalse 17 = .ok (.aload_n 0, 1) := by decide +kernel
theorem dX5_markOfFalse_18 : decode cX5_markOfFalse 18 = .ok (.getfield 39, 3) := by decide +kernel
theorem dX5_markOfFalse_21 : decode cX5_markOfFalse 21 = .ok (.getfield 147, 3) := by decide +kernel
theorem dX5_markOfFalse_24 : decode cX5_markOfFalse 24 = .ok (.invokestatic 270, 3) := by decide +kernel
theorem dX5_markOfFalse_27 : decode cX5_markOfFalse 27 = .ok (.iadd, 1) := by decide +kernel
theorem dX5_markOfFalse_28 : decode cX5_markOfFalse 28 = .ok (.ireturn, 1) := by decide +kernel
set_option maxRecDepth 20000 in
theorem ggX5_markOfDwarf_X5_markOfHost : GoodIn wsX5_markOfDwarf wsX5_markOfHost := goodIn_r _ [9, 1, 10, 11, 12, 13, 14, 15, 16, 17, 18, 19, 20, 21, 22, 23, 24, 25, 26, 27, 28, 29, 30, 31, 32, 41, 42, 43, 44, 45, 46, 47, 48, 49, 50, 51, 52, 53] (by decide +kernel) (by decide +kernel)
set_option maxRecDepth 20000 in
theorem gX5_markOfDwarf_X5_markOfHost : GoodIn wsX5_markOfDwarf (wsV RX5 244 RX5 yX5_markOfHost wsX5_markOfHost) := goodIn_app (goodIn_of _ (by decide +kernel)) ggX5_markOfDwarf_X5_markOfHost
theorem dX5_markOfDwarf_0 : decode cX5_markOfDwarf 0 = .ok (.aload_n 0, 1) := by decide +kernel
theorem dX5_markOfDwarf_1 : decode cX5_markOfDwarf 1 = .ok (.dup, 1) := by decide +kernel
theorem dX5_markOfDwarf_2 : decode cX5_markOfDwarf 2 = .ok (.getfield 65, 3) := by decide +kernel
theorem dX5_markOfDwarf_5 : decode cX5_markOfDwarf 5 = .ok (.ldc2_w 275, 3) := by decide +kernel
theorem dX5_markOfDwarf_8 : decode cX5_markOfDwarf 8 = .ok (.ladd, 1) := by decide +kernel
theorem dX5_markOfDwarf_9 : decode cX5_markOfDwarf 9 = .ok (.putfield 65, 3) := by decide +kernel
theorem dX5_markOfDwarf_12 : decode cX5_markOfDwarf 12 = .ok (.aload_n 0, 1) := by decide +kernel
theorem dX5_markOfDwarf_13 : decode cX5_markOfDwarf 13 = .ok (.iload_n 1, 1) := by decide +kernel
theorem dX5_markOfDwarf_14 : decode cX5_markOfDwarf 14 = .ok (.invokevirtual 244, 3) := by decide +kernel
theorem dX5_markOfDwarf_17 : decode cX5_markOfDwarf 17 = .ok (.aload_n 0, 1) := by decide +kernel
theorem dX5_markOfDwarf_18 : decode cX5_markOfDwarf 18 = .ok (.getfield 39, 3) := by decide +kernel
theorem dX5_markOfDwarf_21 : decode cX5_markOfDwarf 21 = .ok (.getfield 144, 3) := by decide +kernel
theorem dX5_markOfDwarf_24 : decode cX5_markOfDwarf 24 = .ok (.bipush 24, 2) := by decide +kernel
theorem dX5_markOfDwarf_26 : decode cX5_markOfDwarf 26 = .ok (.irem, 1) := by decide +kernel
theorem dX5_markOfDwarf_27 : decode cX5_markOfDwarf 27 = .ok (.iadd, 1) := by decide +kernel
theorem dX5_markOfDwarf_28 : decode cX5_markOfDwarf 28 = .ok (.ireturn, 1) := by decide +kernel
set_option maxRecDepth 20000 in
theorem ggX5_keep_X5_isWithin : GoodIn wsX5_keep wsX5_isWithin := goodIn_r _ [7] (by decide +kernel) (by decide +kernel)
set_option maxRecDepth 20000 in
theorem gX5_keep_X5_isWithin : GoodIn wsX5_keep (va_wsS RX5 69 yX5_isWithin wsX5_isWithin) := goodIn_app (goodIn_of _ (by decide +kernel)) ggX5_keep_X5_isWithin
set_option maxRecDepth 20000 in
theorem ggX5_keep_X5_imageOf : GoodIn wsX5_keep wsX5_imageOf := goodIn_r _ [11, 12, 13, 30, 31, 32, 33, 34, 35, 36, 37, 38, 39, 40] (by decide +kernel) (by decide +kernel)
set_option maxRecDepth 20000 in
theorem gX5_keep_X5_imageOf : GoodIn wsX5_keep (wsV RX5 277 RX5 yX5_imageOf wsX5_imageOf) := goodIn_app (goodIn_of _ (by decide +kernel)) ggX5_keep_X5_imageOf
set_option maxRecDepth 20000 in
theorem ggX5_keep_X2_becomeLike : GoodIn wsX5_keep wsX2_becomeLike := goodIn_r _ [18, 19, 20, 21, 22, 23, 24, 25, 26, 27, 28, 29, 41, 42, 43, 44, 45, 46, 47, 48] (by decide +kernel) (by decide +kernel)
set_option maxRecDepth 20000 in
theorem gX5_keep_X2_becomeLike : GoodIn wsX5_keep (wsV RX5 281 RX2 yX2_becomeLike wsX2_becomeLike) := goodIn_app (goodIn_of _ (by decide +kernel)) ggX5_keep_X2_becomeLike
theorem dX5_keep_0 : decode cX5_keep 0 = .ok (.iload_n 1, 1) := by decide +kernel
theorem dX5_keep_1 : decode cX5_keep 1 = .ok (.iconst 0, 1) := by decide +kernel
theorem dX5_keep_2 : decode cX5_keep 2 = .ok (.iconst 1, 1) := by decide +kernel
theorem dX5_keep_3 : decode cX5_keep 3 = .ok (.invokestatic 69, 3) := by decide +kernel
theorem dX5_keep_6 : decode cX5_keep 6 = .ok (.ifCond .ne 5, 3) := by decide +kernel
theorem dX5_keep_9 : decode cX5_keep 9 = .ok (.iconst (-1), 1) := by decide +kernel
theorem dX5_keep_10 : decode cX5_keep 10 = .ok (.ireturn, 1) := by decide +kernel
theorem dX5_keep_11 : decode cX5_keep 11 = .ok (.aload_n 0, 1) := by decide +kernel
theorem dX5_keep_12 : decode cX5_keep 12 = .ok (.iload_n 1, 1) := by decide +kernel
theorem dX5_keep_13 : decode cX5_keep 13 = .ok (.invokevirtual 277, 3) := by decide +kernel
theorem dX5_keep_16 : decode cX5_keep 16 = .ok (.astore_n 2, 1) := by decide +kernel
theorem dX5_keep_17 : decode cX5_keep 17 = .ok (.aload_n 2, 1) := by decide +kernel
theorem dX5_keep_18 : decode cX5_keep 18 = .ok (.aload_n 0, 1) := by decide +kernel
theorem dX5_keep_19 : decode cX5_keep 19 = .ok (.getfield 39, 3) := by decide +kernel
theorem dX5_keep_22 : decode cX5_keep 22 = .ok (.invokevirtual 281, 3) := by decide +kernel
theorem dX5_keep_25 : decode cX5_keep 25 = .ok (.aload_n 2, 1) := by decide +kernel
theorem dX5_keep_26 : decode cX5_keep 26 = .ok (.iconst 1, 1) := by decide +kernel
theorem dX5_keep_27 : decode cX5_keep 27 = .ok (.putfield 87, 3) := by decide +kernel
theorem dX5_keep_30 : decode cX5_keep 30 = .ok (.aload_n 0, 1) := by decide +kernel
theorem dX5_keep_31 : decode cX5_keep 31 = .ok (.getfield 39, 3) := by decide +kernel
theorem dX5_keep_34 : decode cX5_keep 34 = .ok (.getfield 144, 3) := by decide +kernel
theorem dX5_keep_37 : decode cX5_keep 37 = .ok (.ireturn, 1) := by decide +kernel
set_option maxRecDepth 20000 in
theorem ggX5_back_X5_isWithin : GoodIn wsX5_back wsX5_isWithin := goodIn_r _ [7] (by decide +kernel) (by decide +kernel)
set_option maxRecDepth 20000 in
theorem gX5_back_X5_isWithin : GoodIn wsX5_back (va_wsS RX5 69 yX5_isWithin wsX5_isWithin) := goodIn_app (goodIn_of _ (by decide +kernel)) ggX5_back_X5_isWithin
set_option maxRecDepth 20000 in
theorem ggX5_back_X5_imageOf : GoodIn wsX5_back wsX5_imageOf := goodIn_r _ [11, 12, 13, 38, 39, 40, 41, 42, 43, 44, 45, 46, 47, 48] (by decide +kernel) (by decide +kernel)
set_option maxRecDepth 20000 in
theorem gX5_back_X5_imageOf : GoodIn wsX5_back (wsV RX5 277 RX5 yX5_imageOf wsX5_imageOf) := goodIn_app (goodIn_of _ (by decide +kernel)) ggX5_back_X5_imageOf
set_option maxRecDepth 20000 in
theorem ggX5_back_X2_becomeLike : GoodIn wsX5_back wsX2_becomeLike := goodIn_r _ [18, 19, 20, 21, 22, 23, 24, 25, 26, 27, 28, 29, 30, 31, 32, 33, 34, 35, 36, 37] (by decide +kernel) (by decide +kernel)
set_option maxRecDepth 20000 in
theorem gX5_back_X2_becomeLike : GoodIn wsX5_back (wsV RX5 281 RX2 yX2_becomeLike wsX2_becomeLike) := goodIn_app (goodIn_of _ (by decide +kernel)) ggX5_back_X2_becomeLike
theorem dX5_back_0 : decode cX5_back 0 = .ok (.iload_n 1, 1) := by decide +kernel
theorem dX5_back_1 : decode cX5_back 1 = .ok (.iconst 0, 1) := by decide +kernel
theorem dX5_back_2 : decode cX5_back 2 = .ok (.iconst 1, 1) := by decide +kernel
theorem dX5_back_3 : decode cX5_back 3 = .ok (.invokestatic 69, 3) := by decide +kernel
theorem dX5_back_6 : decode cX5_back 6 = .ok (.ifCond .ne 5, 3) := by decide +kernel
theorem dX5_back_9 : decode cX5_back 9 = .ok (.iconst (-1), 1) := by decide +kernel
theorem dX5_back_10 : decode cX5_back 10 = .ok (.ireturn, 1) := by decide +kernel
theorem dX5_back_11 : decode cX5_back 11 = .ok (.aload_n 0, 1) := by decide +kernel
theorem dX5_back_12 : decode cX5_back 12 = .ok (.iload_n 1, 1) := by decide +kernel
theorem dX5_back_13 : decode cX5_back 13 = .ok (.invokevirtual 277, 3) := by decide +kernel
theorem dX5_back_16 : decode cX5_back 16 = .ok (.astore_n 2, 1) := by decide +kernel
theorem dX5_back_17 : decode cX5_back 17 = .ok (.aload_n 2, 1) := by decide +kernel
theorem dX5_back_18 : decode cX5_back 18 = .ok (.getfield 87, 3) := by decide +kernel
theorem dX5_back_21 : decode cX5_back 21 = .ok (.ifCond .ne 6, 3) := by decide +kernel
theorem dX5_back_24 : decode cX5_back 24 = .ok (.bipush (-2), 2) := by decide +kernel
theorem dX5_back_26 : decode cX5_back 26 = .ok (.ireturn, 1) := by decide +kernel
theorem dX5_back_27 : decode cX5_back 27 = .ok (.aload_n 0, 1) := by decide +kernel
theorem dX5_back_28 : decode cX5_back 28 = .ok (.getfield 39, 3) := by decide +kernel
theorem dX5_back_31 : decode cX5_back 31 = .ok (.aload_n 2, 1) := by decide +kernel
theorem dX5_back_32 : decode cX5_back 32 = .ok (.invokevirtual 281, 3) := by decide +kernel
theorem dX5_back_35 : decode cX5_back 35 = .ok (.aload_n 0, 1) := by decide +kernel
theorem dX5_back_36 : decode cX5_back 36 = .ok (.getfield 39, 3) := by decide +kernel
theorem dX5_back_39 : decode cX5_back 39 = .ok (.getfield 144, 3) := by decide +kernel
theorem dX5_back_42 : decode cX5_back 42 = .ok (.ireturn, 1) := by decide +kernel
theorem dX5_imageOf_0 : decode cX5_imageOf 0 = .ok (.iload_n 1, 1) := by decide +kernel
theorem dX5_imageOf_1 : decode cX5_imageOf 1 = .ok (.ifCond .ne 10, 3) := by decide +kernel
theorem dX5_imageOf_4 : decode cX5_imageOf 4 = .ok (.aload_n 0, 1) := by decide +kernel
theorem dX5_imageOf_5 : decode cX5_imageOf 5 = .ok (.getfield 43, 3) := by decide +kernel
theorem dX5_imageOf_8 : decode cX5_imageOf 8 = .ok (.goto 7, 3) := by decide +kernel
theorem dX5_imageOf_11 : decode cX5_imageOf 11 = .ok (.aload_n 0, 1) := by decide +kernel
theorem dX5_imageOf_12 : decode cX5_imageOf 12 = .ok (.getfield 46, 3) := by decide +kernel
theorem dX5_imageOf_15 : decode cX5_imageOf 15 = .ok (.areturn, 1) := by decide +kernel
theorem dX5_count_0 : decode cX5_count 0 = .ok (.iload_n 1, 1) := by decide +kernel
theorem dX5_count_1 : decode cX5_count 1 = .ok (.tableswitch 108 0 7 #[47, 55, 63, 71, 79, 87, 95, 103], 47) := by decide +kernel
theorem dX5_count_48 : decode cX5_count 48 = .ok (.aload_n 0, 1) := by decide +kernel
theorem dX5_count_49 : decode cX5_count 49 = .ok (.getfield 20, 3) := by decide +kernel
theorem dX5_count_52 : decode cX5_count 52 = .ok (.getfield 153, 3) := by decide +kernel
theorem dX5_count_55 : decode cX5_count 55 = .ok (.ireturn, 1) := by decide +kernel
theorem dX5_count_56 : decode cX5_count 56 = .ok (.aload_n 0, 1) := by decide +kernel
theorem dX5_count_57 : decode cX5_count 57 = .ok (.getfield 20, 3) := by decide +kernel
theorem dX5_count_60 : decode cX5_count 60 = .ok (.getfield 175, 3) := by decide +kernel
theorem dX5_count_63 : decode cX5_count 63 = .ok (.ireturn, 1) := by decide +kernel
theorem dX5_count_64 : decode cX5_count 64 = .ok (.aload_n 0, 1) := by decide +kernel
theorem dX5_count_65 : decode cX5_count 65 = .ok (.getfield 20, 3) := by decide +kernel
theorem dX5_count_68 : decode cX5_count 68 = .ok (.getfield 178, 3) := by decide +kernel
theorem dX5_count_71 : decode cX5_count 71 = .ok (.ireturn, 1) := by decide +kernel
theorem dX5_count_72 : decode cX5_count 72 = .ok (.aload_n 0, 1) := by decide +kernel
theorem dX5_count_73 : decode cX5_count 73 = .ok (.getfield 20, 3) := by decide +kernel
theorem dX5_count_76 : decode cX5_count 76 = .ok (.getfield 284, 3) := by decide +kernel
theorem dX5_count_79 : decode cX5_count 79 = .ok (.ireturn, 1) := by decide +kernel
theorem dX5_count_80 : decode cX5_count 80 = .ok (.aload_n 0, 1) := by decide +kernel
theorem dX5_count_81 : decode cX5_count 81 = .ok (.getfield 61, 3) := by decide +kernel
theorem dX5_count_84 : decode cX5_count 84 = .ok (.getfield 222, 3) := by decide +kernel
theorem dX5_count_87 : decode cX5_count 87 = .ok (.ireturn, 1) := by decide +kernel
theorem dX5_count_88 : decode cX5_count 88 = .ok (.aload_n 0, 1) := by decide +kernel
theorem dX5_count_89 : decode cX5_count 89 = .ok (.getfield 61, 3) := by decide +kernel
theorem dX5_count_92 : decode cX5_count 92 = .ok (.getfield 228, 3) := by decide +kernel
theorem dX5_count_95 : decode cX5_count 95 = .ok (.ireturn, 1) := by decide +kernel
theorem dX5_count_96 : decode cX5_count 96 = .ok (.aload_n 0, 1) := by decide +kernel
theorem dX5_count_97 : decode cX5_count 97 = .ok (.getfield 39, 3) := by decide +kernel
theorem dX5_count_100 : decode cX5_count 100 = .ok (.getfield 159, 3) := by decide +kernel
theorem dX5_count_103 : decode cX5_count 103 = .ok (.ireturn, 1) := by decide +kernel
theorem dX5_count_104 : decode cX5_count 104 = .ok (.aload_n 0, 1) := by decide +kernel
theorem dX5_count_105 : decode cX5_count 105 = .ok (.getfield 13, 3) := by decide +kernel
theorem dX5_count_108 : decode cX5_count 108 = .ok (.ireturn, 1) := by decide +kernel
theorem dX5_count_109 : decode cX5_count 109 = .ok (.iconst (-1), 1) := by decide +kernel
theorem dX5_count_110 : decode cX5_count 110 = .ok (.ireturn, 1) := by decide +kernel
theorem dX5_trace_0 : decode cX5_trace 0 = .ok (.aload_n 0, 1) := by decide +kernel
theorem dX5_trace_1 : decode cX5_trace 1 = .ok (.getfield 65, 3) := by decide +kernel
theorem dX5_trace_4 : decode cX5_trace 4 = .ok (.lreturn, 1) := by decide +kernel
theorem dX5_isWithin_0 : decode cX5_isWithin 0 = .ok (.iload_n 0, 1) := by decide +kernel
theorem dX5_isWithin_1 : decode cX5_isWithin 1 = .ok (.iload_n 1, 1) := by decide +kernel
theorem dX5_isWithin_2 : decode cX5_isWithin 2 = .ok (.if_icmp .lt 12, 3) := by decide +kernel
theorem dX5_isWithin_5 : decode cX5_isWithin 5 = .ok (.iload_n 0, 1) := by decide +kernel
theorem dX5_isWithin_6 : decode cX5_isWithin 6 = .ok (.iload_n 2, 1) := by decide +kernel
theorem dX5_isWithin_7 : decode cX5_isWithin 7 = .ok (.if_icmp .gt 7, 3) := by decide +kernel
theorem dX5_isWithin_10 : decode cX5_isWithin 10 = .ok (.iconst 1, 1) := by decide +kernel
theorem dX5_isWithin_11 : decode cX5_isWithin 11 = .ok (.goto 4, 3) := by decide +kernel
theorem dX5_isWithin_14 : decode cX5_isWithin 14 = .ok (.iconst 0, 1) := by decide +kernel
theorem dX5_isWithin_15 : decode cX5_isWithin 15 = .ok (.ireturn, 1) := by decide +kernel
theorem dX5_isThing_0 : decode cX5_isThing 0 = .ok (.iload_n 0, 1) := by decide +kernel
theorem dX5_isThing_1 : decode cX5_isThing 1 = .ok (.ifCond .lt 12, 3) := by decide +kernel
theorem dX5_isThing_4 : decode cX5_isThing 4 = .ok (.iload_n 0, 1) := by decide +kernel
theorem dX5_isThing_5 : decode cX5_isThing 5 = .ok (.iconst 5, 1) := by decide +kernel
theorem dX5_isThing_6 : decode cX5_isThing 6 = .ok (.if_icmp .ge 7, 3) := by decide +kernel
theorem dX5_isThing_9 : decode cX5_isThing 9 = .ok (.iconst 1, 1) := by decide +kernel
theorem dX5_isThing_10 : decode cX5_isThing 10 = .ok (.goto 4, 3) := by decide +kernel
theorem dX5_isThing_13 : decode cX5_isThing 13 = .ok (.iconst 0, 1) := by decide +kernel
theorem dX5_isThing_14 : decode cX5_isThing 14 = .ok (.ireturn, 1) := by decide +kernel
set_option maxRecDepth 20000 in
theorem ggX5_isSeat_X5_isWithin : GoodIn wsX5_isSeat wsX5_isWithin := goodIn_r _ [4] (by decide +kernel) (by decide +kernel)
set_option maxRecDepth 20000 in
theorem gX5_isSeat_X5_isWithin : GoodIn wsX5_isSeat (va_wsS RX5 69 yX5_isWithin wsX5_isWithin) := goodIn_app (goodIn_of _ (by decide +kernel)) ggX5_isSeat_X5_isWithin
theorem dX5_isSeat_0 : decode cX5_isSeat 0 = .ok (.iload_n 0, 1) := by decide +kernel
theorem dX5_isSeat_1 : decode cX5_isSeat 1 = .ok (.iconst 0, 1) := by decide +kernel
theorem dX5_isSeat_2 : decode cX5_isSeat 2 = .ok (.iconst 4, 1) := by decide +kernel
theorem dX5_isSeat_3 : decode cX5_isSeat 3 = .ok (.invokestatic 69, 3) := by decide +kernel
theorem dX5_isSeat_6 : decode cX5_isSeat 6 = .ok (.ireturn, 1) := by decide +kernel
set_option maxRecDepth 20000 in
theorem ggX5_hasThing_X5_isThing : GoodIn wsX5_hasThing wsX5_isThing := goodIn_r _ [4] (by decide +kernel) (by decide +kernel)
set_option maxRecDepth 20000 in
theorem gX5_hasThing_X5_isThing : GoodIn wsX5_hasThing (va_wsS RX5 181 yX5_isThing wsX5_isThing) := goodIn_app (goodIn_of _ (by decide +kernel)) ggX5_hasThing_X5_isThing
theorem dX5_hasThing_0 : decode cX5_hasThing 0 = .ok (.iload_n 1, 1) := by decide +kernel
theorem dX5_hasThing_1 : decode cX5_hasThing 1 = .ok (.bipush 9, 2) := by decide +kernel
theorem dX5_hasThing_3 : decode cX5_hasThing 3 = .ok (.if_icmp .eq 19, 3) := by decide +kernel
theorem dX5_hasThing_6 : decode cX5_hasThing 6 = .ok (.iload_n 1, 1) := by decide +kernel
theorem dX5_hasThing_7 : decode cX5_hasThing 7 = .ok (.invokestatic 181, 3) := by decide +kernel
theorem dX5_hasThing_10 : decode cX5_hasThing 10 = .ok (.ifCond .eq 16, 3) := by decide +kernel
theorem dX5_hasThing_13 : decode cX5_hasThing 13 = .ok (.iload_n 0, 1) := by decide +kernel
theorem dX5_hasThing_14 : decode cX5_hasThing 14 = .ok (.iload_n 1, 1) := by decide +kernel
theorem dX5_hasThing_15 : decode cX5_hasThing 15 = .ok (.ishr, 1) := by decide +kernel
theorem dX5_hasThing_16 : decode cX5_hasThing 16 = .ok (.iconst 1, 1) := by decide +kernel
theorem dX5_hasThing_17 : decode cX5_hasThing 17 = .ok (.iand, 1) := by decide +kernel
theorem dX5_hasThing_18 : decode cX5_hasThing 18 = .ok (.iconst 1, 1) := by decide +kernel
theorem dX5_hasThing_19 : decode cX5_hasThing 19 = .ok (.if_icmp .ne 7, 3) := by decide +kernel
theorem dX5_hasThing_22 : decode cX5_hasThing 22 = .ok (.iconst 1, 1) := by decide +kernel
theorem dX5_hasThing_23 : decode cX5_hasThing 23 = .ok (.goto 4, 3) := by decide +kernel
theorem dX5_hasThing_26 : decode cX5_hasThing 26 = .ok (.iconst 0, 1) := by decide +kernel
theorem dX5_hasThing_27 : decode cX5_hasThing 27 = .ok (.ireturn, 1) := by decide +kernel
set_option maxRecDepth 20000 in
theorem ggX6_init_X6_clean : GoodIn wsX6_init wsX6_clean := goodIn_r _ [24] (by decide +kernel) (by decide +kernel)
set_option maxRecDepth 20000 in
theorem gX6_init_X6_clean : GoodIn wsX6_init (va_wsS RX6 56 yX6_clean wsX6_clean) := goodIn_app (goodIn_of _ (by decide +kernel)) ggX6_init_X6_clean
