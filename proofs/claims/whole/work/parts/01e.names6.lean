theorem dX6_init_0 : decode cX6_init 0 = .ok (.aload_n 0, 1) := by decide +kernel
theorem dX6_init_1 : decode cX6_init 1 = .ok (.invokespecial 1, 3) := by decide +kernel
theorem dX6_init_4 : decode cX6_init 4 = .ok (.aload_n 0, 1) := by decide +kernel
theorem dX6_init_5 : decode cX6_init 5 = .ok (.bipush 70, 2) := by decide +kernel
theorem dX6_init_7 : decode cX6_init 7 = .ok (.newarray .int, 2) := by decide +kernel
theorem dX6_init_9 : decode cX6_init 9 = .ok (.putfield 7, 3) := by decide +kernel
theorem dX6_init_12 : decode cX6_init 12 = .ok (.aload_n 0, 1) := by decide +kernel
theorem dX6_init_13 : decode cX6_init 13 = .ok (.bipush 70, 2) := by decide +kernel
theorem dX6_init_15 : decode cX6_init 15 = .ok (.newarray .int, 2) := by decide +kernel
theorem dX6_init_17 : decode cX6_init 17 = .ok (.putfield 13, 3) := by decide +kernel
theorem dX6_init_20 : decode cX6_init 20 = .ok (.aload_n 0, 1) := by decide +kernel
theorem dX6_init_21 : decode cX6_init 21 = .ok (.bipush 40, 2) := by decide +kernel
theorem dX6_init_23 : decode cX6_init 23 = .ok (.newarray .int, 2) := by decide +kernel
theorem dX6_init_25 : decode cX6_init 25 = .ok (.putfield 16, 3) := by decide +kernel
theorem dX6_init_28 : decode cX6_init 28 = .ok (.aload_n 0, 1) := by decide +kernel
theorem dX6_init_29 : decode cX6_init 29 = .ok (.bipush 80, 2) := by decide +kernel
theorem dX6_init_31 : decode cX6_init 31 = .ok (.newarray .int, 2) := by decide +kernel
theorem dX6_init_33 : decode cX6_init 33 = .ok (.putfield 19, 3) := by decide +kernel
theorem dX6_init_36 : decode cX6_init 36 = .ok (.aload_n 0, 1) := by decide +kernel
theorem dX6_init_37 : decode cX6_init 37 = .ok (.iconst 2, 1) := by decide +kernel
theorem dX6_init_38 : decode cX6_init 38 = .ok (.newarray .boolean, 2) := by decide +kernel
theorem dX6_init_40 : decode cX6_init 40 = .ok (.putfield 22, 3) := by decide +kernel
theorem dX6_init_43 : decode cX6_init 43 = .ok (.aload_n 0, 1) := by decide +kernel
theorem dX6_init_44 : decode cX6_init 44 = .ok (.sipush 200, 3) := by decide +kernel
theorem dX6_init_47 : decode cX6_init 47 = .ok (.newarray .int, 2) := by decide +kernel
theorem dX6_init_49 : decode cX6_init 49 = .ok (.putfield 26, 3) := by decide +kernel
theorem dX6_init_52 : decode cX6_init 52 = .ok (.aload_n 0, 1) := by decide +kernel
theorem dX6_init_53 : decode cX6_init 53 = .ok (.bipush 12, 2) := by decide +kernel
theorem dX6_init_55 : decode cX6_init 55 = .ok (.newarray .int, 2) := by decide +kernel
theorem dX6_init_57 : decode cX6_init 57 = .ok (.putfield 29, 3) := by decide +kernel
theorem dX6_init_60 : decode cX6_init 60 = .ok (.aload_n 0, 1) := by decide +kernel
theorem dX6_init_61 : decode cX6_init 61 = .ok (.bipush 12, 2) := by decide +kernel
theorem dX6_init_63 : decode cX6_init 63 = .ok (.newarray .int, 2) := by decide +kernel
theorem dX6_init_65 : decode cX6_init 65 = .ok (.putfield 32, 3) := by decide +kernel
theorem dX6_init_68 : decode cX6_init 68 = .ok (.aload_n 0, 1) := by decide +kernel
theorem dX6_init_69 : decode cX6_init 69 = .ok (.sipush 427, 3) := by decide +kernel
theorem dX6_init_72 : decode cX6_init 72 = .ok (.newarray .int, 2) := by decide +kernel
theorem dX6_init_74 : decode cX6_init 74 = .ok (.putfield 35, 3) := by decide +kernel
theorem dX6_init_77 : decode cX6_init 77 = .ok (.aload_n 0, 1) := by decide +kernel
theorem dX6_init_78 : decode cX6_init 78 = .ok (.bipush 100, 2) := by decide +kernel
theorem dX6_init_80 : decode cX6_init 80 = .ok (.newarray .int, 2) := by decide +kernel
theorem dX6_init_82 : decode cX6_init 82 = .ok (.putfield 38, 3) := by decide +kernel
theorem dX6_init_85 : decode cX6_init 85 = .ok (.aload_n 0, 1) := by decide +kernel
theorem dX6_init_86 : decode cX6_init 86 = .ok (.bipush 100, 2) := by decide +kernel
theorem dX6_init_88 : decode cX6_init 88 = .ok (.newarray .int, 2) := by decide +kernel
theorem dX6_init_90 : decode cX6_init 90 = .ok (.putfield 41, 3) := by decide +kernel
theorem dX6_init_93 : decode cX6_init 93 = .ok (.aload_n 0, 1) := by decide +kernel
theorem dX6_init_94 : decode cX6_init 94 = .ok (.bipush 100, 2) := by decide +kernel
theorem dX6_init_96 : decode cX6_init 96 = .ok (.newarray .int, 2) := by decide +kernel
theorem dX6_init_98 : decode cX6_init 98 = .ok (.putfield 44, 3) := by decide +kernel
theorem dX6_init_101 : decode cX6_init 101 = .ok (.aload_n 0, 1) := by decide +kernel
theorem dX6_init_102 : decode cX6_init 102 = .ok (.bipush 7, 2) := by decide +kernel
theorem dX6_init_104 : decode cX6_init 104 = .ok (.newarray .int, 2) := by decide +kernel
theorem dX6_init_106 : decode cX6_init 106 = .ok (.putfield 47, 3) := by decide +kernel
theorem dX6_init_109 : decode cX6_init 109 = .ok (.aload_n 0, 1) := by decide +kernel
theorem dX6_init_110 : decode cX6_init 110 = .ok (.iconst 5, 1) := by decide +kernel
theorem dX6_init_111 : decode cX6_init 111 = .ok (.newarray .int, 2) := by decide +kernel
theorem dX6_init_113 : decode cX6_init 113 = .ok (.putfield 50, 3) := by decide +kernel
theorem dX6_init_116 : decode cX6_init 116 = .ok (.aload_n 0, 1) := by decide +kernel
theorem dX6_init_117 : decode cX6_init 117 = .ok (.bipush 64, 2) := by decide +kernel
theorem dX6_init_119 : decode cX6_init 119 = .ok (.newarray .int, 2) := by decide +kernel
theorem dX6_init_121 : decode cX6_init 121 = .ok (.putfield 53, 3) := by decide +kernel
theorem dX6_init_124 : decode cX6_init 124 = .ok (.aload_n 0, 1) := by decide +kernel
theorem dX6_init_125 : decode cX6_init 125 = .ok (.getfield 7, 3) := by decide +kernel
theorem dX6_init_128 : decode cX6_init 128 = .ok (.invokestatic 56, 3) := by decide +kernel
theorem dX6_init_131 : decode cX6_init 131 = .ok (.return_, 1) := by decide +kernel
theorem dX6_in_0 : decode cX6_in 0 = .ok (.lload_n 0, 1) := by decide +kernel
theorem dX6_in_1 : decode cX6_in 1 = .ok (.lload_n 2, 1) := by decide +kernel
theorem dX6_in_2 : decode cX6_in 2 = .ok (.lcmp, 1) := by decide +kernel
theorem dX6_in_3 : decode cX6_in 3 = .ok (.ifCond .lt 14, 3) := by decide +kernel
theorem dX6_in_6 : decode cX6_in 6 = .ok (.lload_n 0, 1) := by decide +kernel
theorem dX6_in_7 : decode cX6_in 7 = .ok (.lload 4, 2) := by decide +kernel
theorem dX6_in_9 : decode cX6_in 9 = .ok (.lcmp, 1) := by decide +kernel
theorem dX6_in_10 : decode cX6_in 10 = .ok (.ifCond .gt 7, 3) := by decide +kernel
theorem dX6_in_13 : decode cX6_in 13 = .ok (.iconst 1, 1) := by decide +kernel
theorem dX6_in_14 : decode cX6_in 14 = .ok (.goto 4, 3) := by decide +kernel
theorem dX6_in_17 : decode cX6_in 17 = .ok (.iconst 0, 1) := by decide +kernel
theorem dX6_in_18 : decode cX6_in 18 = .ok (.ireturn, 1) := by decide +kernel
set_option maxRecDepth 20000 in
theorem ggX6_isTwo_X6_in : GoodIn wsX6_isTwo wsX6_in := goodIn_r _ [4] (by decide +kernel) (by decide +kernel)
set_option maxRecDepth 20000 in
theorem gX6_isTwo_X6_in : GoodIn wsX6_isTwo (va_wsS RX6 60 yX6_in wsX6_in) := goodIn_app (goodIn_of _ (by decide +kernel)) ggX6_isTwo_X6_in
theorem dX6_isTwo_0 : decode cX6_isTwo 0 = .ok (.iload_n 0, 1) := by decide +kernel
theorem dX6_isTwo_1 : decode cX6_isTwo 1 = .ok (.i2l, 1) := by decide +kernel
theorem dX6_isTwo_2 : decode cX6_isTwo 2 = .ok (.lconst 0, 1) := by decide +kernel
theorem dX6_isTwo_3 : decode cX6_isTwo 3 = .ok (.lconst 1, 1) := by decide +kernel
theorem dX6_isTwo_4 : decode cX6_isTwo 4 = .ok (.invokestatic 60, 3) := by decide +kernel
theorem dX6_isTwo_7 : decode cX6_isTwo 7 = .ok (.ireturn, 1) := by decide +kernel
theorem dX6_holds_0 : decode cX6_holds 0 = .ok (.iload_n 0, 1) := by decide +kernel
theorem dX6_holds_1 : decode cX6_holds 1 = .ok (.iload_n 1, 1) := by decide +kernel
theorem dX6_holds_2 : decode cX6_holds 2 = .ok (.ishr, 1) := by decide +kernel
theorem dX6_holds_3 : decode cX6_holds 3 = .ok (.iconst 1, 1) := by decide +kernel
theorem dX6_holds_4 : decode cX6_holds 4 = .ok (.iand, 1) := by decide +kernel
theorem dX6_holds_5 : decode cX6_holds 5 = .ok (.iconst 1, 1) := by decide +kernel
theorem dX6_holds_6 : decode cX6_holds 6 = .ok (.if_icmp .ne 7, 3) := by decide +kernel
theorem dX6_holds_9 : decode cX6_holds 9 = .ok (.iconst 1, 1) := by decide +kernel
theorem dX6_holds_10 : decode cX6_holds 10 = .ok (.goto 4, 3) := by decide +kernel
theorem dX6_holds_13 : decode cX6_holds 13 = .ok (.iconst 0, 1) := by decide +kernel
theorem dX6_holds_14 : decode cX6_holds 14 = .ok (.ireturn, 1) := by decide +kernel
theorem dX6_bits_0 : decode cX6_bits 0 = .ok (.iconst 0, 1) := by decide +kernel
theorem dX6_bits_1 : decode cX6_bits 1 = .ok (.istore_n 1, 1) := by decide +kernel
theorem dX6_bits_2 : decode cX6_bits 2 = .ok (.iload_n 0, 1) := by decide +kernel
theorem dX6_bits_3 : decode cX6_bits 3 = .ok (.istore_n 2, 1) := by decide +kernel
theorem dX6_bits_4 : decode cX6_bits 4 = .ok (.iload_n 2, 1) := by decide +kernel
theorem dX6_bits_5 : decode cX6_bits 5 = .ok (.ifCond .eq 15, 3) := by decide +kernel
theorem dX6_bits_8 : decode cX6_bits 8 = .ok (.iinc 1 1, 3) := by decide +kernel
theorem dX6_bits_11 : decode cX6_bits 11 = .ok (.iload_n 2, 1) := by decide +kernel
theorem dX6_bits_12 : decode cX6_bits 12 = .ok (.iload_n 2, 1) := by decide +kernel
theorem dX6_bits_13 : decode cX6_bits 13 = .ok (.iconst 1, 1) := by decide +kernel
theorem dX6_bits_14 : decode cX6_bits 14 = .ok (.isub, 1) := by decide +kernel
theorem dX6_bits_15 : decode cX6_bits 15 = .ok (.iand, 1) := by decide +kernel
theorem dX6_bits_16 : decode cX6_bits 16 = .ok (.istore_n 2, 1) := by decide +kernel
theorem dX6_bits_17 : decode cX6_bits 17 = .ok (.goto (-13), 3) := by decide +kernel
theorem dX6_bits_20 : decode cX6_bits 20 = .ok (.iload_n 1, 1) := by decide +kernel
theorem dX6_bits_21 : decode cX6_bits 21 = .ok (.ireturn, 1) := by decide +kernel
theorem dX6_clean_0 : decode cX6_clean 0 = .ok (.iconst 0, 1) := by decide +kernel
theorem dX6_clean_1 : decode cX6_clean 1 = .ok (.istore_n 1, 1) := by decide +kernel
theorem dX6_clean_2 : decode cX6_clean 2 = .ok (.iload_n 1, 1) := by decide +kernel
theorem dX6_clean_3 : decode cX6_clean 3 = .ok (.bipush 70, 2) := by decide +kernel
theorem dX6_clean_5 : decode cX6_clean 5 = .ok (.if_icmp .ge 13, 3) := by decide +kernel
theorem dX6_clean_8 : decode cX6_clean 8 = .ok (.aload_n 0, 1) := by decide +kernel
theorem dX6_clean_9 : decode cX6_clean 9 = .ok (.iload_n 1, 1) := by decide +kernel
theorem dX6_clean_10 : decode cX6_clean 10 = .ok (.iconst 0, 1) := by decide +kernel
theorem dX6_clean_11 : decode cX6_clean 11 = .ok (.iastore, 1) := by decide +kernel
theorem dX6_clean_12 : decode cX6_clean 12 = .ok (.iinc 1 1, 3) := by decide +kernel
theorem dX6_clean_15 : decode cX6_clean 15 = .ok (.goto (-13), 3) := by decide +kernel
theorem dX6_clean_18 : decode cX6_clean 18 = .ok (.iconst 0, 1) := by decide +kernel
theorem dX6_clean_19 : decode cX6_clean 19 = .ok (.istore_n 1, 1) := by decide +kernel
theorem dX6_clean_20 : decode cX6_clean 20 = .ok (.iload_n 1, 1) := by decide +kernel
theorem dX6_clean_21 : decode cX6_clean 21 = .ok (.bipush 7, 2) := by decide +kernel
theorem dX6_clean_23 : decode cX6_clean 23 = .ok (.if_icmp .ge 32, 3) := by decide +kernel
theorem dX6_clean_26 : decode cX6_clean 26 = .ok (.aload_n 0, 1) := by decide +kernel
theorem dX6_clean_27 : decode cX6_clean 27 = .ok (.iconst 4, 1) := by decide +kernel
theorem dX6_clean_28 : decode cX6_clean 28 = .ok (.iload_n 1, 1) := by decide +kernel
theorem dX6_clean_29 : decode cX6_clean 29 = .ok (.iadd, 1) := by decide +kernel
theorem dX6_clean_30 : decode cX6_clean 30 = .ok (.bipush 9, 2) := by decide +kernel
theorem dX6_clean_32 : decode cX6_clean 32 = .ok (.iastore, 1) := by decide +kernel
theorem dX6_clean_33 : decode cX6_clean 33 = .ok (.aload_n 0, 1) := by decide +kernel
theorem dX6_clean_34 : decode cX6_clean 34 = .ok (.bipush 11, 2) := by decide +kernel
theorem dX6_clean_36 : decode cX6_clean 36 = .ok (.iload_n 1, 1) := by decide +kernel
theorem dX6_clean_37 : decode cX6_clean 37 = .ok (.iadd, 1) := by decide +kernel
theorem dX6_clean_38 : decode cX6_clean 38 = .ok (.bipush (-9), 2) := by decide +kernel
theorem dX6_clean_40 : decode cX6_clean 40 = .ok (.iastore, 1) := by decide +kernel
theorem dX6_clean_41 : decode cX6_clean 41 = .ok (.aload_n 0, 1) := by decide +kernel
theorem dX6_clean_42 : decode cX6_clean 42 = .ok (.bipush 18, 2) := by decide +kernel
theorem dX6_clean_44 : decode cX6_clean 44 = .ok (.iload_n 1, 1) := by decide +kernel
theorem dX6_clean_45 : decode cX6_clean 45 = .ok (.iadd, 1) := by decide +kernel
theorem dX6_clean_46 : decode cX6_clean 46 = .ok (.bipush 24, 2) := by decide +kernel
theorem dX6_clean_48 : decode cX6_clean 48 = .ok (.iastore, 1) := by decide +kernel
theorem dX6_clean_49 : decode cX6_clean 49 = .ok (.iinc 1 1, 3) := by decide +kernel
theorem dX6_clean_52 : decode cX6_clean 52 = .ok (.goto (-32), 3) := by decide +kernel
theorem dX6_clean_55 : decode cX6_clean 55 = .ok (.return_, 1) := by decide +kernel
set_option maxRecDepth 20000 in
theorem ggX6_type_X6_in : GoodIn wsX6_type wsX6_in := goodIn_r _ [7] (by decide +kernel) (by decide +kernel)
set_option maxRecDepth 20000 in
theorem gX6_type_X6_in : GoodIn wsX6_type (va_wsS RX6 60 yX6_in wsX6_in) := goodIn_app (goodIn_of _ (by decide +kernel)) ggX6_type_X6_in
theorem dX6_type_0 : decode cX6_type 0 = .ok (.iload_n 1, 1) := by decide +kernel
theorem dX6_type_1 : decode cX6_type 1 = .ok (.i2l, 1) := by decide +kernel
theorem dX6_type_2 : decode cX6_type 2 = .ok (.lconst 0, 1) := by decide +kernel
theorem dX6_type_3 : decode cX6_type 3 = .ok (.ldc2_w 64, 3) := by decide +kernel
theorem dX6_type_6 : decode cX6_type 6 = .ok (.invokestatic 60, 3) := by decide +kernel
theorem dX6_type_9 : decode cX6_type 9 = .ok (.ifCond .ne 5, 3) := by decide +kernel
theorem dX6_type_12 : decode cX6_type 12 = .ok (.iconst (-1), 1) := by decide +kernel
theorem dX6_type_13 : decode cX6_type 13 = .ok (.ireturn, 1) := by decide +kernel
theorem dX6_type_14 : decode cX6_type 14 = .ok (.aload_n 0, 1) := by decide +kernel
theorem dX6_type_15 : decode cX6_type 15 = .ok (.getfield 66, 3) := by decide +kernel
theorem dX6_type_18 : decode cX6_type 18 = .ok (.sipush 200, 3) := by decide +kernel
theorem dX6_type_21 : decode cX6_type 21 = .ok (.if_icmp .ne 6, 3) := by decide +kernel
theorem dX6_type_24 : decode cX6_type 24 = .ok (.bipush (-3), 2) := by decide +kernel
theorem dX6_type_26 : decode cX6_type 26 = .ok (.ireturn, 1) := by decide +kernel
theorem dX6_type_27 : decode cX6_type 27 = .ok (.aload_n 0, 1) := by decide +kernel
theorem dX6_type_28 : decode cX6_type 28 = .ok (.getfield 26, 3) := by decide +kernel
theorem dX6_type_31 : decode cX6_type 31 = .ok (.aload_n 0, 1) := by decide +kernel
theorem dX6_type_32 : decode cX6_type 32 = .ok (.getfield 66, 3) := by decide +kernel
theorem dX6_type_35 : decode cX6_type 35 = .ok (.iload_n 1, 1) := by decide +kernel
theorem dX6_type_36 : decode cX6_type 36 = .ok (.iastore, 1) := by decide +kernel
theorem dX6_type_37 : decode cX6_type 37 = .ok (.aload_n 0, 1) := by decide +kernel
theorem dX6_type_38 : decode cX6_type 38 = .ok (.dup, 1) := by decide +kernel
theorem dX6_type_39 : decode cX6_type 39 = .ok (.getfield 66, 3) := by decide +kernel
theorem dX6_type_42 : decode cX6_type 42 = .ok (.iconst 1, 1) := by decide +kernel
theorem dX6_type_43 : decode cX6_type 43 = .ok (.iadd, 1) := by decide +kernel
theorem dX6_type_44 : decode cX6_type 44 = .ok (.putfield 66, 3) := by decide +kernel
theorem dX6_type_47 : decode cX6_type 47 = .ok (.aload_n 0, 1) := by decide +kernel
theorem dX6_type_48 : decode cX6_type 48 = .ok (.getfield 66, 3) := by decide +kernel
theorem dX6_type_51 : decode cX6_type 51 = .ok (.ireturn, 1) := by decide +kernel
theorem dX6_clear_0 : decode cX6_clear 0 = .ok (.aload_n 0, 1) := by decide +kernel
theorem dX6_clear_1 : decode cX6_clear 1 = .ok (.getfield 66, 3) := by decide +kernel
theorem dX6_clear_4 : decode cX6_clear 4 = .ok (.istore_n 1, 1) := by decide +kernel
theorem dX6_clear_5 : decode cX6_clear 5 = .ok (.aload_n 0, 1) := by decide +kernel
theorem dX6_clear_6 : decode cX6_clear 6 = .ok (.iconst 0, 1) := by decide +kernel
theorem dX6_clear_7 : decode cX6_clear 7 = .ok (.putfield 66, 3) := by decide +kernel
theorem dX6_clear_10 : decode cX6_clear 10 = .ok (.iload_n 1, 1) := by decide +kernel
theorem dX6_clear_11 : decode cX6_clear 11 = .ok (.ireturn, 1) := by decide +kernel
set_option maxRecDepth 20000 in
theorem ggX6_isLetter_X6_in : GoodIn wsX6_isLetter wsX6_in := goodIn_r _ [6] (by decide +kernel) (by decide +kernel)
set_option maxRecDepth 20000 in
theorem gX6_isLetter_X6_in : GoodIn wsX6_isLetter (va_wsS RX6 60 yX6_in wsX6_in) := goodIn_app (goodIn_of _ (by decide +kernel)) ggX6_isLetter_X6_in
theorem dX6_isLetter_0 : decode cX6_isLetter 0 = .ok (.iload_n 0, 1) := by decide +kernel
theorem dX6_isLetter_1 : decode cX6_isLetter 1 = .ok (.i2l, 1) := by decide +kernel
theorem dX6_isLetter_2 : decode cX6_isLetter 2 = .ok (.ldc2_w 70, 3) := by decide +kernel
theorem dX6_isLetter_5 : decode cX6_isLetter 5 = .ok (.ldc2_w 72, 3) := by decide +kernel
theorem dX6_isLetter_8 : decode cX6_isLetter 8 = .ok (.invokestatic 60, 3) := by decide +kernel
theorem dX6_isLetter_11 : decode cX6_isLetter 11 = .ok (.ireturn, 1) := by decide +kernel
set_option maxRecDepth 20000 in
theorem ggX6_isFigure_X6_in : GoodIn wsX6_isFigure wsX6_in := goodIn_r _ [6] (by decide +kernel) (by decide +kernel)
set_option maxRecDepth 20000 in
theorem gX6_isFigure_X6_in : GoodIn wsX6_isFigure (va_wsS RX6 60 yX6_in wsX6_in) := goodIn_app (goodIn_of _ (by decide +kernel)) ggX6_isFigure_X6_in
theorem dX6_isFigure_0 : decode cX6_isFigure 0 = .ok (.iload_n 0, 1) := by decide +kernel
theorem dX6_isFigure_1 : decode cX6_isFigure 1 = .ok (.i2l, 1) := by decide +kernel
theorem dX6_isFigure_2 : decode cX6_isFigure 2 = .ok (.ldc2_w 74, 3) := by decide +kernel
theorem dX6_isFigure_5 : decode cX6_isFigure 5 = .ok (.ldc2_w 76, 3) := by decide +kernel
theorem dX6_isFigure_8 : decode cX6_isFigure 8 = .ok (.invokestatic 60, 3) := by decide +kernel
theorem dX6_isFigure_11 : decode cX6_isFigure 11 = .ok (.ireturn, 1) := by decide +kernel
theorem dX6_here_0 : decode cX6_here 0 = .ok (.aload_n 0, 1) := by decide +kernel
theorem dX6_here_1 : decode cX6_here 1 = .ok (.getfield 78, 3) := by decide +kernel
theorem dX6_here_4 : decode cX6_here 4 = .ok (.aload_n 0, 1) := by decide +kernel
theorem dX6_here_5 : decode cX6_here 5 = .ok (.getfield 66, 3) := by decide +kernel
theorem dX6_here_8 : decode cX6_here 8 = .ok (.if_icmp .ge 15, 3) := by decide +kernel
theorem dX6_here_11 : decode cX6_here 11 = .ok (.aload_n 0, 1) := by decide +kernel
theorem dX6_here_12 : decode cX6_here 12 = .ok (.getfield 26, 3) := by decide +kernel
theorem dX6_here_15 : decode cX6_here 15 = .ok (.aload_n 0, 1) := by decide +kernel
theorem dX6_here_16 : decode cX6_here 16 = .ok (.getfield 78, 3) := by decide +kernel
theorem dX6_here_19 : decode cX6_here 19 = .ok (.iaload, 1) := by decide +kernel
theorem dX6_here_20 : decode cX6_here 20 = .ok (.goto 4, 3) := by decide +kernel
theorem dX6_here_23 : decode cX6_here 23 = .ok (.iconst (-1), 1) := by decide +kernel
theorem dX6_here_24 : decode cX6_here 24 = .ok (.ireturn, 1) := by decide +kernel
set_option maxRecDepth 20000 in
theorem ggX6_next_X6_here : GoodIn wsX6_next wsX6_here := goodIn_r _ [9, 1, 10, 11, 25, 26, 27, 28, 29, 30, 31, 32, 33, 34, 35, 36, 37, 38, 39, 40, 41, 42, 43, 44, 45, 46, 47, 48, 49, 50, 51, 52, 53] (by decide +kernel) (by decide +kernel)
set_option maxRecDepth 20000 in
theorem gX6_next_X6_here : GoodIn wsX6_next (wsV RX6 81 RX6 yX6_here wsX6_here) := goodIn_app (goodIn_of _ (by decide +kernel)) ggX6_next_X6_here
set_option maxRecDepth 20000 in
theorem ggX6_next_X6_isLetter : GoodIn wsX6_next wsX6_isLetter := goodIn_r _ [14, 15, 16, 17, 18, 8, 19] (by decide +kernel) (by decide +kernel)
set_option maxRecDepth 20000 in
theorem gX6_next_X6_isLetter : GoodIn wsX6_next (va_wsS RX6 88 yX6_isLetter wsX6_isLetter) := goodIn_app (goodIn_of _ (by decide +kernel)) ggX6_next_X6_isLetter
set_option maxRecDepth 20000 in
theorem ggX6_next_X6_isFigure : GoodIn wsX6_next wsX6_isFigure := goodIn_r _ [22, 23, 24, 17, 18, 8, 19] (by decide +kernel) (by decide +kernel)
set_option maxRecDepth 20000 in
theorem gX6_next_X6_isFigure : GoodIn wsX6_next (va_wsS RX6 92 yX6_isFigure wsX6_isFigure) := goodIn_app (goodIn_of _ (by decide +kernel)) ggX6_next_X6_isFigure
theorem dX6_next_0 : decode cX6_next 0 = .ok (.aload_n 0, 1) := by decide +kernel
theorem dX6_next_1 : decode cX6_next 1 = .ok (.invokevirtual 81, 3) := by decide +kernel
theorem dX6_next_4 : decode cX6_next 4 = .ok (.bipush 32, 2) := by decide +kernel
theorem dX6_next_6 : decode cX6_next 6 = .ok (.if_icmp .ne 16, 3) := by decide +kernel
theorem dX6_next_9 : decode cX6_next 9 = .ok (.aload_n 0, 1) := by decide +kernel
theorem dX6_next_10 : decode cX6_next 10 = .ok (.dup, 1) := by decide +kernel
theorem dX6_next_11 : decode cX6_next 11 = .ok (.getfield 78, 3) := by decide +kernel
theorem dX6_next_14 : decode cX6_next 14 = .ok (.iconst 1, 1) := by decide +kernel
theorem dX6_next_15 : decode cX6_next 15 = .ok (.iadd, 1) := by decide +kernel
theorem dX6_next_16 : decode cX6_next 16 = .ok (.putfield 78, 3) := by decide +kernel
theorem dX6_next_19 : decode cX6_next 19 = .ok (.goto (-19), 3) := by decide +kernel
theorem dX6_next_22 : decode cX6_next 22 = .ok (.aload_n 0, 1) := by decide +kernel
theorem dX6_next_23 : decode cX6_next 23 = .ok (.aload_n 0, 1) := by decide +kernel
theorem dX6_next_24 : decode cX6_next 24 = .ok (.getfield 78, 3) := by decide +kernel
theorem dX6_next_27 : decode cX6_next 27 = .ok (.putfield 85, 3) := by decide +kernel
theorem dX6_next_30 : decode cX6_next 30 = .ok (.aload_n 0, 1) := by decide +kernel
theorem dX6_next_31 : decode cX6_next 31 = .ok (.invokevirtual 81, 3) := by decide +kernel
theorem dX6_next_34 : decode cX6_next 34 = .ok (.istore_n 1, 1) := by decide +kernel
theorem dX6_next_35 : decode cX6_next 35 = .ok (.aload_n 0, 1) := by decide +kernel
theorem dX6_next_36 : decode cX6_next 36 = .ok (.iload_n 1, 1) := by decide +kernel
theorem dX6_next_37 : decode cX6_next 37 = .ok (.ifCond .ge 7, 3) := by decide +kernel
theorem dX6_next_40 : decode cX6_next 40 = .ok (.iconst 0, 1) := by decide +kernel
theorem dX6_next_41 : decode cX6_next 41 = .ok (.goto 36, 3) := by decide +kernel
theorem dX6_next_44 : decode cX6_next 44 = .ok (.iload_n 1, 1) := by decide +kernel
theorem dX6_next_45 : decode cX6_next 45 = .ok (.invokestatic 88, 3) := by decide +kernel
theorem dX6_next_48 : decode cX6_next 48 = .ok (.ifCond .eq 7, 3) := by decide +kernel
theorem dX6_next_51 : decode cX6_next 51 = .ok (.iconst 1, 1) := by decide +kernel
theorem dX6_next_52 : decode cX6_next 52 = .ok (.goto 25, 3) := by decide +kernel
theorem dX6_next_55 : decode cX6_next 55 = .ok (.iload_n 1, 1) := by decide +kernel
theorem dX6_next_56 : decode cX6_next 56 = .ok (.invokestatic 92, 3) := by decide +kernel
theorem dX6_next_59 : decode cX6_next 59 = .ok (.ifCond .eq 7, 3) := by decide +kernel
theorem dX6_next_62 : decode cX6_next 62 = .ok (.iconst 2, 1) := by decide +kernel
theorem dX6_next_63 : decode cX6_next 63 = .ok (.goto 14, 3) := by decide +kernel
theorem dX6_next_66 : decode cX6_next 66 = .ok (.iload_n 1, 1) := by decide +kernel
theorem dX6_next_67 : decode cX6_next 67 = .ok (.bipush 59, 2) := by decide +kernel
theorem dX6_next_69 : decode cX6_next 69 = .ok (.if_icmp .ne 7, 3) := by decide +kernel
theorem dX6_next_72 : decode cX6_next 72 = .ok (.iconst 3, 1) := by decide +kernel
theorem dX6_next_73 : decode cX6_next 73 = .ok (.goto 4, 3) := by decide +kernel
theorem dX6_next_76 : decode cX6_next 76 = .ok (.iconst 4, 1) := by decide +kernel
theorem dX6_next_77 : decode cX6_next 77 = .ok (.putfield 95, 3) := by decide +kernel
theorem dX6_next_80 : decode cX6_next 80 = .ok (.aload_n 0, 1) := by decide +kernel
theorem dX6_next_81 : decode cX6_next 81 = .ok (.iconst 0, 1) := by decide +kernel
theorem dX6_next_82 : decode cX6_next 82 = .ok (.putfield 98, 3) := by decide +kernel
theorem dX6_next_85 : decode cX6_next 85 = .ok (.aload_n 0, 1) := by decide +kernel
theorem dX6_next_86 : decode cX6_next 86 = .ok (.dup, 1) := by decide +kernel
theorem dX6_next_87 : decode cX6_next 87 = .ok (.getfield 78, 3) := by decide +kernel
theorem dX6_next_90 : decode cX6_next 90 = .ok (.aload_n 0, 1) := by decide +kernel
theorem dX6_next_91 : decode cX6_next 91 = .ok (.getfield 95, 3) := by decide +kernel
theorem dX6_next_94 : decode cX6_next 94 = .ok (.iconst 2, 1) := by decide +kernel
theorem dX6_next_95 : decode cX6_next 95 = .ok (.if_icmp .le 7, 3) := by decide +kernel
theorem dX6_next_98 : decode cX6_next 98 = .ok (.iconst 1, 1) := by decide +kernel
theorem dX6_next_99 : decode cX6_next 99 = .ok (.goto 4, 3) := by decide +kernel
theorem dX6_next_102 : decode cX6_next 102 = .ok (.iconst 0, 1) := by decide +kernel
theorem dX6_next_103 : decode cX6_next 103 = .ok (.iadd, 1) := by decide +kernel
theorem dX6_next_104 : decode cX6_next 104 = .ok (.putfield 78, 3) := by decide +kernel
theorem dX6_next_107 : decode cX6_next 107 = .ok (.aload_n 0, 1) := by decide +kernel
theorem dX6_next_108 : decode cX6_next 108 = .ok (.getfield 95, 3) := by decide +kernel
theorem dX6_next_111 : decode cX6_next 111 = .ok (.iconst 1, 1) := by decide +kernel
theorem dX6_next_112 : decode cX6_next 112 = .ok (.if_icmp .ne 46, 3) := by decide +kernel
theorem dX6_next_115 : decode cX6_next 115 = .ok (.aload_n 0, 1) := by decide +kernel
theorem dX6_next_116 : decode cX6_next 116 = .ok (.invokevirtual 81, 3) := by decide +kernel
theorem dX6_next_119 : decode cX6_next 119 = .ok (.invokestatic 88, 3) := by decide +kernel
theorem dX6_next_122 : decode cX6_next 122 = .ok (.ifCond .eq 36, 3) := by decide +kernel
theorem dX6_next_125 : decode cX6_next 125 = .ok (.aload_n 0, 1) := by decide +kernel
theorem dX6_next_126 : decode cX6_next 126 = .ok (.aload_n 0, 1) := by decide +kernel
theorem dX6_next_127 : decode cX6_next 127 = .ok (.getfield 78, 3) := by decide +kernel
theorem dX6_next_130 : decode cX6_next 130 = .ok (.aload_n 0, 1) := by decide +kernel
theorem dX6_next_131 : decode cX6_next 131 = .ok (.getfield 85, 3) := by decide +kernel
theorem dX6_next_134 : decode cX6_next 134 = .ok (.if_icmp .ne 7, 3) := by decide +kernel
theorem dX6_next_137 : decode cX6_next 137 = .ok (.iload_n 1, 1) := by decide +kernel
theorem dX6_next_138 : decode cX6_next 138 = .ok (.goto 4, 3) := by decide +kernel
theorem dX6_next_141 : decode cX6_next 141 = .ok (.iconst 0, 1) := by decide +kernel
theorem dX6_next_142 : decode cX6_next 142 = .ok (.putfield 98, 3) := by decide +kernel
theorem dX6_next_145 : decode cX6_next 145 = .ok (.aload_n 0, 1) := by decide +kernel
theorem dX6_next_146 : decode cX6_next 146 = .ok (.dup, 1) := by decide +kernel
theorem dX6_next_147 : decode cX6_next 147 = .ok (.getfield 78, 3) := by decide +kernel
theorem dX6_next_150 : decode cX6_next 150 = .ok (.iconst 1, 1) := by decide +kernel
theorem dX6_next_151 : decode cX6_next 151 = .ok (.iadd, 1) := by decide +kernel
theorem dX6_next_152 : decode cX6_next 152 = .ok (.putfield 78, 3) := by decide +kernel
theorem dX6_next_155 : decode cX6_next 155 = .ok (.goto (-48), 3) := by decide +kernel
theorem dX6_next_158 : decode cX6_next 158 = .ok (.aload_n 0, 1) := by decide +kernel
theorem dX6_next_159 : decode cX6_next 159 = .ok (.getfield 95, 3) := by decide +kernel
theorem dX6_next_162 : decode cX6_next 162 = .ok (.iconst 2, 1) := by decide +kernel
theorem dX6_next_163 : decode cX6_next 163 = .ok (.if_icmp .ne 61, 3) := by decide +kernel
theorem dX6_next_166 : decode cX6_next 166 = .ok (.aload_n 0, 1) := by decide +kernel
theorem dX6_next_167 : decode cX6_next 167 = .ok (.invokevirtual 81, 3) := by decide +kernel
theorem dX6_next_170 : decode cX6_next 170 = .ok (.invokestatic 92, 3) := by decide +kernel
theorem dX6_next_173 : decode cX6_next 173 = .ok (.ifCond .eq 51, 3) := by decide +kernel
theorem dX6_next_176 : decode cX6_next 176 = .ok (.aload_n 0, 1) := by decide +kernel
theorem dX6_next_177 : decode cX6_next 177 = .ok (.aload_n 0, 1) := by decide +kernel
theorem dX6_next_178 : decode cX6_next 178 = .ok (.getfield 98, 3) := by decide +kernel
theorem dX6_next_181 : decode cX6_next 181 = .ok (.bipush 99, 2) := by decide +kernel
theorem dX6_next_183 : decode cX6_next 183 = .ok (.if_icmp .le 10, 3) := by decide +kernel
theorem dX6_next_186 : decode cX6_next 186 = .ok (.aload_n 0, 1) := by decide +kernel
theorem dX6_next_187 : decode cX6_next 187 = .ok (.getfield 98, 3) := by decide +kernel
theorem dX6_next_190 : decode cX6_next 190 = .ok (.goto 18, 3) := by decide +kernel
theorem dX6_next_193 : decode cX6_next 193 = .ok (.bipush 10, 2) := by decide +kernel
theorem dX6_next_195 : decode cX6_next 195 = .ok (.aload_n 0, 1) := by decide +kernel
theorem dX6_next_196 : decode cX6_next 196 = .ok (.getfield 98, 3) := by decide +kernel
theorem dX6_next_199 : decode cX6_next 199 = .ok (.imul, 1) := by decide +kernel
theorem dX6_next_200 : decode cX6_next 200 = .ok (.aload_n 0, 1) := by decide +kernel
theorem dX6_next_201 : decode cX6_next 201 = .ok (.invokevirtual 81, 3) := by decide +kernel
theorem dX6_next_204 : decode cX6_next 204 = .ok (.iadd, 1) := by decide +kernel
theorem dX6_next_205 : decode cX6_next 205 = .ok (.bipush 48, 2) := by decide +kernel
theorem dX6_next_207 : decode cX6_next 207 = .ok (.isub, 1) := by decide +kernel
theorem dX6_next_208 : decode cX6_next 208 = .ok (.putfield 98, 3) := by decide +kernel
theorem dX6_next_211 : decode cX6_next 211 = .ok (.aload_n 0, 1) := by decide +kernel
theorem dX6_next_212 : decode cX6_next 212 = .ok (.dup, 1) := by decide +kernel
theorem dX6_next_213 : decode cX6_next 213 = .ok (.getfield 78, 3) := by decide +kernel
theorem dX6_next_216 : decode cX6_next 216 = .ok (.iconst 1, 1) := by decide +kernel
theorem dX6_next_217 : decode cX6_next 217 = .ok (.iadd, 1) := by decide +kernel
theorem dX6_next_218 : decode cX6_next 218 = .ok (.putfield 78, 3) := by decide +kernel
theorem dX6_next_221 : decode cX6_next 221 = .ok (.goto (-63), 3) := by decide +kernel
theorem dX6_next_224 : decode cX6_next 224 = .ok (.aload_n 0, 1) := by decide +kernel
theorem dX6_next_225 : decode cX6_next 225 = .ok (.getfield 95, 3) := by decide +kernel
theorem dX6_next_228 : decode cX6_next 228 = .ok (.iconst 2, 1) := by decide +kernel
theorem dX6_next_229 : decode cX6_next 229 = .ok (.if_icmp .ne 35, 3) := by decide +kernel
theorem dX6_next_232 : decode cX6_next 232 = .ok (.aload_n 0, 1) := by decide +kernel
theorem dX6_next_233 : decode cX6_next 233 = .ok (.getfield 98, 3) := by decide +kernel
theorem dX6_next_236 : decode cX6_next 236 = .ok (.bipush 99, 2) := by decide +kernel
theorem dX6_next_238 : decode cX6_next 238 = .ok (.if_icmp .gt 22, 3) := by decide +kernel
theorem dX6_next_241 : decode cX6_next 241 = .ok (.iload_n 1, 1) := by decide +kernel
theorem dX6_next_242 : decode cX6_next 242 = .ok (.bipush 48, 2) := by decide +kernel
theorem dX6_next_244 : decode cX6_next 244 = .ok (.if_icmp .ne 20, 3) := by decide +kernel
theorem dX6_next_247 : decode cX6_next 247 = .ok (.aload_n 0, 1) := by decide +kernel
theorem dX6_next_248 : decode cX6_next 248 = .ok (.getfield 78, 3) := by decide +kernel
theorem dX6_next_251 : decode cX6_next 251 = .ok (.aload_n 0, 1) := by decide +kernel
theorem dX6_next_252 : decode cX6_next 252 = .ok (.getfield 85, 3) := by decide +kernel
theorem dX6_next_255 : decode cX6_next 255 = .ok (.isub, 1) := by decide +kernel
theorem dX6_next_256 : decode cX6_next 256 = .ok (.iconst 1, 1) := by decide +kernel
theorem dX6_next_257 : decode cX6_next 257 = .ok (.if_icmp .le 7, 3) := by decide +kernel
theorem dX6_next_260 : decode cX6_next 260 = .ok (.iconst 1, 1) := by decide +kernel
theorem dX6_next_261 : decode cX6_next 261 = .ok (.goto 4, 3) := by decide +kernel
theorem dX6_next_264 : decode cX6_next 264 = .ok (.iconst 0, 1) := by decide +kernel
theorem dX6_next_265 : decode cX6_next 265 = .ok (.istore_n 2, 1) := by decide +kernel
theorem dX6_next_266 : decode cX6_next 266 = .ok (.aload_n 0, 1) := by decide +kernel
theorem dX6_next_267 : decode cX6_next 267 = .ok (.iload_n 2, 1) := by decide +kernel
theorem dX6_next_268 : decode cX6_next 268 = .ok (.ifCond .eq 7, 3) := by decide +kernel
theorem dX6_next_271 : decode cX6_next 271 = .ok (.iconst 4, 1) := by decide +kernel
theorem dX6_next_272 : decode cX6_next 272 = .ok (.goto 7, 3) := by decide +kernel
theorem dX6_next_275 : decode cX6_next 275 = .ok (.aload_n 0, 1) := by decide +kernel
theorem dX6_next_276 : decode cX6_next 276 = .ok (.getfield 95, 3) := by decide +kernel
theorem dX6_next_279 : decode cX6_next 279 = .ok (.putfield 95, 3) := by decide +kernel
theorem dX6_next_282 : decode cX6_next 282 = .ok (.return_, 1) := by decide +kernel
set_option maxRecDepth 20000 in
theorem ggX6_number_X6_next : GoodIn wsX6_number wsX6_next := goodIn_r _ [7, 8, 9, 1, 2, 10, 11, 12, 6, 13, 14, 15, 16, 17, 18, 19, 20, 21, 22, 23, 24, 25, 26, 27, 28, 29, 30, 31, 32, 33, 34, 35, 36, 37, 38, 39, 40, 41, 42, 43, 44, 45, 46, 47, 48, 49, 50, 51, 52, 53, 54, 55, 56, 57] (by decide +kernel) (by decide +kernel)
set_option maxRecDepth 20000 in
theorem gX6_number_X6_next : GoodIn wsX6_number (wsV RX6 101 RX6 yX6_next wsX6_next) := goodIn_app (goodIn_of _ (by decide +kernel)) ggX6_number_X6_next
set_option maxRecDepth 20000 in
theorem ggX6_number_X6_in : GoodIn wsX6_number wsX6_in := goodIn_r _ [23] (by decide +kernel) (by decide +kernel)
set_option maxRecDepth 20000 in
theorem gX6_number_X6_in : GoodIn wsX6_number (va_wsS RX6 60 yX6_in wsX6_in) := goodIn_app (goodIn_of _ (by decide +kernel)) ggX6_number_X6_in
theorem dX6_number_0 : decode cX6_number 0 = .ok (.aload_n 0, 1) := by decide +kernel
theorem dX6_number_1 : decode cX6_number 1 = .ok (.invokevirtual 101, 3) := by decide +kernel
theorem dX6_number_4 : decode cX6_number 4 = .ok (.aload_n 0, 1) := by decide +kernel
theorem dX6_number_5 : decode cX6_number 5 = .ok (.getfield 95, 3) := by decide +kernel
theorem dX6_number_8 : decode cX6_number 8 = .ok (.iconst 2, 1) := by decide +kernel
theorem dX6_number_9 : decode cX6_number 9 = .ok (.if_icmp .ne 22, 3) := by decide +kernel
theorem dX6_number_12 : decode cX6_number 12 = .ok (.aload_n 0, 1) := by decide +kernel
theorem dX6_number_13 : decode cX6_number 13 = .ok (.getfield 98, 3) := by decide +kernel
theorem dX6_number_16 : decode cX6_number 16 = .ok (.i2l, 1) := by decide +kernel
theorem dX6_number_17 : decode cX6_number 17 = .ok (.iload_n 1, 1) := by decide +kernel
theorem dX6_number_18 : decode cX6_number 18 = .ok (.i2l, 1) := by decide +kernel
theorem dX6_number_19 : decode cX6_number 19 = .ok (.iload_n 2, 1) := by decide +kernel
theorem dX6_number_20 : decode cX6_number 20 = .ok (.i2l, 1) := by decide +kernel
theorem dX6_number_21 : decode cX6_number 21 = .ok (.invokestatic 60, 3) := by decide +kernel
theorem dX6_number_24 : decode cX6_number 24 = .ok (.ifCond .eq 7, 3) := by decide +kernel
theorem dX6_number_27 : decode cX6_number 27 = .ok (.iconst 1, 1) := by decide +kernel
theorem dX6_number_28 : decode cX6_number 28 = .ok (.goto 4, 3) := by decide +kernel
theorem dX6_number_31 : decode cX6_number 31 = .ok (.iconst 0, 1) := by decide +kernel
theorem dX6_number_32 : decode cX6_number 32 = .ok (.ireturn, 1) := by decide +kernel
set_option maxRecDepth 20000 in
theorem ggX6_takes_X6_number : GoodIn wsX6_takes wsX6_number := goodIn_r _ [7, 8, 2, 9, 10, 11, 6, 12, 13, 14, 15, 16, 17, 18, 19, 20, 21, 22, 23, 24, 25, 26, 27, 28, 29, 30, 31, 32, 33, 34, 35, 36, 37, 38, 39, 40, 41, 42, 43, 44, 45, 46, 47, 48, 49, 50, 51, 52, 53, 54, 55, 56, 57, 58, 59, 60, 61, 62] (by decide +kernel) (by decide +kernel)
set_option maxRecDepth 20000 in
theorem gX6_takes_X6_number : GoodIn wsX6_takes (wsV RX6 104 RX6 yX6_number wsX6_number) := goodIn_app (goodIn_of _ (by decide +kernel)) ggX6_takes_X6_number
theorem dX6_takes_0 : decode cX6_takes 0 = .ok (.aload_n 0, 1) := by decide +kernel
theorem dX6_takes_1 : decode cX6_takes 1 = .ok (.iload_n 1, 1) := by decide +kernel
theorem dX6_takes_2 : decode cX6_takes 2 = .ok (.iload_n 2, 1) := by decide +kernel
theorem dX6_takes_3 : decode cX6_takes 3 = .ok (.invokevirtual 104, 3) := by decide +kernel
theorem dX6_takes_6 : decode cX6_takes 6 = .ok (.istore 4, 2) := by decide +kernel
theorem dX6_takes_8 : decode cX6_takes 8 = .ok (.aload_n 0, 1) := by decide +kernel
theorem dX6_takes_9 : decode cX6_takes 9 = .ok (.getfield 13, 3) := by decide +kernel
theorem dX6_takes_12 : decode cX6_takes 12 = .ok (.iload_n 3, 1) := by decide +kernel
theorem dX6_takes_13 : decode cX6_takes 13 = .ok (.iload 4, 2) := by decide +kernel
theorem dX6_takes_15 : decode cX6_takes 15 = .ok (.ifCond .eq 10, 3) := by decide +kernel
theorem dX6_takes_18 : decode cX6_takes 18 = .ok (.aload_n 0, 1) := by decide +kernel
theorem dX6_takes_19 : decode cX6_takes 19 = .ok (.getfield 98, 3) := by decide +kernel
theorem dX6_takes_22 : decode cX6_takes 22 = .ok (.goto 9, 3) := by decide +kernel
theorem dX6_takes_25 : decode cX6_takes 25 = .ok (.aload_n 0, 1) := by decide +kernel
theorem dX6_takes_26 : decode cX6_takes 26 = .ok (.getfield 13, 3) := by decide +kernel
theorem dX6_takes_29 : decode cX6_takes 29 = .ok (.iload_n 3, 1) := by decide +kernel
theorem dX6_takes_30 : decode cX6_takes 30 = .ok (.iaload, 1) := by decide +kernel
theorem dX6_takes_31 : decode cX6_takes 31 = .ok (.iastore, 1) := by decide +kernel
theorem dX6_takes_32 : decode cX6_takes 32 = .ok (.iload 4, 2) := by decide +kernel
theorem dX6_takes_34 : decode cX6_takes 34 = .ok (.ireturn, 1) := by decide +kernel
set_option maxRecDepth 20000 in
theorem ggX6_ends_X6_next : GoodIn wsX6_ends wsX6_next := goodIn_r _ [6, 7, 8, 1, 9, 10, 11, 12, 5, 13, 14, 15, 16, 17, 18, 19, 20, 21, 22, 23, 24, 25, 26, 27, 28, 29, 30, 31, 32, 33, 34, 35, 36, 37, 38, 39, 40, 41, 42, 43, 44, 45, 46, 47, 48, 49, 50, 51, 52, 53, 54, 55, 56, 57] (by decide +kernel) (by decide +kernel)
set_option maxRecDepth 20000 in
theorem gX6_ends_X6_next : GoodIn wsX6_ends (wsV RX6 101 RX6 yX6_next wsX6_next) := goodIn_app (goodIn_of _ (by decide +kernel)) ggX6_ends_X6_next
theorem dX6_ends_0 : decode cX6_ends 0 = .ok (.aload_n 0, 1) := by decide +kernel
theorem dX6_ends_1 : decode cX6_ends 1 = .ok (.invokevirtual 101, 3) := by decide +kernel
theorem dX6_ends_4 : decode cX6_ends 4 = .ok (.aload_n 0, 1) := by decide +kernel
theorem dX6_ends_5 : decode cX6_ends 5 = .ok (.getfield 95, 3) := by decide +kernel
theorem dX6_ends_8 : decode cX6_ends 8 = .ok (.iconst 3, 1) := by decide +kernel
theorem dX6_ends_9 : decode cX6_ends 9 = .ok (.if_icmp .ne 7, 3) := by decide +kernel
theorem dX6_ends_12 : decode cX6_ends 12 = .ok (.iconst 1, 1) := by decide +kernel
theorem dX6_ends_13 : decode cX6_ends 13 = .ok (.goto 4, 3) := by decide +kernel
theorem dX6_ends_16 : decode cX6_ends 16 = .ok (.iconst 0, 1) := by decide +kernel
theorem dX6_ends_17 : decode cX6_ends 17 = .ok (.ireturn, 1) := by decide +kernel
set_option maxRecDepth 20000 in
theorem ggX6_places_X6_ends : GoodIn wsX6_places wsX6_ends := goodIn_r _ [6, 7, 8, 9, 10, 5, 11, 12, 13, 14, 15, 16, 17, 18, 19, 20, 21, 22, 23, 24, 25, 26, 27, 28, 29, 30, 31, 32, 33, 34, 35, 36, 37, 38, 39, 40, 41, 42, 43, 44, 45, 46, 47, 48, 49, 50, 51, 52, 53, 54, 55, 56, 57, 58, 59, 60, 61, 62] (by decide +kernel) (by decide +kernel)
set_option maxRecDepth 20000 in
theorem gX6_places_X6_ends : GoodIn wsX6_places (wsV RX6 108 RX6 yX6_ends wsX6_ends) := goodIn_app (goodIn_of _ (by decide +kernel)) ggX6_places_X6_ends
theorem dX6_places_0 : decode cX6_places 0 = .ok (.aload_n 0, 1) := by decide +kernel
theorem dX6_places_1 : decode cX6_places 1 = .ok (.getfield 13, 3) := by decide +kernel
theorem dX6_places_4 : decode cX6_places 4 = .ok (.iconst 0, 1) := by decide +kernel
theorem dX6_places_5 : decode cX6_places 5 = .ok (.iaload, 1) := by decide +kernel
theorem dX6_places_6 : decode cX6_places 6 = .ok (.bipush 7, 2) := by decide +kernel
theorem dX6_places_8 : decode cX6_places 8 = .ok (.if_icmp .ne 5, 3) := by decide +kernel
theorem dX6_places_11 : decode cX6_places 11 = .ok (.iconst 0, 1) := by decide +kernel
theorem dX6_places_12 : decode cX6_places 12 = .ok (.ireturn, 1) := by decide +kernel
theorem dX6_places_13 : decode cX6_places 13 = .ok (.aload_n 0, 1) := by decide +kernel
theorem dX6_places_14 : decode cX6_places 14 = .ok (.getfield 13, 3) := by decide +kernel
theorem dX6_places_17 : decode cX6_places 17 = .ok (.iconst 0, 1) := by decide +kernel
theorem dX6_places_18 : decode cX6_places 18 = .ok (.dup2, 1) := by decide +kernel
theorem dX6_places_19 : decode cX6_places 19 = .ok (.iaload, 1) := by decide +kernel
theorem dX6_places_20 : decode cX6_places 20 = .ok (.iconst 1, 1) := by decide +kernel
theorem dX6_places_21 : decode cX6_places 21 = .ok (.iadd, 1) := by decide +kernel
theorem dX6_places_22 : decode cX6_places 22 = .ok (.iastore, 1) := by decide +kernel
theorem dX6_places_23 : decode cX6_places 23 = .ok (.aload_n 0, 1) := by decide +kernel
theorem dX6_places_24 : decode cX6_places 24 = .ok (.invokevirtual 108, 3) := by decide +kernel
theorem dX6_places_27 : decode cX6_places 27 = .ok (.ireturn, 1) := by decide +kernel
set_option maxRecDepth 20000 in
theorem ggX6_roads_X6_takes : GoodIn wsX6_roads wsX6_takes := goodIn_r _ [6, 1, 7, 8, 9, 10, 5, 11, 12, 13, 14, 15, 16, 17, 18, 19, 20, 21, 22, 23, 24, 25, 26, 27, 28, 29, 30, 31, 32, 33, 34, 35, 36, 37, 42, 43, 44, 45, 46, 47, 48, 49, 50, 51, 52, 53, 54, 55, 56, 57, 58, 59, 60, 61, 62, 63, 64, 65, 66, 67, 68, 69, 70] (by decide +kernel) (by decide +kernel)
set_option maxRecDepth 20000 in
theorem gX6_roads_X6_takes : GoodIn wsX6_roads (wsV RX6 112 RX6 yX6_takes wsX6_takes) := goodIn_app (goodIn_of _ (by decide +kernel)) ggX6_roads_X6_takes
set_option maxRecDepth 20000 in
theorem ggX6_roads_X6_ends : GoodIn wsX6_roads wsX6_ends := goodIn_r _ [41, 12, 13, 14, 15, 5, 16, 17, 18, 7, 19, 20, 21, 22, 23, 24, 25, 26, 27, 28, 29, 30, 31, 32, 33, 34, 35, 36, 37, 42, 43, 44, 45, 46, 47, 48, 49, 50, 51, 52, 53, 54, 55, 56, 57, 58, 59, 60, 61, 62, 63, 64, 65, 66, 67, 68, 69, 70] (by decide +kernel) (by decide +kernel)
set_option maxRecDepth 20000 in
theorem gX6_roads_X6_ends : GoodIn wsX6_roads (wsV RX6 108 RX6 yX6_ends wsX6_ends) := goodIn_app (goodIn_of _ (by decide +kernel)) ggX6_roads_X6_ends
theorem dX6_roads_0 : decode cX6_roads 0 = .ok (.aload_n 0, 1) := by decide +kernel
theorem dX6_roads_1 : decode cX6_roads 1 = .ok (.getfield 13, 3) := by decide +kernel
theorem dX6_roads_4 : decode cX6_roads 4 = .ok (.iconst 1, 1) := by decide +kernel
theorem dX6_roads_5 : decode cX6_roads 5 = .ok (.iaload, 1) := by decide +kernel
theorem dX6_roads_6 : decode cX6_roads 6 = .ok (.istore_n 1, 1) := by decide +kernel
theorem dX6_roads_7 : decode cX6_roads 7 = .ok (.aload_n 0, 1) := by decide +kernel
theorem dX6_roads_8 : decode cX6_roads 8 = .ok (.getfield 13, 3) := by decide +kernel
theorem dX6_roads_11 : decode cX6_roads 11 = .ok (.iconst 0, 1) := by decide +kernel
theorem dX6_roads_12 : decode cX6_roads 12 = .ok (.iaload, 1) := by decide +kernel
theorem dX6_roads_13 : decode cX6_roads 13 = .ok (.iconst 1, 1) := by decide +kernel
theorem dX6_roads_14 : decode cX6_roads 14 = .ok (.isub, 1) := by decide +kernel
theorem dX6_roads_15 : decode cX6_roads 15 = .ok (.istore_n 2, 1) := by decide +kernel
theorem dX6_roads_16 : decode cX6_roads 16 = .ok (.iload_n 1, 1) := by decide +kernel
theorem dX6_roads_17 : decode cX6_roads 17 = .ok (.bipush 9, 2) := by decide +kernel
theorem dX6_roads_19 : decode cX6_roads 19 = .ok (.if_icmp .eq 64, 3) := by decide +kernel
theorem dX6_roads_22 : decode cX6_roads 22 = .ok (.aload_n 0, 1) := by decide +kernel
theorem dX6_roads_23 : decode cX6_roads 23 = .ok (.iconst 0, 1) := by decide +kernel
theorem dX6_roads_24 : decode cX6_roads 24 = .ok (.iload_n 2, 1) := by decide +kernel
theorem dX6_roads_25 : decode cX6_roads 25 = .ok (.bipush 25, 2) := by decide +kernel
theorem dX6_roads_27 : decode cX6_roads 27 = .ok (.iload_n 1, 1) := by decide +kernel
theorem dX6_roads_28 : decode cX6_roads 28 = .ok (.iadd, 1) := by decide +kernel
theorem dX6_roads_29 : decode cX6_roads 29 = .ok (.invokevirtual 112, 3) := by decide +kernel
theorem dX6_roads_32 : decode cX6_roads 32 = .ok (.ifCond .eq 51, 3) := by decide +kernel
theorem dX6_roads_35 : decode cX6_roads 35 = .ok (.aload_n 0, 1) := by decide +kernel
theorem dX6_roads_36 : decode cX6_roads 36 = .ok (.iconst 0, 1) := by decide +kernel
theorem dX6_roads_37 : decode cX6_roads 37 = .ok (.iload_n 2, 1) := by decide +kernel
theorem dX6_roads_38 : decode cX6_roads 38 = .ok (.bipush 34, 2) := by decide +kernel
theorem dX6_roads_40 : decode cX6_roads 40 = .ok (.iload_n 1, 1) := by decide +kernel
theorem dX6_roads_41 : decode cX6_roads 41 = .ok (.iadd, 1) := by decide +kernel
theorem dX6_roads_42 : decode cX6_roads 42 = .ok (.invokevirtual 112, 3) := by decide +kernel
theorem dX6_roads_45 : decode cX6_roads 45 = .ok (.ifCond .eq 38, 3) := by decide +kernel
theorem dX6_roads_48 : decode cX6_roads 48 = .ok (.aload_n 0, 1) := by decide +kernel
theorem dX6_roads_49 : decode cX6_roads 49 = .ok (.getfield 13, 3) := by decide +kernel
theorem dX6_roads_52 : decode cX6_roads 52 = .ok (.bipush 25, 2) := by decide +kernel
theorem dX6_roads_54 : decode cX6_roads 54 = .ok (.iload_n 1, 1) := by decide +kernel
theorem dX6_roads_55 : decode cX6_roads 55 = .ok (.iadd, 1) := by decide +kernel
theorem dX6_roads_56 : decode cX6_roads 56 = .ok (.iaload, 1) := by decide +kernel
theorem dX6_roads_57 : decode cX6_roads 57 = .ok (.aload_n 0, 1) := by decide +kernel
theorem dX6_roads_58 : decode cX6_roads 58 = .ok (.getfield 13, 3) := by decide +kernel
theorem dX6_roads_61 : decode cX6_roads 61 = .ok (.bipush 34, 2) := by decide +kernel
theorem dX6_roads_63 : decode cX6_roads 63 = .ok (.iload_n 1, 1) := by decide +kernel
theorem dX6_roads_64 : decode cX6_roads 64 = .ok (.iadd, 1) := by decide +kernel
theorem dX6_roads_65 : decode cX6_roads 65 = .ok (.iaload, 1) := by decide +kernel
theorem dX6_roads_66 : decode cX6_roads 66 = .ok (.if_icmp .eq 17, 3) := by decide +kernel
theorem dX6_roads_69 : decode cX6_roads 69 = .ok (.aload_n 0, 1) := by decide +kernel
theorem dX6_roads_70 : decode cX6_roads 70 = .ok (.iconst 1, 1) := by decide +kernel
theorem dX6_roads_71 : decode cX6_roads 71 = .ok (.bipush 9, 2) := by decide +kernel
theorem dX6_roads_73 : decode cX6_roads 73 = .ok (.bipush 43, 2) := by decide +kernel
theorem dX6_roads_75 : decode cX6_roads 75 = .ok (.iload_n 1, 1) := by decide +kernel
theorem dX6_roads_76 : decode cX6_roads 76 = .ok (.iadd, 1) := by decide +kernel
theorem dX6_roads_77 : decode cX6_roads 77 = .ok (.invokevirtual 112, 3) := by decide +kernel
theorem dX6_roads_80 : decode cX6_roads 80 = .ok (.ifCond .ne 5, 3) := by decide +kernel
theorem dX6_roads_83 : decode cX6_roads 83 = .ok (.iconst 0, 1) := by decide +kernel
theorem dX6_roads_84 : decode cX6_roads 84 = .ok (.ireturn, 1) := by decide +kernel
theorem dX6_roads_85 : decode cX6_roads 85 = .ok (.aload_n 0, 1) := by decide +kernel
theorem dX6_roads_86 : decode cX6_roads 86 = .ok (.getfield 13, 3) := by decide +kernel
theorem dX6_roads_89 : decode cX6_roads 89 = .ok (.iconst 1, 1) := by decide +kernel
theorem dX6_roads_90 : decode cX6_roads 90 = .ok (.dup2, 1) := by decide +kernel
theorem dX6_roads_91 : decode cX6_roads 91 = .ok (.iaload, 1) := by decide +kernel
theorem dX6_roads_92 : decode cX6_roads 92 = .ok (.iconst 1, 1) := by decide +kernel
theorem dX6_roads_93 : decode cX6_roads 93 = .ok (.iadd, 1) := by decide +kernel
theorem dX6_roads_94 : decode cX6_roads 94 = .ok (.iastore, 1) := by decide +kernel
theorem dX6_roads_95 : decode cX6_roads 95 = .ok (.aload_n 0, 1) := by decide +kernel
theorem dX6_roads_96 : decode cX6_roads 96 = .ok (.invokevirtual 108, 3) := by decide +kernel
theorem dX6_roads_99 : decode cX6_roads 99 = .ok (.ireturn, 1) := by decide +kernel
set_option maxRecDepth 20000 in
theorem ggX6_hosts_X6_takes : GoodIn wsX6_hosts wsX6_takes := goodIn_r _ [9, 1, 2, 10, 11, 12, 8, 13, 14, 15, 16, 17, 18, 19, 20, 21, 22, 23, 24, 25, 26, 27, 28, 29, 30, 31, 32, 33, 34, 35, 36, 37, 38, 39, 44, 45, 46, 47, 48, 49, 50, 51, 52, 53, 54, 55, 56, 57, 58, 59, 60, 61, 62, 63, 64, 65, 66, 67, 68, 69, 70, 71, 72] (by decide +kernel) (by decide +kernel)
set_option maxRecDepth 20000 in
theorem gX6_hosts_X6_takes : GoodIn wsX6_hosts (wsV RX6 112 RX6 yX6_takes wsX6_takes) := goodIn_app (goodIn_of _ (by decide +kernel)) ggX6_hosts_X6_takes
set_option maxRecDepth 20000 in
theorem ggX6_hosts_X6_in : GoodIn wsX6_hosts wsX6_in := goodIn_r _ [34] (by decide +kernel) (by decide +kernel)
set_option maxRecDepth 20000 in
theorem gX6_hosts_X6_in : GoodIn wsX6_hosts (va_wsS RX6 60 yX6_in wsX6_in) := goodIn_app (goodIn_of _ (by decide +kernel)) ggX6_hosts_X6_in
set_option maxRecDepth 20000 in
theorem ggX6_hosts_X6_ends : GoodIn wsX6_hosts wsX6_ends := goodIn_r _ [43, 14, 15, 16, 17, 8, 18, 19, 20, 2, 21, 22, 23, 24, 25, 26, 27, 28, 29, 30, 31, 32, 33, 34, 35, 36, 37, 38, 39, 44, 45, 46, 47, 48, 49, 50, 51, 52, 53, 54, 55, 56, 57, 58, 59, 60, 61, 62, 63, 64, 65, 66, 67, 68, 69, 70, 71, 72] (by decide +kernel) (by decide +kernel)
set_option maxRecDepth 20000 in
theorem gX6_hosts_X6_ends : GoodIn wsX6_hosts (wsV RX6 108 RX6 yX6_ends wsX6_ends) := goodIn_app (goodIn_of _ (by decide +kernel)) ggX6_hosts_X6_ends
theorem dX6_hosts_0 : decode cX6_hosts 0 = .ok (.aload_n 0, 1) := by decide +kernel
theorem dX6_hosts_1 : decode cX6_hosts 1 = .ok (.getfield 13, 3) := by decide +kernel
theorem dX6_hosts_4 : decode cX6_hosts 4 = .ok (.iconst 2, 1) := by decide +kernel
theorem dX6_hosts_5 : decode cX6_hosts 5 = .ok (.iaload, 1) := by decide +kernel
theorem dX6_hosts_6 : decode cX6_hosts 6 = .ok (.istore_n 1, 1) := by decide +kernel
theorem dX6_hosts_7 : decode cX6_hosts 7 = .ok (.iload_n 1, 1) := by decide +kernel
theorem dX6_hosts_8 : decode cX6_hosts 8 = .ok (.bipush 6, 2) := by decide +kernel
theorem dX6_hosts_10 : decode cX6_hosts 10 = .ok (.if_icmp .eq 67, 3) := by decide +kernel
theorem dX6_hosts_13 : decode cX6_hosts 13 = .ok (.aload_n 0, 1) := by decide +kernel
theorem dX6_hosts_14 : decode cX6_hosts 14 = .ok (.iconst 0, 1) := by decide +kernel
theorem dX6_hosts_15 : decode cX6_hosts 15 = .ok (.aload_n 0, 1) := by decide +kernel
theorem dX6_hosts_16 : decode cX6_hosts 16 = .ok (.getfield 13, 3) := by decide +kernel
theorem dX6_hosts_19 : decode cX6_hosts 19 = .ok (.iconst 0, 1) := by decide +kernel
theorem dX6_hosts_20 : decode cX6_hosts 20 = .ok (.iaload, 1) := by decide +kernel
theorem dX6_hosts_21 : decode cX6_hosts 21 = .ok (.iconst 1, 1) := by decide +kernel
theorem dX6_hosts_22 : decode cX6_hosts 22 = .ok (.isub, 1) := by decide +kernel
theorem dX6_hosts_23 : decode cX6_hosts 23 = .ok (.bipush 52, 2) := by decide +kernel
theorem dX6_hosts_25 : decode cX6_hosts 25 = .ok (.iload_n 1, 1) := by decide +kernel
theorem dX6_hosts_26 : decode cX6_hosts 26 = .ok (.iadd, 1) := by decide +kernel
theorem dX6_hosts_27 : decode cX6_hosts 27 = .ok (.invokevirtual 112, 3) := by decide +kernel
theorem dX6_hosts_30 : decode cX6_hosts 30 = .ok (.ifCond .eq 47, 3) := by decide +kernel
theorem dX6_hosts_33 : decode cX6_hosts 33 = .ok (.aload_n 0, 1) := by decide +kernel
theorem dX6_hosts_34 : decode cX6_hosts 34 = .ok (.iconst 0, 1) := by decide +kernel
theorem dX6_hosts_35 : decode cX6_hosts 35 = .ok (.iconst 4, 1) := by decide +kernel
theorem dX6_hosts_36 : decode cX6_hosts 36 = .ok (.bipush 58, 2) := by decide +kernel
theorem dX6_hosts_38 : decode cX6_hosts 38 = .ok (.iload_n 1, 1) := by decide +kernel
theorem dX6_hosts_39 : decode cX6_hosts 39 = .ok (.iadd, 1) := by decide +kernel
theorem dX6_hosts_40 : decode cX6_hosts 40 = .ok (.invokevirtual 112, 3) := by decide +kernel
theorem dX6_hosts_43 : decode cX6_hosts 43 = .ok (.ifCond .eq 34, 3) := by decide +kernel
theorem dX6_hosts_46 : decode cX6_hosts 46 = .ok (.aload_n 0, 1) := by decide +kernel
theorem dX6_hosts_47 : decode cX6_hosts 47 = .ok (.iconst 0, 1) := by decide +kernel
theorem dX6_hosts_48 : decode cX6_hosts 48 = .ok (.bipush 9, 2) := by decide +kernel
theorem dX6_hosts_50 : decode cX6_hosts 50 = .ok (.bipush 64, 2) := by decide +kernel
theorem dX6_hosts_52 : decode cX6_hosts 52 = .ok (.iload_n 1, 1) := by decide +kernel
theorem dX6_hosts_53 : decode cX6_hosts 53 = .ok (.iadd, 1) := by decide +kernel
theorem dX6_hosts_54 : decode cX6_hosts 54 = .ok (.invokevirtual 112, 3) := by decide +kernel
theorem dX6_hosts_57 : decode cX6_hosts 57 = .ok (.ifCond .eq 20, 3) := by decide +kernel
theorem dX6_hosts_60 : decode cX6_hosts 60 = .ok (.aload_n 0, 1) := by decide +kernel
theorem dX6_hosts_61 : decode cX6_hosts 61 = .ok (.getfield 98, 3) := by decide +kernel
theorem dX6_hosts_64 : decode cX6_hosts 64 = .ok (.i2l, 1) := by decide +kernel
theorem dX6_hosts_65 : decode cX6_hosts 65 = .ok (.ldc2_w 116, 3) := by decide +kernel
theorem dX6_hosts_68 : decode cX6_hosts 68 = .ok (.ldc2_w 118, 3) := by decide +kernel
theorem dX6_hosts_71 : decode cX6_hosts 71 = .ok (.invokestatic 60, 3) := by decide +kernel
theorem dX6_hosts_74 : decode cX6_hosts 74 = .ok (.ifCond .eq 5, 3) := by decide +kernel
theorem dX6_hosts_77 : decode cX6_hosts 77 = .ok (.iconst 0, 1) := by decide +kernel
theorem dX6_hosts_78 : decode cX6_hosts 78 = .ok (.ireturn, 1) := by decide +kernel
theorem dX6_hosts_79 : decode cX6_hosts 79 = .ok (.aload_n 0, 1) := by decide +kernel
theorem dX6_hosts_80 : decode cX6_hosts 80 = .ok (.getfield 13, 3) := by decide +kernel
theorem dX6_hosts_83 : decode cX6_hosts 83 = .ok (.iconst 2, 1) := by decide +kernel
theorem dX6_hosts_84 : decode cX6_hosts 84 = .ok (.dup2, 1) := by decide +kernel
theorem dX6_hosts_85 : decode cX6_hosts 85 = .ok (.iaload, 1) := by decide +kernel
theorem dX6_hosts_86 : decode cX6_hosts 86 = .ok (.iconst 1, 1) := by decide +kernel
theorem dX6_hosts_87 : decode cX6_hosts 87 = .ok (.iadd, 1) := by decide +kernel
theorem dX6_hosts_88 : decode cX6_hosts 88 = .ok (.iastore, 1) := by decide +kernel
theorem dX6_hosts_89 : decode cX6_hosts 89 = .ok (.aload_n 0, 1) := by decide +kernel
theorem dX6_hosts_90 : decode cX6_hosts 90 = .ok (.invokevirtual 108, 3) := by decide +kernel
theorem dX6_hosts_93 : decode cX6_hosts 93 = .ok (.ireturn, 1) := by decide +kernel
set_option maxRecDepth 20000 in
theorem ggX6_lion_X6_number : GoodIn wsX6_lion wsX6_number := goodIn_r _ [7, 8, 2, 9, 10, 11, 6, 12, 13, 14, 15, 16, 17, 18, 19, 20, 21, 22, 23, 24, 25, 26, 27, 28, 29, 30, 31, 32, 33, 42, 43, 44, 45, 46, 47, 48, 49, 50, 51, 52, 53, 54, 55, 56, 57, 58, 59, 60, 61, 62, 63, 64, 65, 66, 67, 68, 69, 70] (by decide +kernel) (by decide +kernel)
set_option maxRecDepth 20000 in
theorem gX6_lion_X6_number : GoodIn wsX6_lion (wsV RX6 104 RX6 yX6_number wsX6_number) := goodIn_app (goodIn_of _ (by decide +kernel)) ggX6_lion_X6_number
set_option maxRecDepth 20000 in
theorem ggX6_lion_X6_takes : GoodIn wsX6_lion wsX6_takes := goodIn_r _ [37, 1, 2, 3, 4, 5, 6, 7, 8, 9, 10, 11, 12, 13, 14, 15, 16, 17, 18, 19, 20, 21, 22, 23, 24, 25, 26, 27, 28, 29, 30, 31, 32, 33, 42, 43, 44, 45, 46, 47, 48, 49, 50, 51, 52, 53, 54, 55, 56, 57, 58, 59, 60, 61, 62, 63, 64, 65, 66, 67, 68, 69, 70] (by decide +kernel) (by decide +kernel)
set_option maxRecDepth 20000 in
theorem gX6_lion_X6_takes : GoodIn wsX6_lion (wsV RX6 112 RX6 yX6_takes wsX6_takes) := goodIn_app (goodIn_of _ (by decide +kernel)) ggX6_lion_X6_takes
set_option maxRecDepth 20000 in
theorem ggX6_lion_X6_ends : GoodIn wsX6_lion wsX6_ends := goodIn_r _ [41, 8, 9, 10, 11, 6, 12, 13, 14, 2, 15, 16, 17, 18, 19, 20, 21, 22, 23, 24, 25, 26, 27, 28, 29, 30, 31, 32, 33, 42, 43, 44, 45, 46, 47, 48, 49, 50, 51, 52, 53, 54, 55, 56, 57, 58, 59, 60, 61, 62, 63, 64, 65, 66, 67, 68, 69, 70] (by decide +kernel) (by decide +kernel)
set_option maxRecDepth 20000 in
theorem gX6_lion_X6_ends : GoodIn wsX6_lion (wsV RX6 108 RX6 yX6_ends wsX6_ends) := goodIn_app (goodIn_of _ (by decide +kernel)) ggX6_lion_X6_ends
theorem dX6_lion_0 : decode cX6_lion 0 = .ok (.aload_n 0, 1) := by decide +kernel
theorem dX6_lion_1 : decode cX6_lion 1 = .ok (.iconst 1, 1) := by decide +kernel
theorem dX6_lion_2 : decode cX6_lion 2 = .ok (.aload_n 0, 1) := by decide +kernel
theorem dX6_lion_3 : decode cX6_lion 3 = .ok (.getfield 13, 3) := by decide +kernel
theorem dX6_lion_6 : decode cX6_lion 6 = .ok (.iconst 0, 1) := by decide +kernel
theorem dX6_lion_7 : decode cX6_lion 7 = .ok (.iaload, 1) := by decide +kernel
theorem dX6_lion_8 : decode cX6_lion 8 = .ok (.iconst 1, 1) := by decide +kernel
theorem dX6_lion_9 : decode cX6_lion 9 = .ok (.isub, 1) := by decide +kernel
theorem dX6_lion_10 : decode cX6_lion 10 = .ok (.invokevirtual 104, 3) := by decide +kernel
theorem dX6_lion_13 : decode cX6_lion 13 = .ok (.ifCond .eq 19, 3) := by decide +kernel
theorem dX6_lion_16 : decode cX6_lion 16 = .ok (.aload_n 0, 1) := by decide +kernel
theorem dX6_lion_17 : decode cX6_lion 17 = .ok (.getfield 13, 3) := by decide +kernel
theorem dX6_lion_20 : decode cX6_lion 20 = .ok (.iconst 4, 1) := by decide +kernel
theorem dX6_lion_21 : decode cX6_lion 21 = .ok (.aload_n 0, 1) := by decide +kernel
theorem dX6_lion_22 : decode cX6_lion 22 = .ok (.getfield 98, 3) := by decide +kernel
theorem dX6_lion_25 : decode cX6_lion 25 = .ok (.iadd, 1) := by decide +kernel
theorem dX6_lion_26 : decode cX6_lion 26 = .ok (.iaload, 1) := by decide +kernel
theorem dX6_lion_27 : decode cX6_lion 27 = .ok (.bipush 9, 2) := by decide +kernel
theorem dX6_lion_29 : decode cX6_lion 29 = .ok (.if_icmp .eq 5, 3) := by decide +kernel
theorem dX6_lion_32 : decode cX6_lion 32 = .ok (.iconst 0, 1) := by decide +kernel
theorem dX6_lion_33 : decode cX6_lion 33 = .ok (.ireturn, 1) := by decide +kernel
theorem dX6_lion_34 : decode cX6_lion 34 = .ok (.aload_n 0, 1) := by decide +kernel
theorem dX6_lion_35 : decode cX6_lion 35 = .ok (.iconst 0, 1) := by decide +kernel
theorem dX6_lion_36 : decode cX6_lion 36 = .ok (.iconst 4, 1) := by decide +kernel
theorem dX6_lion_37 : decode cX6_lion 37 = .ok (.iconst 4, 1) := by decide +kernel
theorem dX6_lion_38 : decode cX6_lion 38 = .ok (.aload_n 0, 1) := by decide +kernel
theorem dX6_lion_39 : decode cX6_lion 39 = .ok (.getfield 98, 3) := by decide +kernel
theorem dX6_lion_42 : decode cX6_lion 42 = .ok (.iadd, 1) := by decide +kernel
theorem dX6_lion_43 : decode cX6_lion 43 = .ok (.invokevirtual 112, 3) := by decide +kernel
theorem dX6_lion_46 : decode cX6_lion 46 = .ok (.ifCond .eq 14, 3) := by decide +kernel
theorem dX6_lion_49 : decode cX6_lion 49 = .ok (.aload_n 0, 1) := by decide +kernel
theorem dX6_lion_50 : decode cX6_lion 50 = .ok (.invokevirtual 108, 3) := by decide +kernel
theorem dX6_lion_53 : decode cX6_lion 53 = .ok (.ifCond .eq 7, 3) := by decide +kernel
theorem dX6_lion_56 : decode cX6_lion 56 = .ok (.iconst 1, 1) := by decide +kernel
theorem dX6_lion_57 : decode cX6_lion 57 = .ok (.goto 4, 3) := by decide +kernel
theorem dX6_lion_60 : decode cX6_lion 60 = .ok (.iconst 0, 1) := by decide +kernel
theorem dX6_lion_61 : decode cX6_lion 61 = .ok (.ireturn, 1) := by decide +kernel
set_option maxRecDepth 20000 in
theorem ggX6_gate_X6_number : GoodIn wsX6_gate wsX6_number := goodIn_r _ [7, 8, 2, 9, 10, 11, 6, 12, 13, 14, 15, 16, 17, 18, 19, 20, 21, 22, 23, 24, 25, 26, 27, 28, 29, 30, 31, 32, 33, 42, 43, 44, 45, 46, 47, 48, 49, 50, 51, 52, 53, 54, 55, 56, 57, 58, 59, 60, 61, 62, 63, 64, 65, 66, 67, 68, 69, 70] (by decide +kernel) (by decide +kernel)
set_option maxRecDepth 20000 in
theorem gX6_gate_X6_number : GoodIn wsX6_gate (wsV RX6 104 RX6 yX6_number wsX6_number) := goodIn_app (goodIn_of _ (by decide +kernel)) ggX6_gate_X6_number
set_option maxRecDepth 20000 in
theorem ggX6_gate_X6_takes : GoodIn wsX6_gate wsX6_takes := goodIn_r _ [37, 1, 2, 3, 4, 5, 6, 7, 8, 9, 10, 11, 12, 13, 14, 15, 16, 17, 18, 19, 20, 21, 22, 23, 24, 25, 26, 27, 28, 29, 30, 31, 32, 33, 42, 43, 44, 45, 46, 47, 48, 49, 50, 51, 52, 53, 54, 55, 56, 57, 58, 59, 60, 61, 62, 63, 64, 65, 66, 67, 68, 69, 70] (by decide +kernel) (by decide +kernel)
set_option maxRecDepth 20000 in
theorem gX6_gate_X6_takes : GoodIn wsX6_gate (wsV RX6 112 RX6 yX6_takes wsX6_takes) := goodIn_app (goodIn_of _ (by decide +kernel)) ggX6_gate_X6_takes
set_option maxRecDepth 20000 in
theorem ggX6_gate_X6_ends : GoodIn wsX6_gate wsX6_ends := goodIn_r _ [41, 8, 9, 10, 11, 6, 12, 13, 14, 2, 15, 16, 17, 18, 19, 20, 21, 22, 23, 24, 25, 26, 27, 28, 29, 30, 31, 32, 33, 42, 43, 44, 45, 46, 47, 48, 49, 50, 51, 52, 53, 54, 55, 56, 57, 58, 59, 60, 61, 62, 63, 64, 65, 66, 67, 68, 69, 70] (by decide +kernel) (by decide +kernel)
set_option maxRecDepth 20000 in
theorem gX6_gate_X6_ends : GoodIn wsX6_gate (wsV RX6 108 RX6 yX6_ends wsX6_ends) := goodIn_app (goodIn_of _ (by decide +kernel)) ggX6_gate_X6_ends
theorem dX6_gate_0 : decode cX6_gate 0 = .ok (.aload_n 0, 1) := by decide +kernel
theorem dX6_gate_1 : decode cX6_gate 1 = .ok (.iconst 1, 1) := by decide +kernel
theorem dX6_gate_2 : decode cX6_gate 2 = .ok (.aload_n 0, 1) := by decide +kernel
theorem dX6_gate_3 : decode cX6_gate 3 = .ok (.getfield 13, 3) := by decide +kernel
theorem dX6_gate_6 : decode cX6_gate 6 = .ok (.iconst 0, 1) := by decide +kernel
theorem dX6_gate_7 : decode cX6_gate 7 = .ok (.iaload, 1) := by decide +kernel
theorem dX6_gate_8 : decode cX6_gate 8 = .ok (.iconst 1, 1) := by decide +kernel
theorem dX6_gate_9 : decode cX6_gate 9 = .ok (.isub, 1) := by decide +kernel
theorem dX6_gate_10 : decode cX6_gate 10 = .ok (.invokevirtual 104, 3) := by decide +kernel
theorem dX6_gate_13 : decode cX6_gate 13 = .ok (.ifCond .eq 20, 3) := by decide +kernel
theorem dX6_gate_16 : decode cX6_gate 16 = .ok (.aload_n 0, 1) := by decide +kernel
theorem dX6_gate_17 : decode cX6_gate 17 = .ok (.getfield 13, 3) := by decide +kernel
theorem dX6_gate_20 : decode cX6_gate 20 = .ok (.bipush 11, 2) := by decide +kernel
theorem dX6_gate_22 : decode cX6_gate 22 = .ok (.aload_n 0, 1) := by decide +kernel
theorem dX6_gate_23 : decode cX6_gate 23 = .ok (.getfield 98, 3) := by decide +kernel
theorem dX6_gate_26 : decode cX6_gate 26 = .ok (.iadd, 1) := by decide +kernel
theorem dX6_gate_27 : decode cX6_gate 27 = .ok (.iaload, 1) := by decide +kernel
theorem dX6_gate_28 : decode cX6_gate 28 = .ok (.bipush (-9), 2) := by decide +kernel
theorem dX6_gate_30 : decode cX6_gate 30 = .ok (.if_icmp .eq 5, 3) := by decide +kernel
theorem dX6_gate_33 : decode cX6_gate 33 = .ok (.iconst 0, 1) := by decide +kernel
theorem dX6_gate_34 : decode cX6_gate 34 = .ok (.ireturn, 1) := by decide +kernel
theorem dX6_gate_35 : decode cX6_gate 35 = .ok (.aload_n 0, 1) := by decide +kernel
theorem dX6_gate_36 : decode cX6_gate 36 = .ok (.getfield 98, 3) := by decide +kernel
theorem dX6_gate_39 : decode cX6_gate 39 = .ok (.istore_n 1, 1) := by decide +kernel
theorem dX6_gate_40 : decode cX6_gate 40 = .ok (.aload_n 0, 1) := by decide +kernel
theorem dX6_gate_41 : decode cX6_gate 41 = .ok (.iconst 0, 1) := by decide +kernel
theorem dX6_gate_42 : decode cX6_gate 42 = .ok (.bipush 23, 2) := by decide +kernel
theorem dX6_gate_44 : decode cX6_gate 44 = .ok (.bipush 11, 2) := by decide +kernel
theorem dX6_gate_46 : decode cX6_gate 46 = .ok (.iload_n 1, 1) := by decide +kernel
theorem dX6_gate_47 : decode cX6_gate 47 = .ok (.iadd, 1) := by decide +kernel
theorem dX6_gate_48 : decode cX6_gate 48 = .ok (.invokevirtual 112, 3) := by decide +kernel
theorem dX6_gate_51 : decode cX6_gate 51 = .ok (.ifCond .eq 28, 3) := by decide +kernel
theorem dX6_gate_54 : decode cX6_gate 54 = .ok (.aload_n 0, 1) := by decide +kernel
theorem dX6_gate_55 : decode cX6_gate 55 = .ok (.iconst 1, 1) := by decide +kernel
theorem dX6_gate_56 : decode cX6_gate 56 = .ok (.bipush 24, 2) := by decide +kernel
theorem dX6_gate_58 : decode cX6_gate 58 = .ok (.bipush 18, 2) := by decide +kernel
theorem dX6_gate_60 : decode cX6_gate 60 = .ok (.iload_n 1, 1) := by decide +kernel
theorem dX6_gate_61 : decode cX6_gate 61 = .ok (.iadd, 1) := by decide +kernel
theorem dX6_gate_62 : decode cX6_gate 62 = .ok (.invokevirtual 112, 3) := by decide +kernel
theorem dX6_gate_65 : decode cX6_gate 65 = .ok (.ifCond .eq 14, 3) := by decide +kernel
theorem dX6_gate_68 : decode cX6_gate 68 = .ok (.aload_n 0, 1) := by decide +kernel
theorem dX6_gate_69 : decode cX6_gate 69 = .ok (.invokevirtual 108, 3) := by decide +kernel
theorem dX6_gate_72 : decode cX6_gate 72 = .ok (.ifCond .eq 7, 3) := by decide +kernel
theorem dX6_gate_75 : decode cX6_gate 75 = .ok (.iconst 1, 1) := by decide +kernel
theorem dX6_gate_76 : decode cX6_gate 76 = .ok (.goto 4, 3) := by decide +kernel
theorem dX6_gate_79 : decode cX6_gate 79 = .ok (.iconst 0, 1) := by decide +kernel
theorem dX6_gate_80 : decode cX6_gate 80 = .ok (.ireturn, 1) := by decide +kernel
set_option maxRecDepth 20000 in
theorem ggX6_off_X6_takes : GoodIn wsX6_off wsX6_takes := goodIn_r _ [6, 7, 8, 9, 10, 11, 5, 12, 13, 14, 15, 16, 17, 18, 19, 20, 21, 22, 23, 24, 25, 26, 27, 28, 29, 30, 31, 32, 33, 34, 35, 36, 37, 38, 43, 44, 45, 46, 47, 48, 49, 50, 51, 52, 53, 54, 55, 56, 57, 58, 59, 60, 61, 62, 63, 64, 65, 66, 67, 68, 69, 70, 71] (by decide +kernel) (by decide +kernel)
set_option maxRecDepth 20000 in
theorem gX6_off_X6_takes : GoodIn wsX6_off (wsV RX6 112 RX6 yX6_takes wsX6_takes) := goodIn_app (goodIn_of _ (by decide +kernel)) ggX6_off_X6_takes
set_option maxRecDepth 20000 in
theorem ggX6_off_X6_ends : GoodIn wsX6_off wsX6_ends := goodIn_r _ [42, 13, 14, 15, 16, 5, 17, 18, 19, 8, 20, 21, 22, 23, 24, 25, 26, 27, 28, 29, 30, 31, 32, 33, 34, 35, 36, 37, 38, 43, 44, 45, 46, 47, 48, 49, 50, 51, 52, 53, 54, 55, 56, 57, 58, 59, 60, 61, 62, 63, 64, 65, 66, 67, 68, 69, 70, 71] (by decide +kernel) (by decide +kernel)
set_option maxRecDepth 20000 in
theorem gX6_off_X6_ends : GoodIn wsX6_off (wsV RX6 108 RX6 yX6_ends wsX6_ends) := goodIn_app (goodIn_of _ (by decide +kernel)) ggX6_off_X6_ends
theorem dX6_off_0 : decode cX6_off 0 = .ok (.aload_n 0, 1) := by decide +kernel
theorem dX6_off_1 : decode cX6_off 1 = .ok (.getfield 120, 3) := by decide +kernel
theorem dX6_off_4 : decode cX6_off 4 = .ok (.ifCond .eq 5, 3) := by decide +kernel
theorem dX6_off_7 : decode cX6_off 7 = .ok (.iconst 0, 1) := by decide +kernel
theorem dX6_off_8 : decode cX6_off 8 = .ok (.ireturn, 1) := by decide +kernel
theorem dX6_off_9 : decode cX6_off 9 = .ok (.aload_n 0, 1) := by decide +kernel
theorem dX6_off_10 : decode cX6_off 10 = .ok (.iconst 1, 1) := by decide +kernel
theorem dX6_off_11 : decode cX6_off 11 = .ok (.putfield 120, 3) := by decide +kernel
theorem dX6_off_14 : decode cX6_off 14 = .ok (.aload_n 0, 1) := by decide +kernel
theorem dX6_off_15 : decode cX6_off 15 = .ok (.iconst 0, 1) := by decide +kernel
theorem dX6_off_16 : decode cX6_off 16 = .ok (.bipush 6, 2) := by decide +kernel
theorem dX6_off_18 : decode cX6_off 18 = .ok (.iconst 3, 1) := by decide +kernel
theorem dX6_off_19 : decode cX6_off 19 = .ok (.invokevirtual 112, 3) := by decide +kernel
theorem dX6_off_22 : decode cX6_off 22 = .ok (.ifCond .eq 14, 3) := by decide +kernel
theorem dX6_off_25 : decode cX6_off 25 = .ok (.aload_n 0, 1) := by decide +kernel
theorem dX6_off_26 : decode cX6_off 26 = .ok (.invokevirtual 108, 3) := by decide +kernel
theorem dX6_off_29 : decode cX6_off 29 = .ok (.ifCond .eq 7, 3) := by decide +kernel
theorem dX6_off_32 : decode cX6_off 32 = .ok (.iconst 1, 1) := by decide +kernel
theorem dX6_off_33 : decode cX6_off 33 = .ok (.goto 4, 3) := by decide +kernel
theorem dX6_off_36 : decode cX6_off 36 = .ok (.iconst 0, 1) := by decide +kernel
theorem dX6_off_37 : decode cX6_off 37 = .ok (.ireturn, 1) := by decide +kernel
set_option maxRecDepth 20000 in
theorem ggX6_takesItem_X6_places : GoodIn wsX6_takesItem wsX6_places := goodIn_r _ [7, 8, 9, 10, 11, 6, 12, 1, 13, 14, 15, 16, 17, 18, 2, 19, 20, 21, 22, 23, 24, 25, 26, 27, 28, 29, 30, 31, 32, 33, 34, 35, 36, 37, 69, 70, 71, 72, 73, 74, 75, 76, 77, 78, 79, 80, 81, 82, 83, 84, 85, 86, 87, 88, 89, 90, 91, 92, 93, 94, 95, 96, 97] (by decide +kernel) (by decide +kernel)
set_option maxRecDepth 20000 in
theorem gX6_takesItem_X6_places : GoodIn wsX6_takesItem (wsV RX6 124 RX6 yX6_places wsX6_places) := goodIn_app (goodIn_of _ (by decide +kernel)) ggX6_takesItem_X6_places
set_option maxRecDepth 20000 in
theorem ggX6_takesItem_X6_roads : GoodIn wsX6_takesItem wsX6_roads := goodIn_r _ [41, 8, 42, 43, 44, 6, 45, 2, 46, 47, 48, 49, 1, 13, 14, 15, 16, 17, 18, 19, 20, 21, 22, 23, 24, 25, 26, 27, 28, 29, 30, 31, 32, 33, 34, 35, 36, 37, 9, 10, 11, 12, 69, 70, 71, 72, 73, 74, 75, 76, 77, 78, 79, 80, 81, 82, 83, 84, 85, 86, 87, 88, 89, 90, 91, 92, 93, 94, 95, 96, 97] (by decide +kernel) (by decide +kernel)
set_option maxRecDepth 20000 in
theorem gX6_takesItem_X6_roads : GoodIn wsX6_takesItem (wsV RX6 127 RX6 yX6_roads wsX6_roads) := goodIn_app (goodIn_of _ (by decide +kernel)) ggX6_takesItem_X6_roads
set_option maxRecDepth 20000 in
theorem ggX6_takesItem_X6_hosts : GoodIn wsX6_takesItem wsX6_hosts := goodIn_r _ [53, 8, 2, 54, 55, 42, 43, 44, 6, 45, 46, 47, 48, 49, 1, 13, 14, 15, 16, 17, 18, 19, 20, 21, 22, 23, 24, 25, 26, 27, 28, 29, 30, 31, 32, 33, 34, 35, 36, 37, 9, 10, 11, 12, 69, 70, 71, 72, 73, 74, 75, 76, 77, 78, 79, 80, 81, 82, 83, 84, 85, 86, 87, 88, 89, 90, 91, 92, 93, 94, 95, 96, 97] (by decide +kernel) (by decide +kernel)
set_option maxRecDepth 20000 in
theorem gX6_takesItem_X6_hosts : GoodIn wsX6_takesItem (wsV RX6 130 RX6 yX6_hosts wsX6_hosts) := goodIn_app (goodIn_of _ (by decide +kernel)) ggX6_takesItem_X6_hosts
set_option maxRecDepth 20000 in
theorem ggX6_takesItem_X6_lion : GoodIn wsX6_takesItem wsX6_lion := goodIn_r _ [59, 8, 2, 46, 47, 48, 6, 49, 1, 13, 14, 15, 16, 17, 18, 19, 20, 21, 22, 23, 24, 25, 26, 27, 28, 29, 30, 31, 32, 33, 34, 35, 36, 37, 42, 43, 44, 45, 9, 10, 11, 12, 69, 70, 71, 72, 73, 74, 75, 76, 77, 78, 79, 80, 81, 82, 83, 84, 85, 86, 87, 88, 89, 90, 91, 92, 93, 94, 95, 96, 97] (by decide +kernel) (by decide +kernel)
set_option maxRecDepth 20000 in
theorem gX6_takesItem_X6_lion : GoodIn wsX6_takesItem (wsV RX6 133 RX6 yX6_lion wsX6_lion) := goodIn_app (goodIn_of _ (by decide +kernel)) ggX6_takesItem_X6_lion
set_option maxRecDepth 20000 in
theorem ggX6_takesItem_X6_gate : GoodIn wsX6_takesItem wsX6_gate := goodIn_r _ [63, 8, 2, 46, 47, 48, 6, 49, 1, 13, 14, 15, 16, 17, 18, 19, 20, 21, 22, 23, 24, 25, 26, 27, 28, 29, 30, 31, 32, 33, 34, 35, 36, 37, 42, 43, 44, 45, 9, 10, 11, 12, 69, 70, 71, 72, 73, 74, 75, 76, 77, 78, 79, 80, 81, 82, 83, 84, 85, 86, 87, 88, 89, 90, 91, 92, 93, 94, 95, 96, 97] (by decide +kernel) (by decide +kernel)
set_option maxRecDepth 20000 in
theorem gX6_takesItem_X6_gate : GoodIn wsX6_takesItem (wsV RX6 136 RX6 yX6_gate wsX6_gate) := goodIn_app (goodIn_of _ (by decide +kernel)) ggX6_takesItem_X6_gate
set_option maxRecDepth 20000 in
theorem ggX6_takesItem_X6_off : GoodIn wsX6_takesItem wsX6_off := goodIn_r _ [67, 68, 42, 43, 44, 6, 45, 8, 2, 46, 47, 48, 49, 1, 13, 14, 15, 16, 17, 18, 19, 20, 21, 22, 23, 24, 25, 26, 27, 28, 29, 30, 31, 32, 33, 34, 35, 36, 37, 9, 10, 11, 12, 69, 70, 71, 72, 73, 74, 75, 76, 77, 78, 79, 80, 81, 82, 83, 84, 85, 86, 87, 88, 89, 90, 91, 92, 93, 94, 95, 96, 97] (by decide +kernel) (by decide +kernel)
set_option maxRecDepth 20000 in
theorem gX6_takesItem_X6_off : GoodIn wsX6_takesItem (wsV RX6 139 RX6 yX6_off wsX6_off) := goodIn_app (goodIn_of _ (by decide +kernel)) ggX6_takesItem_X6_off
theorem dX6_takesItem_0 : decode cX6_takesItem 0 = .ok (.aload_n 0, 1) := by decide +kernel
theorem dX6_takesItem_1 : decode cX6_takesItem 1 = .ok (.getfield 95, 3) := by decide +kernel
theorem dX6_takesItem_4 : decode cX6_takesItem 4 = .ok (.iconst 1, 1) := by decide +kernel
theorem dX6_takesItem_5 : decode cX6_takesItem 5 = .ok (.if_icmp .ne 10, 3) := by decide +kernel
theorem dX6_takesItem_8 : decode cX6_takesItem 8 = .ok (.aload_n 0, 1) := by decide +kernel
theorem dX6_takesItem_9 : decode cX6_takesItem 9 = .ok (.getfield 98, 3) := by decide +kernel
theorem dX6_takesItem_12 : decode cX6_takesItem 12 = .ok (.goto 4, 3) := by decide +kernel
theorem dX6_takesItem_15 : decode cX6_takesItem 15 = .ok (.iconst 0, 1) := by decide +kernel
theorem dX6_takesItem_16 : decode cX6_takesItem 16 = .ok (.tableswitch 94 103 114 #[84, 74, 94, 94, 94, 79, 94, 94, 89, 64, 94, 69], 64) := by decide +kernel
theorem dX6_takesItem_80 : decode cX6_takesItem 80 = .ok (.aload_n 0, 1) := by decide +kernel
theorem dX6_takesItem_81 : decode cX6_takesItem 81 = .ok (.invokevirtual 124, 3) := by decide +kernel
theorem dX6_takesItem_84 : decode cX6_takesItem 84 = .ok (.ireturn, 1) := by decide +kernel
theorem dX6_takesItem_85 : decode cX6_takesItem 85 = .ok (.aload_n 0, 1) := by decide +kernel
theorem dX6_takesItem_86 : decode cX6_takesItem 86 = .ok (.invokevirtual 127, 3) := by decide +kernel
theorem dX6_takesItem_89 : decode cX6_takesItem 89 = .ok (.ireturn, 1) := by decide +kernel
theorem dX6_takesItem_90 : decode cX6_takesItem 90 = .ok (.aload_n 0, 1) := by decide +kernel
theorem dX6_takesItem_91 : decode cX6_takesItem 91 = .ok (.invokevirtual 130, 3) := by decide +kernel
theorem dX6_takesItem_94 : decode cX6_takesItem 94 = .ok (.ireturn, 1) := by decide +kernel
theorem dX6_takesItem_95 : decode cX6_takesItem 95 = .ok (.aload_n 0, 1) := by decide +kernel
theorem dX6_takesItem_96 : decode cX6_takesItem 96 = .ok (.invokevirtual 133, 3) := by decide +kernel
theorem dX6_takesItem_99 : decode cX6_takesItem 99 = .ok (.ireturn, 1) := by decide +kernel
theorem dX6_takesItem_100 : decode cX6_takesItem 100 = .ok (.aload_n 0, 1) := by decide +kernel
theorem dX6_takesItem_101 : decode cX6_takesItem 101 = .ok (.invokevirtual 136, 3) := by decide +kernel
theorem dX6_takesItem_104 : decode cX6_takesItem 104 = .ok (.ireturn, 1) := by decide +kernel
theorem dX6_takesItem_105 : decode cX6_takesItem 105 = .ok (.aload_n 0, 1) := by decide +kernel
theorem dX6_takesItem_106 : decode cX6_takesItem 106 = .ok (.invokevirtual 139, 3) := by decide +kernel
theorem dX6_takesItem_109 : decode cX6_takesItem 109 = .ok (.ireturn, 1) := by decide +kernel
theorem dX6_takesItem_110 : decode cX6_takesItem 110 = .ok (.iconst 0, 1) := by decide +kernel
theorem dX6_takesItem_111 : decode cX6_takesItem 111 = .ok (.ireturn, 1) := by decide +kernel
set_option maxRecDepth 20000 in
theorem ggX6_tale_X6_clean : GoodIn wsX6_tale wsX6_clean := goodIn_r _ [15] (by decide +kernel) (by decide +kernel)
set_option maxRecDepth 20000 in
theorem gX6_tale_X6_clean : GoodIn wsX6_tale (va_wsS RX6 56 yX6_clean wsX6_clean) := goodIn_app (goodIn_of _ (by decide +kernel)) ggX6_tale_X6_clean
set_option maxRecDepth 20000 in
theorem ggX6_tale_X6_next : GoodIn wsX6_tale wsX6_next := goodIn_r _ [19, 2, 5, 4, 20, 21, 22, 23, 14, 24, 8, 25, 26, 27, 28, 29, 30, 31, 32, 33, 34, 35, 36, 37, 38, 81, 82, 83, 84, 85, 86, 87, 88, 89, 90, 91, 92, 93, 94, 95, 96, 97, 98, 99, 100, 101, 102, 103, 104, 105, 106, 107, 108, 109] (by decide +kernel) (by decide +kernel)
set_option maxRecDepth 20000 in
theorem gX6_tale_X6_next : GoodIn wsX6_tale (wsV RX6 101 RX6 yX6_next wsX6_next) := goodIn_app (goodIn_of _ (by decide +kernel)) ggX6_tale_X6_next
set_option maxRecDepth 20000 in
theorem ggX6_tale_X6_takesItem : GoodIn wsX6_tale wsX6_takesItem := goodIn_r _ [42, 4, 20, 43, 44, 45, 14, 46, 1, 47, 48, 49, 50, 16, 17, 18, 19, 2, 5, 21, 22, 23, 24, 8, 25, 26, 27, 28, 29, 30, 31, 32, 33, 34, 35, 36, 37, 38, 51, 52, 53, 54, 55, 56, 57, 58, 59, 60, 61, 62, 63, 64, 65, 66, 67, 68, 69, 70, 71, 72, 73, 74, 75, 76, 77, 78, 79, 80, 3, 81, 82, 83, 84, 85, 86, 87, 88, 89, 90, 91, 92, 93, 94, 95, 96, 97, 98, 99, 100, 101, 102, 103, 104, 105, 106, 107, 108, 109] (by decide +kernel) (by decide +kernel)
set_option maxRecDepth 20000 in
theorem gX6_tale_X6_takesItem : GoodIn wsX6_tale (wsV RX6 142 RX6 yX6_takesItem wsX6_takesItem) := goodIn_app (goodIn_of _ (by decide +kernel)) ggX6_tale_X6_takesItem
theorem dX6_tale_0 : decode cX6_tale 0 = .ok (.aload_n 0, 1) := by decide +kernel
theorem dX6_tale_1 : decode cX6_tale 1 = .ok (.getfield 13, 3) := by decide +kernel
theorem dX6_tale_4 : decode cX6_tale 4 = .ok (.invokestatic 56, 3) := by decide +kernel
theorem dX6_tale_7 : decode cX6_tale 7 = .ok (.aload_n 0, 1) := by decide +kernel
theorem dX6_tale_8 : decode cX6_tale 8 = .ok (.iconst 0, 1) := by decide +kernel
theorem dX6_tale_9 : decode cX6_tale 9 = .ok (.putfield 78, 3) := by decide +kernel
theorem dX6_tale_12 : decode cX6_tale 12 = .ok (.aload_n 0, 1) := by decide +kernel
theorem dX6_tale_13 : decode cX6_tale 13 = .ok (.iconst 0, 1) := by decide +kernel
theorem dX6_tale_14 : decode cX6_tale 14 = .ok (.putfield 120, 3) := by decide +kernel
theorem dX6_tale_17 : decode cX6_tale 17 = .ok (.iconst 0, 1) := by decide +kernel
theorem dX6_tale_18 : decode cX6_tale 18 = .ok (.istore_n 1, 1) := by decide +kernel
theorem dX6_tale_19 : decode cX6_tale 19 = .ok (.aload_n 0, 1) := by decide +kernel
theorem dX6_tale_20 : decode cX6_tale 20 = .ok (.invokevirtual 101, 3) := by decide +kernel
theorem dX6_tale_23 : decode cX6_tale 23 = .ok (.aload_n 0, 1) := by decide +kernel
theorem dX6_tale_24 : decode cX6_tale 24 = .ok (.getfield 95, 3) := by decide +kernel
theorem dX6_tale_27 : decode cX6_tale 27 = .ok (.ifCond .eq 28, 3) := by decide +kernel
theorem dX6_tale_30 : decode cX6_tale 30 = .ok (.aload_n 0, 1) := by decide +kernel
theorem dX6_tale_31 : decode cX6_tale 31 = .ok (.invokevirtual 142, 3) := by decide +kernel
theorem dX6_tale_34 : decode cX6_tale 34 = .ok (.ifCond .ne 11, 3) := by decide +kernel
theorem dX6_tale_37 : decode cX6_tale 37 = .ok (.bipush (-10), 2) := by decide +kernel
theorem dX6_tale_39 : decode cX6_tale 39 = .ok (.aload_n 0, 1) := by decide +kernel
theorem dX6_tale_40 : decode cX6_tale 40 = .ok (.getfield 85, 3) := by decide +kernel
theorem dX6_tale_43 : decode cX6_tale 43 = .ok (.isub, 1) := by decide +kernel
theorem dX6_tale_44 : decode cX6_tale 44 = .ok (.ireturn, 1) := by decide +kernel
theorem dX6_tale_45 : decode cX6_tale 45 = .ok (.iinc 1 1, 3) := by decide +kernel
theorem dX6_tale_48 : decode cX6_tale 48 = .ok (.aload_n 0, 1) := by decide +kernel
theorem dX6_tale_49 : decode cX6_tale 49 = .ok (.invokevirtual 101, 3) := by decide +kernel
theorem dX6_tale_52 : decode cX6_tale 52 = .ok (.goto (-29), 3) := by decide +kernel
theorem dX6_tale_55 : decode cX6_tale 55 = .ok (.iconst 0, 1) := by decide +kernel
theorem dX6_tale_56 : decode cX6_tale 56 = .ok (.istore_n 2, 1) := by decide +kernel
theorem dX6_tale_57 : decode cX6_tale 57 = .ok (.iload_n 2, 1) := by decide +kernel
theorem dX6_tale_58 : decode cX6_tale 58 = .ok (.bipush 70, 2) := by decide +kernel
theorem dX6_tale_60 : decode cX6_tale 60 = .ok (.if_icmp .ge 21, 3) := by decide +kernel
theorem dX6_tale_63 : decode cX6_tale 63 = .ok (.aload_n 0, 1) := by decide +kernel
theorem dX6_tale_64 : decode cX6_tale 64 = .ok (.getfield 7, 3) := by decide +kernel
theorem dX6_tale_67 : decode cX6_tale 67 = .ok (.iload_n 2, 1) := by decide +kernel
theorem dX6_tale_68 : decode cX6_tale 68 = .ok (.aload_n 0, 1) := by decide +kernel
theorem dX6_tale_69 : decode cX6_tale 69 = .ok (.getfield 13, 3) := by decide +kernel
theorem dX6_tale_72 : decode cX6_tale 72 = .ok (.iload_n 2, 1) := by decide +kernel
theorem dX6_tale_73 : decode cX6_tale 73 = .ok (.iaload, 1) := by decide +kernel
theorem dX6_tale_74 : decode cX6_tale 74 = .ok (.iastore, 1) := by decide +kernel
theorem dX6_tale_75 : decode cX6_tale 75 = .ok (.iinc 2 1, 3) := by decide +kernel
theorem dX6_tale_78 : decode cX6_tale 78 = .ok (.goto (-21), 3) := by decide +kernel
theorem dX6_tale_81 : decode cX6_tale 81 = .ok (.iconst 0, 1) := by decide +kernel
theorem dX6_tale_82 : decode cX6_tale 82 = .ok (.istore_n 2, 1) := by decide +kernel
theorem dX6_tale_83 : decode cX6_tale 83 = .ok (.iload_n 2, 1) := by decide +kernel
theorem dX6_tale_84 : decode cX6_tale 84 = .ok (.bipush 40, 2) := by decide +kernel
theorem dX6_tale_86 : decode cX6_tale 86 = .ok (.if_icmp .ge 16, 3) := by decide +kernel
theorem dX6_tale_89 : decode cX6_tale 89 = .ok (.aload_n 0, 1) := by decide +kernel
theorem dX6_tale_90 : decode cX6_tale 90 = .ok (.getfield 16, 3) := by decide +kernel
theorem dX6_tale_93 : decode cX6_tale 93 = .ok (.iload_n 2, 1) := by decide +kernel
theorem dX6_tale_94 : decode cX6_tale 94 = .ok (.iconst 0, 1) := by decide +kernel
theorem dX6_tale_95 : decode cX6_tale 95 = .ok (.iastore, 1) := by decide +kernel
theorem dX6_tale_96 : decode cX6_tale 96 = .ok (.iinc 2 1, 3) := by decide +kernel
theorem dX6_tale_99 : decode cX6_tale 99 = .ok (.goto (-16), 3) := by decide +kernel
theorem dX6_tale_102 : decode cX6_tale 102 = .ok (.aload_n 0, 1) := by decide +kernel
theorem dX6_tale_103 : decode cX6_tale 103 = .ok (.iconst 0, 1) := by decide +kernel
theorem dX6_tale_104 : decode cX6_tale 104 = .ok (.putfield 66, 3) := by decide +kernel
theorem dX6_tale_107 : decode cX6_tale 107 = .ok (.aload_n 0, 1) := by decide +kernel
theorem dX6_tale_108 : decode cX6_tale 108 = .ok (.iconst 0, 1) := by decide +kernel
theorem dX6_tale_109 : decode cX6_tale 109 = .ok (.putfield 145, 3) := by decide +kernel
theorem dX6_tale_112 : decode cX6_tale 112 = .ok (.aload_n 0, 1) := by decide +kernel
theorem dX6_tale_113 : decode cX6_tale 113 = .ok (.iconst 0, 1) := by decide +kernel
theorem dX6_tale_114 : decode cX6_tale 114 = .ok (.putfield 148, 3) := by decide +kernel
theorem dX6_tale_117 : decode cX6_tale 117 = .ok (.aload_n 0, 1) := by decide +kernel
theorem dX6_tale_118 : decode cX6_tale 118 = .ok (.getfield 22, 3) := by decide +kernel
theorem dX6_tale_121 : decode cX6_tale 121 = .ok (.iconst 0, 1) := by decide +kernel
theorem dX6_tale_122 : decode cX6_tale 122 = .ok (.iconst 0, 1) := by decide +kernel
theorem dX6_tale_123 : decode cX6_tale 123 = .ok (.bastore, 1) := by decide +kernel
theorem dX6_tale_124 : decode cX6_tale 124 = .ok (.aload_n 0, 1) := by decide +kernel
theorem dX6_tale_125 : decode cX6_tale 125 = .ok (.getfield 22, 3) := by decide +kernel
theorem dX6_tale_128 : decode cX6_tale 128 = .ok (.iconst 1, 1) := by decide +kernel
theorem dX6_tale_129 : decode cX6_tale 129 = .ok (.iconst 0, 1) := by decide +kernel
theorem dX6_tale_130 : decode cX6_tale 130 = .ok (.bastore, 1) := by decide +kernel
theorem dX6_tale_131 : decode cX6_tale 131 = .ok (.iload_n 1, 1) := by decide +kernel
theorem dX6_tale_132 : decode cX6_tale 132 = .ok (.ireturn, 1) := by decide +kernel
set_option maxRecDepth 20000 in
theorem ggX6_isPlace_X6_in : GoodIn wsX6_isPlace wsX6_in := goodIn_r _ [5] (by decide +kernel) (by decide +kernel)
set_option maxRecDepth 20000 in
theorem gX6_isPlace_X6_in : GoodIn wsX6_isPlace (va_wsS RX6 60 yX6_in wsX6_in) := goodIn_app (goodIn_of _ (by decide +kernel)) ggX6_isPlace_X6_in
theorem dX6_isPlace_0 : decode cX6_isPlace 0 = .ok (.iload_n 1, 1) := by decide +kernel
theorem dX6_isPlace_1 : decode cX6_isPlace 1 = .ok (.i2l, 1) := by decide +kernel
theorem dX6_isPlace_2 : decode cX6_isPlace 2 = .ok (.lconst 0, 1) := by decide +kernel
theorem dX6_isPlace_3 : decode cX6_isPlace 3 = .ok (.aload_n 0, 1) := by decide +kernel
theorem dX6_isPlace_4 : decode cX6_isPlace 4 = .ok (.getfield 7, 3) := by decide +kernel
theorem dX6_isPlace_7 : decode cX6_isPlace 7 = .ok (.iconst 0, 1) := by decide +kernel
theorem dX6_isPlace_8 : decode cX6_isPlace 8 = .ok (.iaload, 1) := by decide +kernel
theorem dX6_isPlace_9 : decode cX6_isPlace 9 = .ok (.iconst 1, 1) := by decide +kernel
theorem dX6_isPlace_10 : decode cX6_isPlace 10 = .ok (.isub, 1) := by decide +kernel
theorem dX6_isPlace_11 : decode cX6_isPlace 11 = .ok (.i2l, 1) := by decide +kernel
theorem dX6_isPlace_12 : decode cX6_isPlace 12 = .ok (.invokestatic 60, 3) := by decide +kernel
theorem dX6_isPlace_15 : decode cX6_isPlace 15 = .ok (.ireturn, 1) := by decide +kernel
set_option maxRecDepth 20000 in
theorem ggX6_isRoad_X6_in : GoodIn wsX6_isRoad wsX6_in := goodIn_r _ [5] (by decide +kernel) (by decide +kernel)
set_option maxRecDepth 20000 in
theorem gX6_isRoad_X6_in : GoodIn wsX6_isRoad (va_wsS RX6 60 yX6_in wsX6_in) := goodIn_app (goodIn_of _ (by decide +kernel)) ggX6_isRoad_X6_in
theorem dX6_isRoad_0 : decode cX6_isRoad 0 = .ok (.iload_n 1, 1) := by decide +kernel
theorem dX6_isRoad_1 : decode cX6_isRoad 1 = .ok (.i2l, 1) := by decide +kernel
theorem dX6_isRoad_2 : decode cX6_isRoad 2 = .ok (.lconst 0, 1) := by decide +kernel
theorem dX6_isRoad_3 : decode cX6_isRoad 3 = .ok (.aload_n 0, 1) := by decide +kernel
theorem dX6_isRoad_4 : decode cX6_isRoad 4 = .ok (.getfield 7, 3) := by decide +kernel
theorem dX6_isRoad_7 : decode cX6_isRoad 7 = .ok (.iconst 1, 1) := by decide +kernel
theorem dX6_isRoad_8 : decode cX6_isRoad 8 = .ok (.iaload, 1) := by decide +kernel
theorem dX6_isRoad_9 : decode cX6_isRoad 9 = .ok (.iconst 1, 1) := by decide +kernel
theorem dX6_isRoad_10 : decode cX6_isRoad 10 = .ok (.isub, 1) := by decide +kernel
theorem dX6_isRoad_11 : decode cX6_isRoad 11 = .ok (.i2l, 1) := by decide +kernel
theorem dX6_isRoad_12 : decode cX6_isRoad 12 = .ok (.invokestatic 60, 3) := by decide +kernel
theorem dX6_isRoad_15 : decode cX6_isRoad 15 = .ok (.ireturn, 1) := by decide +kernel
set_option maxRecDepth 20000 in
theorem ggX6_isHost_X6_in : GoodIn wsX6_isHost wsX6_in := goodIn_r _ [5] (by decide +kernel) (by decide +kernel)
set_option maxRecDepth 20000 in
theorem gX6_isHost_X6_in : GoodIn wsX6_isHost (va_wsS RX6 60 yX6_in wsX6_in) := goodIn_app (goodIn_of _ (by decide +kernel)) ggX6_isHost_X6_in
theorem dX6_isHost_0 : decode cX6_isHost 0 = .ok (.iload_n 1, 1) := by decide +kernel
theorem dX6_isHost_1 : decode cX6_isHost 1 = .ok (.i2l, 1) := by decide +kernel
theorem dX6_isHost_2 : decode cX6_isHost 2 = .ok (.lconst 0, 1) := by decide +kernel
theorem dX6_isHost_3 : decode cX6_isHost 3 = .ok (.aload_n 0, 1) := by decide +kernel
theorem dX6_isHost_4 : decode cX6_isHost 4 = .ok (.getfield 7, 3) := by decide +kernel
theorem dX6_isHost_7 : decode cX6_isHost 7 = .ok (.iconst 2, 1) := by decide +kernel
theorem dX6_isHost_8 : decode cX6_isHost 8 = .ok (.iaload, 1) := by decide +kernel
theorem dX6_isHost_9 : decode cX6_isHost 9 = .ok (.iconst 1, 1) := by decide +kernel
theorem dX6_isHost_10 : decode cX6_isHost 10 = .ok (.isub, 1) := by decide +kernel
theorem dX6_isHost_11 : decode cX6_isHost 11 = .ok (.i2l, 1) := by decide +kernel
theorem dX6_isHost_12 : decode cX6_isHost 12 = .ok (.invokestatic 60, 3) := by decide +kernel
theorem dX6_isHost_15 : decode cX6_isHost 15 = .ok (.ireturn, 1) := by decide +kernel
set_option maxRecDepth 20000 in
theorem ggX6_isThing_X6_in : GoodIn wsX6_isThing wsX6_in := goodIn_r _ [5] (by decide +kernel) (by decide +kernel)
set_option maxRecDepth 20000 in
theorem gX6_isThing_X6_in : GoodIn wsX6_isThing (va_wsS RX6 60 yX6_in wsX6_in) := goodIn_app (goodIn_of _ (by decide +kernel)) ggX6_isThing_X6_in
theorem dX6_isThing_0 : decode cX6_isThing 0 = .ok (.iload_n 0, 1) := by decide +kernel
theorem dX6_isThing_1 : decode cX6_isThing 1 = .ok (.i2l, 1) := by decide +kernel
theorem dX6_isThing_2 : decode cX6_isThing 2 = .ok (.lconst 0, 1) := by decide +kernel
theorem dX6_isThing_3 : decode cX6_isThing 3 = .ok (.ldc2_w 151, 3) := by decide +kernel
theorem dX6_isThing_6 : decode cX6_isThing 6 = .ok (.invokestatic 60, 3) := by decide +kernel
theorem dX6_isThing_9 : decode cX6_isThing 9 = .ok (.ireturn, 1) := by decide +kernel
set_option maxRecDepth 20000 in
theorem ggX6_place_X6_isPlace : GoodIn wsX6_place wsX6_isPlace := goodIn_r _ [7, 2, 8, 9, 6, 10, 11, 12, 13, 14, 15, 16, 17, 18, 19, 20, 21, 22, 23, 24, 25, 26, 27, 28, 29, 30, 31, 32, 33, 34, 35, 36, 37, 38, 39] (by decide +kernel) (by decide +kernel)
set_option maxRecDepth 20000 in
theorem gX6_place_X6_isPlace : GoodIn wsX6_place (wsV RX6 153 RX6 yX6_isPlace wsX6_isPlace) := goodIn_app (goodIn_of _ (by decide +kernel)) ggX6_place_X6_isPlace
set_option maxRecDepth 20000 in
theorem ggX6_place_X6_in : GoodIn wsX6_place wsX6_in := goodIn_r _ [10] (by decide +kernel) (by decide +kernel)
set_option maxRecDepth 20000 in
theorem gX6_place_X6_in : GoodIn wsX6_place (va_wsS RX6 60 yX6_in wsX6_in) := goodIn_app (goodIn_of _ (by decide +kernel)) ggX6_place_X6_in
theorem dX6_place_0 : decode cX6_place 0 = .ok (.aload_n 0, 1) := by decide +kernel
theorem dX6_place_1 : decode cX6_place 1 = .ok (.iload_n 1, 1) := by decide +kernel
theorem dX6_place_2 : decode cX6_place 2 = .ok (.invokevirtual 153, 3) := by decide +kernel
theorem dX6_place_5 : decode cX6_place 5 = .ok (.ifCond .eq 31, 3) := by decide +kernel
theorem dX6_place_8 : decode cX6_place 8 = .ok (.iload_n 2, 1) := by decide +kernel
theorem dX6_place_9 : decode cX6_place 9 = .ok (.i2l, 1) := by decide +kernel
theorem dX6_place_10 : decode cX6_place 10 = .ok (.lconst 0, 1) := by decide +kernel
theorem dX6_place_11 : decode cX6_place 11 = .ok (.ldc2_w 156, 3) := by decide +kernel
theorem dX6_place_14 : decode cX6_place 14 = .ok (.invokestatic 60, 3) := by decide +kernel
theorem dX6_place_17 : decode cX6_place 17 = .ok (.ifCond .eq 19, 3) := by decide +kernel
theorem dX6_place_20 : decode cX6_place 20 = .ok (.aload_n 0, 1) := by decide +kernel
theorem dX6_place_21 : decode cX6_place 21 = .ok (.getfield 7, 3) := by decide +kernel
theorem dX6_place_24 : decode cX6_place 24 = .ok (.iconst 4, 1) := by decide +kernel
theorem dX6_place_25 : decode cX6_place 25 = .ok (.bipush 7, 2) := by decide +kernel
theorem dX6_place_27 : decode cX6_place 27 = .ok (.iload_n 2, 1) := by decide +kernel
theorem dX6_place_28 : decode cX6_place 28 = .ok (.imul, 1) := by decide +kernel
theorem dX6_place_29 : decode cX6_place 29 = .ok (.iadd, 1) := by decide +kernel
theorem dX6_place_30 : decode cX6_place 30 = .ok (.iload_n 1, 1) := by decide +kernel
theorem dX6_place_31 : decode cX6_place 31 = .ok (.iadd, 1) := by decide +kernel
theorem dX6_place_32 : decode cX6_place 32 = .ok (.iaload, 1) := by decide +kernel
theorem dX6_place_33 : decode cX6_place 33 = .ok (.goto 4, 3) := by decide +kernel
theorem dX6_place_36 : decode cX6_place 36 = .ok (.iconst (-1), 1) := by decide +kernel
theorem dX6_place_37 : decode cX6_place 37 = .ok (.ireturn, 1) := by decide +kernel
set_option maxRecDepth 20000 in
theorem ggX6_road_X6_isRoad : GoodIn wsX6_road wsX6_isRoad := goodIn_r _ [7, 2, 8, 9, 6, 10, 11, 12, 13, 14, 15, 16, 17, 18, 19, 20, 21, 22, 23, 24, 25, 26, 27, 28, 29, 30, 31, 32, 33, 34, 35, 36, 37, 38, 39] (by decide +kernel) (by decide +kernel)
set_option maxRecDepth 20000 in
theorem gX6_road_X6_isRoad : GoodIn wsX6_road (wsV RX6 158 RX6 yX6_isRoad wsX6_isRoad) := goodIn_app (goodIn_of _ (by decide +kernel)) ggX6_road_X6_isRoad
set_option maxRecDepth 20000 in
theorem ggX6_road_X6_in : GoodIn wsX6_road wsX6_in := goodIn_r _ [10] (by decide +kernel) (by decide +kernel)
set_option maxRecDepth 20000 in
theorem gX6_road_X6_in : GoodIn wsX6_road (va_wsS RX6 60 yX6_in wsX6_in) := goodIn_app (goodIn_of _ (by decide +kernel)) ggX6_road_X6_in
theorem dX6_road_0 : decode cX6_road 0 = .ok (.aload_n 0, 1) := by decide +kernel
theorem dX6_road_1 : decode cX6_road 1 = .ok (.iload_n 1, 1) := by decide +kernel
theorem dX6_road_2 : decode cX6_road 2 = .ok (.invokevirtual 158, 3) := by decide +kernel
theorem dX6_road_5 : decode cX6_road 5 = .ok (.ifCond .eq 32, 3) := by decide +kernel
theorem dX6_road_8 : decode cX6_road 8 = .ok (.iload_n 2, 1) := by decide +kernel
theorem dX6_road_9 : decode cX6_road 9 = .ok (.i2l, 1) := by decide +kernel
theorem dX6_road_10 : decode cX6_road 10 = .ok (.lconst 0, 1) := by decide +kernel
theorem dX6_road_11 : decode cX6_road 11 = .ok (.ldc2_w 156, 3) := by decide +kernel
theorem dX6_road_14 : decode cX6_road 14 = .ok (.invokestatic 60, 3) := by decide +kernel
theorem dX6_road_17 : decode cX6_road 17 = .ok (.ifCond .eq 20, 3) := by decide +kernel
theorem dX6_road_20 : decode cX6_road 20 = .ok (.aload_n 0, 1) := by decide +kernel
theorem dX6_road_21 : decode cX6_road 21 = .ok (.getfield 7, 3) := by decide +kernel
theorem dX6_road_24 : decode cX6_road 24 = .ok (.bipush 25, 2) := by decide +kernel
theorem dX6_road_26 : decode cX6_road 26 = .ok (.bipush 9, 2) := by decide +kernel
theorem dX6_road_28 : decode cX6_road 28 = .ok (.iload_n 2, 1) := by decide +kernel
theorem dX6_road_29 : decode cX6_road 29 = .ok (.imul, 1) := by decide +kernel
theorem dX6_road_30 : decode cX6_road 30 = .ok (.iadd, 1) := by decide +kernel
theorem dX6_road_31 : decode cX6_road 31 = .ok (.iload_n 1, 1) := by decide +kernel
theorem dX6_road_32 : decode cX6_road 32 = .ok (.iadd, 1) := by decide +kernel
theorem dX6_road_33 : decode cX6_road 33 = .ok (.iaload, 1) := by decide +kernel
theorem dX6_road_34 : decode cX6_road 34 = .ok (.goto 4, 3) := by decide +kernel
theorem dX6_road_37 : decode cX6_road 37 = .ok (.iconst (-1), 1) := by decide +kernel
theorem dX6_road_38 : decode cX6_road 38 = .ok (.ireturn, 1) := by decide +kernel
set_option maxRecDepth 20000 in
theorem ggX6_host_X6_isHost : GoodIn wsX6_host wsX6_isHost := goodIn_r _ [7, 2, 8, 9, 6, 10, 11, 12, 13, 14, 15, 16, 17, 18, 19, 20, 21, 22, 23, 24, 25, 26, 27, 28, 29, 30, 31, 32, 33, 34, 35, 36, 37, 38, 39] (by decide +kernel) (by decide +kernel)
set_option maxRecDepth 20000 in
theorem gX6_host_X6_isHost : GoodIn wsX6_host (wsV RX6 161 RX6 yX6_isHost wsX6_isHost) := goodIn_app (goodIn_of _ (by decide +kernel)) ggX6_host_X6_isHost
set_option maxRecDepth 20000 in
theorem ggX6_host_X6_in : GoodIn wsX6_host wsX6_in := goodIn_r _ [10] (by decide +kernel) (by decide +kernel)
set_option maxRecDepth 20000 in
theorem gX6_host_X6_in : GoodIn wsX6_host (va_wsS RX6 60 yX6_in wsX6_in) := goodIn_app (goodIn_of _ (by decide +kernel)) ggX6_host_X6_in
theorem dX6_host_0 : decode cX6_host 0 = .ok (.aload_n 0, 1) := by decide +kernel
theorem dX6_host_1 : decode cX6_host 1 = .ok (.iload_n 1, 1) := by decide +kernel
theorem dX6_host_2 : decode cX6_host 2 = .ok (.invokevirtual 161, 3) := by decide +kernel
theorem dX6_host_5 : decode cX6_host 5 = .ok (.ifCond .eq 32, 3) := by decide +kernel
theorem dX6_host_8 : decode cX6_host 8 = .ok (.iload_n 2, 1) := by decide +kernel
theorem dX6_host_9 : decode cX6_host 9 = .ok (.i2l, 1) := by decide +kernel
theorem dX6_host_10 : decode cX6_host 10 = .ok (.lconst 0, 1) := by decide +kernel
theorem dX6_host_11 : decode cX6_host 11 = .ok (.ldc2_w 156, 3) := by decide +kernel
theorem dX6_host_14 : decode cX6_host 14 = .ok (.invokestatic 60, 3) := by decide +kernel
theorem dX6_host_17 : decode cX6_host 17 = .ok (.ifCond .eq 20, 3) := by decide +kernel
theorem dX6_host_20 : decode cX6_host 20 = .ok (.aload_n 0, 1) := by decide +kernel
theorem dX6_host_21 : decode cX6_host 21 = .ok (.getfield 7, 3) := by decide +kernel
theorem dX6_host_24 : decode cX6_host 24 = .ok (.bipush 52, 2) := by decide +kernel
theorem dX6_host_26 : decode cX6_host 26 = .ok (.bipush 6, 2) := by decide +kernel
theorem dX6_host_28 : decode cX6_host 28 = .ok (.iload_n 2, 1) := by decide +kernel
theorem dX6_host_29 : decode cX6_host 29 = .ok (.imul, 1) := by decide +kernel
theorem dX6_host_30 : decode cX6_host 30 = .ok (.iadd, 1) := by decide +kernel
theorem dX6_host_31 : decode cX6_host 31 = .ok (.iload_n 1, 1) := by decide +kernel
theorem dX6_host_32 : decode cX6_host 32 = .ok (.iadd, 1) := by decide +kernel
theorem dX6_host_33 : decode cX6_host 33 = .ok (.iaload, 1) := by decide +kernel
theorem dX6_host_34 : decode cX6_host 34 = .ok (.goto 4, 3) := by decide +kernel
theorem dX6_host_37 : decode cX6_host 37 = .ok (.iconst (-1), 1) := by decide +kernel
theorem dX6_host_38 : decode cX6_host 38 = .ok (.ireturn, 1) := by decide +kernel
theorem dX6_otherEnd_0 : decode cX6_otherEnd 0 = .ok (.aload_n 0, 1) := by decide +kernel
theorem dX6_otherEnd_1 : decode cX6_otherEnd 1 = .ok (.getfield 7, 3) := by decide +kernel
theorem dX6_otherEnd_4 : decode cX6_otherEnd 4 = .ok (.bipush 25, 2) := by decide +kernel
theorem dX6_otherEnd_6 : decode cX6_otherEnd 6 = .ok (.iload_n 1, 1) := by decide +kernel
theorem dX6_otherEnd_7 : decode cX6_otherEnd 7 = .ok (.iadd, 1) := by decide +kernel
theorem dX6_otherEnd_8 : decode cX6_otherEnd 8 = .ok (.iaload, 1) := by decide +kernel
theorem dX6_otherEnd_9 : decode cX6_otherEnd 9 = .ok (.iload_n 2, 1) := by decide +kernel
theorem dX6_otherEnd_10 : decode cX6_otherEnd 10 = .ok (.if_icmp .ne 15, 3) := by decide +kernel
theorem dX6_otherEnd_13 : decode cX6_otherEnd 13 = .ok (.aload_n 0, 1) := by decide +kernel
theorem dX6_otherEnd_14 : decode cX6_otherEnd 14 = .ok (.getfield 7, 3) := by decide +kernel
theorem dX6_otherEnd_17 : decode cX6_otherEnd 17 = .ok (.bipush 34, 2) := by decide +kernel
theorem dX6_otherEnd_19 : decode cX6_otherEnd 19 = .ok (.iload_n 1, 1) := by decide +kernel
theorem dX6_otherEnd_20 : decode cX6_otherEnd 20 = .ok (.iadd, 1) := by decide +kernel
theorem dX6_otherEnd_21 : decode cX6_otherEnd 21 = .ok (.iaload, 1) := by decide +kernel
theorem dX6_otherEnd_22 : decode cX6_otherEnd 22 = .ok (.goto 29, 3) := by decide +kernel
theorem dX6_otherEnd_25 : decode cX6_otherEnd 25 = .ok (.aload_n 0, 1) := by decide +kernel
theorem dX6_otherEnd_26 : decode cX6_otherEnd 26 = .ok (.getfield 7, 3) := by decide +kernel
theorem dX6_otherEnd_29 : decode cX6_otherEnd 29 = .ok (.bipush 34, 2) := by decide +kernel
theorem dX6_otherEnd_31 : decode cX6_otherEnd 31 = .ok (.iload_n 1, 1) := by decide +kernel
theorem dX6_otherEnd_32 : decode cX6_otherEnd 32 = .ok (.iadd, 1) := by decide +kernel
theorem dX6_otherEnd_33 : decode cX6_otherEnd 33 = .ok (.iaload, 1) := by decide +kernel
theorem dX6_otherEnd_34 : decode cX6_otherEnd 34 = .ok (.iload_n 2, 1) := by decide +kernel
theorem dX6_otherEnd_35 : decode cX6_otherEnd 35 = .ok (.if_icmp .ne 15, 3) := by decide +kernel
theorem dX6_otherEnd_38 : decode cX6_otherEnd 38 = .ok (.aload_n 0, 1) := by decide +kernel
theorem dX6_otherEnd_39 : decode cX6_otherEnd 39 = .ok (.getfield 7, 3) := by decide +kernel
theorem dX6_otherEnd_42 : decode cX6_otherEnd 42 = .ok (.bipush 25, 2) := by decide +kernel
theorem dX6_otherEnd_44 : decode cX6_otherEnd 44 = .ok (.iload_n 1, 1) := by decide +kernel
theorem dX6_otherEnd_45 : decode cX6_otherEnd 45 = .ok (.iadd, 1) := by decide +kernel
theorem dX6_otherEnd_46 : decode cX6_otherEnd 46 = .ok (.iaload, 1) := by decide +kernel
theorem dX6_otherEnd_47 : decode cX6_otherEnd 47 = .ok (.goto 4, 3) := by decide +kernel
theorem dX6_otherEnd_50 : decode cX6_otherEnd 50 = .ok (.iconst (-1), 1) := by decide +kernel
theorem dX6_otherEnd_51 : decode cX6_otherEnd 51 = .ok (.ireturn, 1) := by decide +kernel
theorem dX6_isOpen_0 : decode cX6_isOpen 0 = .ok (.aload_n 0, 1) := by decide +kernel
theorem dX6_isOpen_1 : decode cX6_isOpen 1 = .ok (.getfield 7, 3) := by decide +kernel
theorem dX6_isOpen_4 : decode cX6_isOpen 4 = .ok (.bipush 11, 2) := by decide +kernel
theorem dX6_isOpen_6 : decode cX6_isOpen 6 = .ok (.iload_n 1, 1) := by decide +kernel
theorem dX6_isOpen_7 : decode cX6_isOpen 7 = .ok (.iadd, 1) := by decide +kernel
theorem dX6_isOpen_8 : decode cX6_isOpen 8 = .ok (.iaload, 1) := by decide +kernel
theorem dX6_isOpen_9 : decode cX6_isOpen 9 = .ok (.bipush (-9), 2) := by decide +kernel
theorem dX6_isOpen_11 : decode cX6_isOpen 11 = .ok (.if_icmp .eq 33, 3) := by decide +kernel
theorem dX6_isOpen_14 : decode cX6_isOpen 14 = .ok (.iload_n 2, 1) := by decide +kernel
theorem dX6_isOpen_15 : decode cX6_isOpen 15 = .ok (.aload_n 0, 1) := by decide +kernel
theorem dX6_isOpen_16 : decode cX6_isOpen 16 = .ok (.getfield 7, 3) := by decide +kernel
theorem dX6_isOpen_19 : decode cX6_isOpen 19 = .ok (.bipush 11, 2) := by decide +kernel
theorem dX6_isOpen_21 : decode cX6_isOpen 21 = .ok (.iload_n 1, 1) := by decide +kernel
theorem dX6_isOpen_22 : decode cX6_isOpen 22 = .ok (.iadd, 1) := by decide +kernel
theorem dX6_isOpen_23 : decode cX6_isOpen 23 = .ok (.iaload, 1) := by decide +kernel
theorem dX6_isOpen_24 : decode cX6_isOpen 24 = .ok (.isub, 1) := by decide +kernel
theorem dX6_isOpen_25 : decode cX6_isOpen 25 = .ok (.sipush 240, 3) := by decide +kernel
theorem dX6_isOpen_28 : decode cX6_isOpen 28 = .ok (.iadd, 1) := by decide +kernel
theorem dX6_isOpen_29 : decode cX6_isOpen 29 = .ok (.bipush 24, 2) := by decide +kernel
theorem dX6_isOpen_31 : decode cX6_isOpen 31 = .ok (.irem, 1) := by decide +kernel
theorem dX6_isOpen_32 : decode cX6_isOpen 32 = .ok (.aload_n 0, 1) := by decide +kernel
theorem dX6_isOpen_33 : decode cX6_isOpen 33 = .ok (.getfield 7, 3) := by decide +kernel
theorem dX6_isOpen_36 : decode cX6_isOpen 36 = .ok (.bipush 18, 2) := by decide +kernel
theorem dX6_isOpen_38 : decode cX6_isOpen 38 = .ok (.iload_n 1, 1) := by decide +kernel
theorem dX6_isOpen_39 : decode cX6_isOpen 39 = .ok (.iadd, 1) := by decide +kernel
theorem dX6_isOpen_40 : decode cX6_isOpen 40 = .ok (.iaload, 1) := by decide +kernel
theorem dX6_isOpen_41 : decode cX6_isOpen 41 = .ok (.if_icmp .ge 7, 3) := by decide +kernel
theorem dX6_isOpen_44 : decode cX6_isOpen 44 = .ok (.iconst 1, 1) := by decide +kernel
theorem dX6_isOpen_45 : decode cX6_isOpen 45 = .ok (.goto 4, 3) := by decide +kernel
theorem dX6_isOpen_48 : decode cX6_isOpen 48 = .ok (.iconst 0, 1) := by decide +kernel
theorem dX6_isOpen_49 : decode cX6_isOpen 49 = .ok (.ireturn, 1) := by decide +kernel
set_option maxRecDepth 20000 in
theorem ggX6_enters_X6_otherEnd : GoodIn wsX6_enters wsX6_otherEnd := goodIn_r _ [6, 1, 14, 15, 16, 17, 18, 19, 20, 21, 22, 23, 24, 25, 26, 27, 28, 29, 30, 31, 32, 33, 34, 35, 36, 37, 38, 39, 40, 41, 42] (by decide +kernel) (by decide +kernel)
set_option maxRecDepth 20000 in
theorem gX6_enters_X6_otherEnd : GoodIn wsX6_enters (wsV RX6 164 RX6 yX6_otherEnd wsX6_otherEnd) := goodIn_app (goodIn_of _ (by decide +kernel)) ggX6_enters_X6_otherEnd
set_option maxRecDepth 20000 in
theorem ggX6_enters_X6_isOpen : GoodIn wsX6_enters wsX6_isOpen := goodIn_r _ [10, 1, 14, 15, 16, 17, 18, 19, 20, 21, 22, 23, 24, 25, 26, 27, 28, 29, 30, 31, 32, 33, 34, 35, 36, 37, 38, 39, 40, 41, 42] (by decide +kernel) (by decide +kernel)
set_option maxRecDepth 20000 in
theorem gX6_enters_X6_isOpen : GoodIn wsX6_enters (wsV RX6 168 RX6 yX6_isOpen wsX6_isOpen) := goodIn_app (goodIn_of _ (by decide +kernel)) ggX6_enters_X6_isOpen
set_option maxRecDepth 20000 in
theorem ggX6_enters_X6_holds : GoodIn wsX6_enters wsX6_holds := goodIn_r _ [13] (by decide +kernel) (by decide +kernel)
set_option maxRecDepth 20000 in
theorem gX6_enters_X6_holds : GoodIn wsX6_enters (va_wsS RX6 171 yX6_holds wsX6_holds) := goodIn_app (goodIn_of _ (by decide +kernel)) ggX6_enters_X6_holds
theorem dX6_enters_0 : decode cX6_enters 0 = .ok (.aload_n 0, 1) := by decide +kernel
theorem dX6_enters_1 : decode cX6_enters 1 = .ok (.iload_n 1, 1) := by decide +kernel
theorem dX6_enters_2 : decode cX6_enters 2 = .ok (.iload_n 2, 1) := by decide +kernel
theorem dX6_enters_3 : decode cX6_enters 3 = .ok (.invokevirtual 164, 3) := by decide +kernel
theorem dX6_enters_6 : decode cX6_enters 6 = .ok (.istore 5, 2) := by decide +kernel
theorem dX6_enters_8 : decode cX6_enters 8 = .ok (.iload 5, 2) := by decide +kernel
theorem dX6_enters_10 : decode cX6_enters 10 = .ok (.ifCond .lt 16, 3) := by decide +kernel
theorem dX6_enters_13 : decode cX6_enters 13 = .ok (.aload_n 0, 1) := by decide +kernel
theorem dX6_enters_14 : decode cX6_enters 14 = .ok (.iload 5, 2) := by decide +kernel
theorem dX6_enters_16 : decode cX6_enters 16 = .ok (.iload_n 3, 1) := by decide +kernel
theorem dX6_enters_17 : decode cX6_enters 17 = .ok (.bipush 24, 2) := by decide +kernel
theorem dX6_enters_19 : decode cX6_enters 19 = .ok (.irem, 1) := by decide +kernel
theorem dX6_enters_20 : decode cX6_enters 20 = .ok (.invokevirtual 168, 3) := by decide +kernel
theorem dX6_enters_23 : decode cX6_enters 23 = .ok (.ifCond .ne 5, 3) := by decide +kernel
theorem dX6_enters_26 : decode cX6_enters 26 = .ok (.iconst (-1), 1) := by decide +kernel
theorem dX6_enters_27 : decode cX6_enters 27 = .ok (.ireturn, 1) := by decide +kernel
theorem dX6_enters_28 : decode cX6_enters 28 = .ok (.aload_n 0, 1) := by decide +kernel
theorem dX6_enters_29 : decode cX6_enters 29 = .ok (.getfield 7, 3) := by decide +kernel
theorem dX6_enters_32 : decode cX6_enters 32 = .ok (.iconst 4, 1) := by decide +kernel
theorem dX6_enters_33 : decode cX6_enters 33 = .ok (.iload 5, 2) := by decide +kernel
theorem dX6_enters_35 : decode cX6_enters 35 = .ok (.iadd, 1) := by decide +kernel
theorem dX6_enters_36 : decode cX6_enters 36 = .ok (.iaload, 1) := by decide +kernel
theorem dX6_enters_37 : decode cX6_enters 37 = .ok (.istore 6, 2) := by decide +kernel
theorem dX6_enters_39 : decode cX6_enters 39 = .ok (.iload 6, 2) := by decide +kernel
theorem dX6_enters_41 : decode cX6_enters 41 = .ok (.bipush 9, 2) := by decide +kernel
theorem dX6_enters_43 : decode cX6_enters 43 = .ok (.if_icmp .ne 6, 3) := by decide +kernel
theorem dX6_enters_46 : decode cX6_enters 46 = .ok (.iload 4, 2) := by decide +kernel
theorem dX6_enters_48 : decode cX6_enters 48 = .ok (.ireturn, 1) := by decide +kernel
theorem dX6_enters_49 : decode cX6_enters 49 = .ok (.iload 4, 2) := by decide +kernel
theorem dX6_enters_51 : decode cX6_enters 51 = .ok (.iload 6, 2) := by decide +kernel
theorem dX6_enters_53 : decode cX6_enters 53 = .ok (.invokestatic 171, 3) := by decide +kernel
theorem dX6_enters_56 : decode cX6_enters 56 = .ok (.ifCond .eq 15, 3) := by decide +kernel
theorem dX6_enters_59 : decode cX6_enters 59 = .ok (.iload 4, 2) := by decide +kernel
theorem dX6_enters_61 : decode cX6_enters 61 = .ok (.iconst 1, 1) := by decide +kernel
theorem dX6_enters_62 : decode cX6_enters 62 = .ok (.iload 6, 2) := by decide +kernel
theorem dX6_enters_64 : decode cX6_enters 64 = .ok (.ishl, 1) := by decide +kernel
theorem dX6_enters_65 : decode cX6_enters 65 = .ok (.iconst (-1), 1) := by decide +kernel
theorem dX6_enters_66 : decode cX6_enters 66 = .ok (.ixor, 1) := by decide +kernel
theorem dX6_enters_67 : decode cX6_enters 67 = .ok (.iand, 1) := by decide +kernel
theorem dX6_enters_68 : decode cX6_enters 68 = .ok (.goto 4, 3) := by decide +kernel
theorem dX6_enters_71 : decode cX6_enters 71 = .ok (.iconst (-1), 1) := by decide +kernel
theorem dX6_enters_72 : decode cX6_enters 72 = .ok (.ireturn, 1) := by decide +kernel
set_option maxRecDepth 20000 in
theorem ggX6_given_X6_holds : GoodIn wsX6_given wsX6_holds := goodIn_r _ [5] (by decide +kernel) (by decide +kernel)
set_option maxRecDepth 20000 in
theorem gX6_given_X6_holds : GoodIn wsX6_given (va_wsS RX6 171 yX6_holds wsX6_holds) := goodIn_app (goodIn_of _ (by decide +kernel)) ggX6_given_X6_holds
theorem dX6_given_0 : decode cX6_given 0 = .ok (.aload_n 0, 1) := by decide +kernel
theorem dX6_given_1 : decode cX6_given 1 = .ok (.getfield 7, 3) := by decide +kernel
theorem dX6_given_4 : decode cX6_given 4 = .ok (.bipush 64, 2) := by decide +kernel
theorem dX6_given_6 : decode cX6_given 6 = .ok (.iload_n 1, 1) := by decide +kernel
theorem dX6_given_7 : decode cX6_given 7 = .ok (.iadd, 1) := by decide +kernel
theorem dX6_given_8 : decode cX6_given 8 = .ok (.iaload, 1) := by decide +kernel
theorem dX6_given_9 : decode cX6_given 9 = .ok (.istore 4, 2) := by decide +kernel
theorem dX6_given_11 : decode cX6_given 11 = .ok (.aload_n 0, 1) := by decide +kernel
theorem dX6_given_12 : decode cX6_given 12 = .ok (.getfield 7, 3) := by decide +kernel
theorem dX6_given_15 : decode cX6_given 15 = .ok (.bipush 52, 2) := by decide +kernel
theorem dX6_given_17 : decode cX6_given 17 = .ok (.iload_n 1, 1) := by decide +kernel
theorem dX6_given_18 : decode cX6_given 18 = .ok (.iadd, 1) := by decide +kernel
theorem dX6_given_19 : decode cX6_given 19 = .ok (.iaload, 1) := by decide +kernel
theorem dX6_given_20 : decode cX6_given 20 = .ok (.iload_n 2, 1) := by decide +kernel
theorem dX6_given_21 : decode cX6_given 21 = .ok (.if_icmp .ne 39, 3) := by decide +kernel
theorem dX6_given_24 : decode cX6_given 24 = .ok (.iload 4, 2) := by decide +kernel
theorem dX6_given_26 : decode cX6_given 26 = .ok (.bipush 9, 2) := by decide +kernel
theorem dX6_given_28 : decode cX6_given 28 = .ok (.if_icmp .eq 12, 3) := by decide +kernel
theorem dX6_given_31 : decode cX6_given 31 = .ok (.iload_n 3, 1) := by decide +kernel
theorem dX6_given_32 : decode cX6_given 32 = .ok (.iload 4, 2) := by decide +kernel
theorem dX6_given_34 : decode cX6_given 34 = .ok (.invokestatic 171, 3) := by decide +kernel
theorem dX6_given_37 : decode cX6_given 37 = .ok (.ifCond .eq 23, 3) := by decide +kernel
theorem dX6_given_40 : decode cX6_given 40 = .ok (.iload_n 3, 1) := by decide +kernel
theorem dX6_given_41 : decode cX6_given 41 = .ok (.aload_n 0, 1) := by decide +kernel
theorem dX6_given_42 : decode cX6_given 42 = .ok (.getfield 7, 3) := by decide +kernel
theorem dX6_given_45 : decode cX6_given 45 = .ok (.bipush 58, 2) := by decide +kernel
theorem dX6_given_47 : decode cX6_given 47 = .ok (.iload_n 1, 1) := by decide +kernel
theorem dX6_given_48 : decode cX6_given 48 = .ok (.iadd, 1) := by decide +kernel
theorem dX6_given_49 : decode cX6_given 49 = .ok (.iaload, 1) := by decide +kernel
theorem dX6_given_50 : decode cX6_given 50 = .ok (.invokestatic 171, 3) := by decide +kernel
theorem dX6_given_53 : decode cX6_given 53 = .ok (.ifCond .ne 7, 3) := by decide +kernel
theorem dX6_given_56 : decode cX6_given 56 = .ok (.iconst 1, 1) := by decide +kernel
theorem dX6_given_57 : decode cX6_given 57 = .ok (.goto 4, 3) := by decide +kernel
theorem dX6_given_60 : decode cX6_given 60 = .ok (.iconst 0, 1) := by decide +kernel
theorem dX6_given_61 : decode cX6_given 61 = .ok (.istore 5, 2) := by decide +kernel
theorem dX6_given_63 : decode cX6_given 63 = .ok (.iload 5, 2) := by decide +kernel
theorem dX6_given_65 : decode cX6_given 65 = .ok (.ifCond .eq 19, 3) := by decide +kernel
theorem dX6_given_68 : decode cX6_given 68 = .ok (.iload_n 3, 1) := by decide +kernel
theorem dX6_given_69 : decode cX6_given 69 = .ok (.iconst 1, 1) := by decide +kernel
theorem dX6_given_70 : decode cX6_given 70 = .ok (.aload_n 0, 1) := by decide +kernel
theorem dX6_given_71 : decode cX6_given 71 = .ok (.getfield 7, 3) := by decide +kernel
theorem dX6_given_74 : decode cX6_given 74 = .ok (.bipush 58, 2) := by decide +kernel
theorem dX6_given_76 : decode cX6_given 76 = .ok (.iload_n 1, 1) := by decide +kernel
theorem dX6_given_77 : decode cX6_given 77 = .ok (.iadd, 1) := by decide +kernel
theorem dX6_given_78 : decode cX6_given 78 = .ok (.iaload, 1) := by decide +kernel
theorem dX6_given_79 : decode cX6_given 79 = .ok (.ishl, 1) := by decide +kernel
theorem dX6_given_80 : decode cX6_given 80 = .ok (.ior, 1) := by decide +kernel
theorem dX6_given_81 : decode cX6_given 81 = .ok (.goto 4, 3) := by decide +kernel
theorem dX6_given_84 : decode cX6_given 84 = .ok (.iconst (-1), 1) := by decide +kernel
theorem dX6_given_85 : decode cX6_given 85 = .ok (.ireturn, 1) := by decide +kernel
theorem dX6_remember_0 : decode cX6_remember 0 = .ok (.aload_n 0, 1) := by decide +kernel
theorem dX6_remember_1 : decode cX6_remember 1 = .ok (.getfield 16, 3) := by decide +kernel
theorem dX6_remember_4 : decode cX6_remember 4 = .ok (.iconst 3, 1) := by decide +kernel
theorem dX6_remember_5 : decode cX6_remember 5 = .ok (.iaload, 1) := by decide +kernel
theorem dX6_remember_6 : decode cX6_remember 6 = .ok (.bipush 12, 2) := by decide +kernel
theorem dX6_remember_8 : decode cX6_remember 8 = .ok (.if_icmp .ne 45, 3) := by decide +kernel
theorem dX6_remember_11 : decode cX6_remember 11 = .ok (.iconst 0, 1) := by decide +kernel
theorem dX6_remember_12 : decode cX6_remember 12 = .ok (.istore_n 1, 1) := by decide +kernel
theorem dX6_remember_13 : decode cX6_remember 13 = .ok (.iload_n 1, 1) := by decide +kernel
theorem dX6_remember_14 : decode cX6_remember 14 = .ok (.bipush 33, 2) := by decide +kernel
theorem dX6_remember_16 : decode cX6_remember 16 = .ok (.if_icmp .ge 27, 3) := by decide +kernel
theorem dX6_remember_19 : decode cX6_remember 19 = .ok (.aload_n 0, 1) := by decide +kernel
theorem dX6_remember_20 : decode cX6_remember 20 = .ok (.getfield 16, 3) := by decide +kernel
theorem dX6_remember_23 : decode cX6_remember 23 = .ok (.iconst 4, 1) := by decide +kernel
theorem dX6_remember_24 : decode cX6_remember 24 = .ok (.iload_n 1, 1) := by decide +kernel
theorem dX6_remember_25 : decode cX6_remember 25 = .ok (.iadd, 1) := by decide +kernel
theorem dX6_remember_26 : decode cX6_remember 26 = .ok (.aload_n 0, 1) := by decide +kernel
theorem dX6_remember_27 : decode cX6_remember 27 = .ok (.getfield 16, 3) := by decide +kernel
theorem dX6_remember_30 : decode cX6_remember 30 = .ok (.iconst 4, 1) := by decide +kernel
theorem dX6_remember_31 : decode cX6_remember 31 = .ok (.iload_n 1, 1) := by decide +kernel
theorem dX6_remember_32 : decode cX6_remember 32 = .ok (.iadd, 1) := by decide +kernel
theorem dX6_remember_33 : decode cX6_remember 33 = .ok (.iconst 3, 1) := by decide +kernel
theorem dX6_remember_34 : decode cX6_remember 34 = .ok (.iadd, 1) := by decide +kernel
theorem dX6_remember_35 : decode cX6_remember 35 = .ok (.iaload, 1) := by decide +kernel
theorem dX6_remember_36 : decode cX6_remember 36 = .ok (.iastore, 1) := by decide +kernel
theorem dX6_remember_37 : decode cX6_remember 37 = .ok (.iinc 1 1, 3) := by decide +kernel
theorem dX6_remember_40 : decode cX6_remember 40 = .ok (.goto (-27), 3) := by decide +kernel
theorem dX6_remember_43 : decode cX6_remember 43 = .ok (.aload_n 0, 1) := by decide +kernel
theorem dX6_remember_44 : decode cX6_remember 44 = .ok (.getfield 16, 3) := by decide +kernel
theorem dX6_remember_47 : decode cX6_remember 47 = .ok (.iconst 3, 1) := by decide +kernel
theorem dX6_remember_48 : decode cX6_remember 48 = .ok (.dup2, 1) := by decide +kernel
theorem dX6_remember_49 : decode cX6_remember 49 = .ok (.iaload, 1) := by decide +kernel
theorem dX6_remember_50 : decode cX6_remember 50 = .ok (.iconst 1, 1) := by decide +kernel
theorem dX6_remember_51 : decode cX6_remember 51 = .ok (.isub, 1) := by decide +kernel
theorem dX6_remember_52 : decode cX6_remember 52 = .ok (.iastore, 1) := by decide +kernel
theorem dX6_remember_53 : decode cX6_remember 53 = .ok (.iconst 4, 1) := by decide +kernel
theorem dX6_remember_54 : decode cX6_remember 54 = .ok (.iconst 3, 1) := by decide +kernel
theorem dX6_remember_55 : decode cX6_remember 55 = .ok (.aload_n 0, 1) := by decide +kernel
theorem dX6_remember_56 : decode cX6_remember 56 = .ok (.getfield 16, 3) := by decide +kernel
theorem dX6_remember_59 : decode cX6_remember 59 = .ok (.iconst 3, 1) := by decide +kernel
theorem dX6_remember_60 : decode cX6_remember 60 = .ok (.iaload, 1) := by decide +kernel
theorem dX6_remember_61 : decode cX6_remember 61 = .ok (.imul, 1) := by decide +kernel
theorem dX6_remember_62 : decode cX6_remember 62 = .ok (.iadd, 1) := by decide +kernel
theorem dX6_remember_63 : decode cX6_remember 63 = .ok (.istore_n 1, 1) := by decide +kernel
theorem dX6_remember_64 : decode cX6_remember 64 = .ok (.iconst 0, 1) := by decide +kernel
theorem dX6_remember_65 : decode cX6_remember 65 = .ok (.istore_n 2, 1) := by decide +kernel
theorem dX6_remember_66 : decode cX6_remember 66 = .ok (.iload_n 2, 1) := by decide +kernel
theorem dX6_remember_67 : decode cX6_remember 67 = .ok (.iconst 3, 1) := by decide +kernel
theorem dX6_remember_68 : decode cX6_remember 68 = .ok (.if_icmp .ge 23, 3) := by decide +kernel
theorem dX6_remember_71 : decode cX6_remember 71 = .ok (.aload_n 0, 1) := by decide +kernel
theorem dX6_remember_72 : decode cX6_remember 72 = .ok (.getfield 16, 3) := by decide +kernel
theorem dX6_remember_75 : decode cX6_remember 75 = .ok (.iload_n 1, 1) := by decide +kernel
theorem dX6_remember_76 : decode cX6_remember 76 = .ok (.iload_n 2, 1) := by decide +kernel
theorem dX6_remember_77 : decode cX6_remember 77 = .ok (.iadd, 1) := by decide +kernel
theorem dX6_remember_78 : decode cX6_remember 78 = .ok (.aload_n 0, 1) := by decide +kernel
theorem dX6_remember_79 : decode cX6_remember 79 = .ok (.getfield 16, 3) := by decide +kernel
theorem dX6_remember_82 : decode cX6_remember 82 = .ok (.iload_n 2, 1) := by decide +kernel
theorem dX6_remember_83 : decode cX6_remember 83 = .ok (.iaload, 1) := by decide +kernel
theorem dX6_remember_84 : decode cX6_remember 84 = .ok (.iastore, 1) := by decide +kernel
theorem dX6_remember_85 : decode cX6_remember 85 = .ok (.iinc 2 1, 3) := by decide +kernel
theorem dX6_remember_88 : decode cX6_remember 88 = .ok (.goto (-22), 3) := by decide +kernel
theorem dX6_remember_91 : decode cX6_remember 91 = .ok (.aload_n 0, 1) := by decide +kernel
theorem dX6_remember_92 : decode cX6_remember 92 = .ok (.getfield 16, 3) := by decide +kernel
theorem dX6_remember_95 : decode cX6_remember 95 = .ok (.iconst 3, 1) := by decide +kernel
theorem dX6_remember_96 : decode cX6_remember 96 = .ok (.dup2, 1) := by decide +kernel
theorem dX6_remember_97 : decode cX6_remember 97 = .ok (.iaload, 1) := by decide +kernel
theorem dX6_remember_98 : decode cX6_remember 98 = .ok (.iconst 1, 1) := by decide +kernel
theorem dX6_remember_99 : decode cX6_remember 99 = .ok (.iadd, 1) := by decide +kernel
theorem dX6_remember_100 : decode cX6_remember 100 = .ok (.iastore, 1) := by decide +kernel
theorem dX6_remember_101 : decode cX6_remember 101 = .ok (.return_, 1) := by decide +kernel
set_option maxRecDepth 20000 in
theorem ggX6_walks_X6_isRoad : GoodIn wsX6_walks wsX6_isRoad := goodIn_r _ [7, 2, 8, 9, 6, 10, 30, 31, 32, 33, 34, 35, 36, 37, 38, 39, 40, 41, 42, 43, 44, 45, 46, 47, 48, 49, 50, 51, 52, 53, 54, 55, 56, 57, 58] (by decide +kernel) (by decide +kernel)
set_option maxRecDepth 20000 in
theorem gX6_walks_X6_isRoad : GoodIn wsX6_walks (wsV RX6 158 RX6 yX6_isRoad wsX6_isRoad) := goodIn_app (goodIn_of _ (by decide +kernel)) ggX6_walks_X6_isRoad
set_option maxRecDepth 20000 in
theorem ggX6_walks_X6_enters : GoodIn wsX6_walks wsX6_enters := goodIn_r _ [14, 2, 15, 16, 17, 6, 18, 19, 20, 21, 22, 23, 24, 25, 30, 31, 32, 33, 34, 35, 36, 37, 38, 39, 40, 41, 42, 43, 44, 45, 46, 47, 48, 49, 50, 51, 52, 53, 54, 55, 56, 57, 58] (by decide +kernel) (by decide +kernel)
set_option maxRecDepth 20000 in
theorem gX6_walks_X6_enters : GoodIn wsX6_walks (wsV RX6 174 RX6 yX6_enters wsX6_enters) := goodIn_app (goodIn_of _ (by decide +kernel)) ggX6_walks_X6_enters
set_option maxRecDepth 20000 in
theorem ggX6_walks_X6_remember : GoodIn wsX6_walks wsX6_remember := goodIn_r _ [29, 1, 30, 31, 32, 33, 34, 35, 36, 37, 38, 39, 40, 41, 42, 43, 44, 45, 46, 47, 48, 49, 50, 51, 52, 53, 54, 55, 56, 57, 58] (by decide +kernel) (by decide +kernel)
set_option maxRecDepth 20000 in
theorem gX6_walks_X6_remember : GoodIn wsX6_walks (wsV RX6 178 RX6 yX6_remember wsX6_remember) := goodIn_app (goodIn_of _ (by decide +kernel)) ggX6_walks_X6_remember
set_option maxRecDepth 20000 in
theorem ggX6_walks_X6_otherEnd : GoodIn wsX6_walks wsX6_otherEnd := goodIn_r _ [18, 2, 30, 31, 32, 33, 34, 35, 36, 37, 38, 39, 40, 41, 42, 43, 44, 45, 46, 47, 48, 49, 50, 51, 52, 53, 54, 55, 56, 57, 58] (by decide +kernel) (by decide +kernel)
set_option maxRecDepth 20000 in
theorem gX6_walks_X6_otherEnd : GoodIn wsX6_walks (wsV RX6 164 RX6 yX6_otherEnd wsX6_otherEnd) := goodIn_app (goodIn_of _ (by decide +kernel)) ggX6_walks_X6_otherEnd
theorem dX6_walks_0 : decode cX6_walks 0 = .ok (.aload_n 0, 1) := by decide +kernel
theorem dX6_walks_1 : decode cX6_walks 1 = .ok (.iload_n 1, 1) := by decide +kernel
theorem dX6_walks_2 : decode cX6_walks 2 = .ok (.invokevirtual 158, 3) := by decide +kernel
theorem dX6_walks_5 : decode cX6_walks 5 = .ok (.ifCond .ne 5, 3) := by decide +kernel
theorem dX6_walks_8 : decode cX6_walks 8 = .ok (.iconst (-1), 1) := by decide +kernel
theorem dX6_walks_9 : decode cX6_walks 9 = .ok (.ireturn, 1) := by decide +kernel
theorem dX6_walks_10 : decode cX6_walks 10 = .ok (.aload_n 0, 1) := by decide +kernel
theorem dX6_walks_11 : decode cX6_walks 11 = .ok (.getfield 16, 3) := by decide +kernel
theorem dX6_walks_14 : decode cX6_walks 14 = .ok (.iconst 1, 1) := by decide +kernel
theorem dX6_walks_15 : decode cX6_walks 15 = .ok (.iaload, 1) := by decide +kernel
theorem dX6_walks_16 : decode cX6_walks 16 = .ok (.aload_n 0, 1) := by decide +kernel
theorem dX6_walks_17 : decode cX6_walks 17 = .ok (.getfield 7, 3) := by decide +kernel
theorem dX6_walks_20 : decode cX6_walks 20 = .ok (.bipush 43, 2) := by decide +kernel
theorem dX6_walks_22 : decode cX6_walks 22 = .ok (.iload_n 1, 1) := by decide +kernel
theorem dX6_walks_23 : decode cX6_walks 23 = .ok (.iadd, 1) := by decide +kernel
theorem dX6_walks_24 : decode cX6_walks 24 = .ok (.iaload, 1) := by decide +kernel
theorem dX6_walks_25 : decode cX6_walks 25 = .ok (.iadd, 1) := by decide +kernel
theorem dX6_walks_26 : decode cX6_walks 26 = .ok (.istore_n 2, 1) := by decide +kernel
theorem dX6_walks_27 : decode cX6_walks 27 = .ok (.iload_n 2, 1) := by decide +kernel
theorem dX6_walks_28 : decode cX6_walks 28 = .ok (.sipush 9999, 3) := by decide +kernel
theorem dX6_walks_31 : decode cX6_walks 31 = .ok (.if_icmp .le 7, 3) := by decide +kernel
theorem dX6_walks_34 : decode cX6_walks 34 = .ok (.iconst (-1), 1) := by decide +kernel
theorem dX6_walks_35 : decode cX6_walks 35 = .ok (.goto 21, 3) := by decide +kernel
theorem dX6_walks_38 : decode cX6_walks 38 = .ok (.aload_n 0, 1) := by decide +kernel
theorem dX6_walks_39 : decode cX6_walks 39 = .ok (.iload_n 1, 1) := by decide +kernel
theorem dX6_walks_40 : decode cX6_walks 40 = .ok (.aload_n 0, 1) := by decide +kernel
theorem dX6_walks_41 : decode cX6_walks 41 = .ok (.getfield 16, 3) := by decide +kernel
theorem dX6_walks_44 : decode cX6_walks 44 = .ok (.iconst 0, 1) := by decide +kernel
theorem dX6_walks_45 : decode cX6_walks 45 = .ok (.iaload, 1) := by decide +kernel
theorem dX6_walks_46 : decode cX6_walks 46 = .ok (.iload_n 2, 1) := by decide +kernel
theorem dX6_walks_47 : decode cX6_walks 47 = .ok (.aload_n 0, 1) := by decide +kernel
theorem dX6_walks_48 : decode cX6_walks 48 = .ok (.getfield 16, 3) := by decide +kernel
theorem dX6_walks_51 : decode cX6_walks 51 = .ok (.iconst 2, 1) := by decide +kernel
theorem dX6_walks_52 : decode cX6_walks 52 = .ok (.iaload, 1) := by decide +kernel
theorem dX6_walks_53 : decode cX6_walks 53 = .ok (.invokevirtual 174, 3) := by decide +kernel
theorem dX6_walks_56 : decode cX6_walks 56 = .ok (.istore_n 3, 1) := by decide +kernel
theorem dX6_walks_57 : decode cX6_walks 57 = .ok (.iload_n 3, 1) := by decide +kernel
theorem dX6_walks_58 : decode cX6_walks 58 = .ok (.ifCond .ge 6, 3) := by decide +kernel
theorem dX6_walks_61 : decode cX6_walks 61 = .ok (.bipush (-2), 2) := by decide +kernel
theorem dX6_walks_63 : decode cX6_walks 63 = .ok (.ireturn, 1) := by decide +kernel
theorem dX6_walks_64 : decode cX6_walks 64 = .ok (.aload_n 0, 1) := by decide +kernel
theorem dX6_walks_65 : decode cX6_walks 65 = .ok (.invokevirtual 178, 3) := by decide +kernel
theorem dX6_walks_68 : decode cX6_walks 68 = .ok (.aload_n 0, 1) := by decide +kernel
theorem dX6_walks_69 : decode cX6_walks 69 = .ok (.getfield 16, 3) := by decide +kernel
theorem dX6_walks_72 : decode cX6_walks 72 = .ok (.iconst 0, 1) := by decide +kernel
theorem dX6_walks_73 : decode cX6_walks 73 = .ok (.aload_n 0, 1) := by decide +kernel
theorem dX6_walks_74 : decode cX6_walks 74 = .ok (.iload_n 1, 1) := by decide +kernel
theorem dX6_walks_75 : decode cX6_walks 75 = .ok (.aload_n 0, 1) := by decide +kernel
theorem dX6_walks_76 : decode cX6_walks 76 = .ok (.getfield 16, 3) := by decide +kernel
theorem dX6_walks_79 : decode cX6_walks 79 = .ok (.iconst 0, 1) := by decide +kernel
theorem dX6_walks_80 : decode cX6_walks 80 = .ok (.iaload, 1) := by decide +kernel
theorem dX6_walks_81 : decode cX6_walks 81 = .ok (.invokevirtual 164, 3) := by decide +kernel
theorem dX6_walks_84 : decode cX6_walks 84 = .ok (.iastore, 1) := by decide +kernel
theorem dX6_walks_85 : decode cX6_walks 85 = .ok (.aload_n 0, 1) := by decide +kernel
theorem dX6_walks_86 : decode cX6_walks 86 = .ok (.getfield 16, 3) := by decide +kernel
theorem dX6_walks_89 : decode cX6_walks 89 = .ok (.iconst 1, 1) := by decide +kernel
theorem dX6_walks_90 : decode cX6_walks 90 = .ok (.iload_n 2, 1) := by decide +kernel
theorem dX6_walks_91 : decode cX6_walks 91 = .ok (.iastore, 1) := by decide +kernel
theorem dX6_walks_92 : decode cX6_walks 92 = .ok (.aload_n 0, 1) := by decide +kernel
theorem dX6_walks_93 : decode cX6_walks 93 = .ok (.getfield 16, 3) := by decide +kernel
theorem dX6_walks_96 : decode cX6_walks 96 = .ok (.iconst 2, 1) := by decide +kernel
theorem dX6_walks_97 : decode cX6_walks 97 = .ok (.iload_n 3, 1) := by decide +kernel
theorem dX6_walks_98 : decode cX6_walks 98 = .ok (.iastore, 1) := by decide +kernel
theorem dX6_walks_99 : decode cX6_walks 99 = .ok (.aload_n 0, 1) := by decide +kernel
theorem dX6_walks_100 : decode cX6_walks 100 = .ok (.getfield 16, 3) := by decide +kernel
theorem dX6_walks_103 : decode cX6_walks 103 = .ok (.iconst 0, 1) := by decide +kernel
theorem dX6_walks_104 : decode cX6_walks 104 = .ok (.iaload, 1) := by decide +kernel
theorem dX6_walks_105 : decode cX6_walks 105 = .ok (.ireturn, 1) := by decide +kernel
set_option maxRecDepth 20000 in
theorem ggX6_waits_X6_remember : GoodIn wsX6_waits wsX6_remember := goodIn_r _ [7, 2, 8, 9, 10, 11, 12, 13, 14, 15, 16, 17, 18, 19, 20, 21, 22, 23, 24, 25, 26, 27, 28, 29, 30, 31, 32, 33, 34, 35, 36] (by decide +kernel) (by decide +kernel)
set_option maxRecDepth 20000 in
theorem gX6_waits_X6_remember : GoodIn wsX6_waits (wsV RX6 178 RX6 yX6_remember wsX6_remember) := goodIn_app (goodIn_of _ (by decide +kernel)) ggX6_waits_X6_remember
theorem dX6_waits_0 : decode cX6_waits 0 = .ok (.aload_n 0, 1) := by decide +kernel
theorem dX6_waits_1 : decode cX6_waits 1 = .ok (.getfield 7, 3) := by decide +kernel
theorem dX6_waits_4 : decode cX6_waits 4 = .ok (.iconst 0, 1) := by decide +kernel
theorem dX6_waits_5 : decode cX6_waits 5 = .ok (.iaload, 1) := by decide +kernel
theorem dX6_waits_6 : decode cX6_waits 6 = .ok (.ifCond .eq 15, 3) := by decide +kernel
theorem dX6_waits_9 : decode cX6_waits 9 = .ok (.aload_n 0, 1) := by decide +kernel
theorem dX6_waits_10 : decode cX6_waits 10 = .ok (.getfield 16, 3) := by decide +kernel
theorem dX6_waits_13 : decode cX6_waits 13 = .ok (.iconst 1, 1) := by decide +kernel
theorem dX6_waits_14 : decode cX6_waits 14 = .ok (.iaload, 1) := by decide +kernel
theorem dX6_waits_15 : decode cX6_waits 15 = .ok (.sipush 9999, 3) := by decide +kernel
theorem dX6_waits_18 : decode cX6_waits 18 = .ok (.if_icmp .ne 6, 3) := by decide +kernel
theorem dX6_waits_21 : decode cX6_waits 21 = .ok (.bipush (-2), 2) := by decide +kernel
theorem dX6_waits_23 : decode cX6_waits 23 = .ok (.ireturn, 1) := by decide +kernel
theorem dX6_waits_24 : decode cX6_waits 24 = .ok (.aload_n 0, 1) := by decide +kernel
theorem dX6_waits_25 : decode cX6_waits 25 = .ok (.invokevirtual 178, 3) := by decide +kernel
theorem dX6_waits_28 : decode cX6_waits 28 = .ok (.aload_n 0, 1) := by decide +kernel
theorem dX6_waits_29 : decode cX6_waits 29 = .ok (.getfield 16, 3) := by decide +kernel
theorem dX6_waits_32 : decode cX6_waits 32 = .ok (.iconst 1, 1) := by decide +kernel
theorem dX6_waits_33 : decode cX6_waits 33 = .ok (.dup2, 1) := by decide +kernel
theorem dX6_waits_34 : decode cX6_waits 34 = .ok (.iaload, 1) := by decide +kernel
theorem dX6_waits_35 : decode cX6_waits 35 = .ok (.iconst 1, 1) := by decide +kernel
theorem dX6_waits_36 : decode cX6_waits 36 = .ok (.iadd, 1) := by decide +kernel
theorem dX6_waits_37 : decode cX6_waits 37 = .ok (.iastore, 1) := by decide +kernel
theorem dX6_waits_38 : decode cX6_waits 38 = .ok (.aload_n 0, 1) := by decide +kernel
theorem dX6_waits_39 : decode cX6_waits 39 = .ok (.getfield 16, 3) := by decide +kernel
theorem dX6_waits_42 : decode cX6_waits 42 = .ok (.iconst 1, 1) := by decide +kernel
theorem dX6_waits_43 : decode cX6_waits 43 = .ok (.iaload, 1) := by decide +kernel
theorem dX6_waits_44 : decode cX6_waits 44 = .ok (.ireturn, 1) := by decide +kernel
set_option maxRecDepth 20000 in
theorem ggX6_asks_X6_isHost : GoodIn wsX6_asks wsX6_isHost := goodIn_r _ [6, 7, 8, 9, 5, 10, 22, 23, 24, 25, 26, 27, 28, 29, 30, 31, 32, 33, 34, 35, 36, 37, 38, 39, 40, 41, 42, 43, 44, 45, 46, 47, 48, 49, 50] (by decide +kernel) (by decide +kernel)
set_option maxRecDepth 20000 in
theorem gX6_asks_X6_isHost : GoodIn wsX6_asks (wsV RX6 161 RX6 yX6_isHost wsX6_isHost) := goodIn_app (goodIn_of _ (by decide +kernel)) ggX6_asks_X6_isHost
set_option maxRecDepth 20000 in
theorem ggX6_asks_X6_given : GoodIn wsX6_asks wsX6_given := goodIn_r _ [14, 7, 15, 16, 5, 17, 22, 23, 24, 25, 26, 27, 28, 29, 30, 31, 32, 33, 34, 35, 36, 37, 38, 39, 40, 41, 42, 43, 44, 45, 46, 47, 48, 49, 50] (by decide +kernel) (by decide +kernel)
set_option maxRecDepth 20000 in
theorem gX6_asks_X6_given : GoodIn wsX6_asks (wsV RX6 181 RX6 yX6_given wsX6_given) := goodIn_app (goodIn_of _ (by decide +kernel)) ggX6_asks_X6_given
set_option maxRecDepth 20000 in
theorem ggX6_asks_X6_remember : GoodIn wsX6_asks wsX6_remember := goodIn_r _ [21, 1, 22, 23, 24, 25, 26, 27, 28, 29, 30, 31, 32, 33, 34, 35, 36, 37, 38, 39, 40, 41, 42, 43, 44, 45, 46, 47, 48, 49, 50] (by decide +kernel) (by decide +kernel)
set_option maxRecDepth 20000 in
theorem gX6_asks_X6_remember : GoodIn wsX6_asks (wsV RX6 178 RX6 yX6_remember wsX6_remember) := goodIn_app (goodIn_of _ (by decide +kernel)) ggX6_asks_X6_remember
theorem dX6_asks_0 : decode cX6_asks 0 = .ok (.aload_n 0, 1) := by decide +kernel
theorem dX6_asks_1 : decode cX6_asks 1 = .ok (.iload_n 1, 1) := by decide +kernel
theorem dX6_asks_2 : decode cX6_asks 2 = .ok (.invokevirtual 161, 3) := by decide +kernel
theorem dX6_asks_5 : decode cX6_asks 5 = .ok (.ifCond .ne 5, 3) := by decide +kernel
theorem dX6_asks_8 : decode cX6_asks 8 = .ok (.iconst (-1), 1) := by decide +kernel
theorem dX6_asks_9 : decode cX6_asks 9 = .ok (.ireturn, 1) := by decide +kernel
theorem dX6_asks_10 : decode cX6_asks 10 = .ok (.aload_n 0, 1) := by decide +kernel
theorem dX6_asks_11 : decode cX6_asks 11 = .ok (.iload_n 1, 1) := by decide +kernel
theorem dX6_asks_12 : decode cX6_asks 12 = .ok (.aload_n 0, 1) := by decide +kernel
theorem dX6_asks_13 : decode cX6_asks 13 = .ok (.getfield 16, 3) := by decide +kernel
theorem dX6_asks_16 : decode cX6_asks 16 = .ok (.iconst 0, 1) := by decide +kernel
theorem dX6_asks_17 : decode cX6_asks 17 = .ok (.iaload, 1) := by decide +kernel
theorem dX6_asks_18 : decode cX6_asks 18 = .ok (.aload_n 0, 1) := by decide +kernel
theorem dX6_asks_19 : decode cX6_asks 19 = .ok (.getfield 16, 3) := by decide +kernel
theorem dX6_asks_22 : decode cX6_asks 22 = .ok (.iconst 2, 1) := by decide +kernel
theorem dX6_asks_23 : decode cX6_asks 23 = .ok (.iaload, 1) := by decide +kernel
theorem dX6_asks_24 : decode cX6_asks 24 = .ok (.invokevirtual 181, 3) := by decide +kernel
theorem dX6_asks_27 : decode cX6_asks 27 = .ok (.istore_n 2, 1) := by decide +kernel
theorem dX6_asks_28 : decode cX6_asks 28 = .ok (.iload_n 2, 1) := by decide +kernel
theorem dX6_asks_29 : decode cX6_asks 29 = .ok (.ifCond .ge 6, 3) := by decide +kernel
theorem dX6_asks_32 : decode cX6_asks 32 = .ok (.bipush (-2), 2) := by decide +kernel
theorem dX6_asks_34 : decode cX6_asks 34 = .ok (.ireturn, 1) := by decide +kernel
theorem dX6_asks_35 : decode cX6_asks 35 = .ok (.aload_n 0, 1) := by decide +kernel
theorem dX6_asks_36 : decode cX6_asks 36 = .ok (.invokevirtual 178, 3) := by decide +kernel
theorem dX6_asks_39 : decode cX6_asks 39 = .ok (.aload_n 0, 1) := by decide +kernel
theorem dX6_asks_40 : decode cX6_asks 40 = .ok (.getfield 16, 3) := by decide +kernel
theorem dX6_asks_43 : decode cX6_asks 43 = .ok (.iconst 2, 1) := by decide +kernel
theorem dX6_asks_44 : decode cX6_asks 44 = .ok (.iload_n 2, 1) := by decide +kernel
theorem dX6_asks_45 : decode cX6_asks 45 = .ok (.iastore, 1) := by decide +kernel
theorem dX6_asks_46 : decode cX6_asks 46 = .ok (.iload_n 2, 1) := by decide +kernel
theorem dX6_asks_47 : decode cX6_asks 47 = .ok (.ireturn, 1) := by decide +kernel
theorem dX6_undo_0 : decode cX6_undo 0 = .ok (.aload_n 0, 1) := by decide +kernel
theorem dX6_undo_1 : decode cX6_undo 1 = .ok (.getfield 16, 3) := by decide +kernel
theorem dX6_undo_4 : decode cX6_undo 4 = .ok (.iconst 3, 1) := by decide +kernel
theorem dX6_undo_5 : decode cX6_undo 5 = .ok (.iaload, 1) := by decide +kernel
theorem dX6_undo_6 : decode cX6_undo 6 = .ok (.ifCond .ne 6, 3) := by decide +kernel
theorem dX6_undo_9 : decode cX6_undo 9 = .ok (.bipush (-2), 2) := by decide +kernel
theorem dX6_undo_11 : decode cX6_undo 11 = .ok (.ireturn, 1) := by decide +kernel
theorem dX6_undo_12 : decode cX6_undo 12 = .ok (.aload_n 0, 1) := by decide +kernel
theorem dX6_undo_13 : decode cX6_undo 13 = .ok (.getfield 16, 3) := by decide +kernel
theorem dX6_undo_16 : decode cX6_undo 16 = .ok (.iconst 3, 1) := by decide +kernel
theorem dX6_undo_17 : decode cX6_undo 17 = .ok (.dup2, 1) := by decide +kernel
theorem dX6_undo_18 : decode cX6_undo 18 = .ok (.iaload, 1) := by decide +kernel
theorem dX6_undo_19 : decode cX6_undo 19 = .ok (.iconst 1, 1) := by decide +kernel
theorem dX6_undo_20 : decode cX6_undo 20 = .ok (.isub, 1) := by decide +kernel
theorem dX6_undo_21 : decode cX6_undo 21 = .ok (.iastore, 1) := by decide +kernel
theorem dX6_undo_22 : decode cX6_undo 22 = .ok (.iconst 4, 1) := by decide +kernel
theorem dX6_undo_23 : decode cX6_undo 23 = .ok (.iconst 3, 1) := by decide +kernel
theorem dX6_undo_24 : decode cX6_undo 24 = .ok (.aload_n 0, 1) := by decide +kernel
theorem dX6_undo_25 : decode cX6_undo 25 = .ok (.getfield 16, 3) := by decide +kernel
theorem dX6_undo_28 : decode cX6_undo 28 = .ok (.iconst 3, 1) := by decide +kernel
theorem dX6_undo_29 : decode cX6_undo 29 = .ok (.iaload, 1) := by decide +kernel
theorem dX6_undo_30 : decode cX6_undo 30 = .ok (.imul, 1) := by decide +kernel
theorem dX6_undo_31 : decode cX6_undo 31 = .ok (.iadd, 1) := by decide +kernel
theorem dX6_undo_32 : decode cX6_undo 32 = .ok (.istore_n 1, 1) := by decide +kernel
theorem dX6_undo_33 : decode cX6_undo 33 = .ok (.iconst 0, 1) := by decide +kernel
theorem dX6_undo_34 : decode cX6_undo 34 = .ok (.istore_n 2, 1) := by decide +kernel
theorem dX6_undo_35 : decode cX6_undo 35 = .ok (.iload_n 2, 1) := by decide +kernel
theorem dX6_undo_36 : decode cX6_undo 36 = .ok (.iconst 3, 1) := by decide +kernel
theorem dX6_undo_37 : decode cX6_undo 37 = .ok (.if_icmp .ge 23, 3) := by decide +kernel
theorem dX6_undo_40 : decode cX6_undo 40 = .ok (.aload_n 0, 1) := by decide +kernel
theorem dX6_undo_41 : decode cX6_undo 41 = .ok (.getfield 16, 3) := by decide +kernel
theorem dX6_undo_44 : decode cX6_undo 44 = .ok (.iload_n 2, 1) := by decide +kernel
theorem dX6_undo_45 : decode cX6_undo 45 = .ok (.aload_n 0, 1) := by decide +kernel
theorem dX6_undo_46 : decode cX6_undo 46 = .ok (.getfield 16, 3) := by decide +kernel
theorem dX6_undo_49 : decode cX6_undo 49 = .ok (.iload_n 1, 1) := by decide +kernel
theorem dX6_undo_50 : decode cX6_undo 50 = .ok (.iload_n 2, 1) := by decide +kernel
theorem dX6_undo_51 : decode cX6_undo 51 = .ok (.iadd, 1) := by decide +kernel
theorem dX6_undo_52 : decode cX6_undo 52 = .ok (.iaload, 1) := by decide +kernel
theorem dX6_undo_53 : decode cX6_undo 53 = .ok (.iastore, 1) := by decide +kernel
theorem dX6_undo_54 : decode cX6_undo 54 = .ok (.iinc 2 1, 3) := by decide +kernel
theorem dX6_undo_57 : decode cX6_undo 57 = .ok (.goto (-22), 3) := by decide +kernel
theorem dX6_undo_60 : decode cX6_undo 60 = .ok (.aload_n 0, 1) := by decide +kernel
theorem dX6_undo_61 : decode cX6_undo 61 = .ok (.getfield 16, 3) := by decide +kernel
theorem dX6_undo_64 : decode cX6_undo 64 = .ok (.iconst 3, 1) := by decide +kernel
theorem dX6_undo_65 : decode cX6_undo 65 = .ok (.iaload, 1) := by decide +kernel
theorem dX6_undo_66 : decode cX6_undo 66 = .ok (.ireturn, 1) := by decide +kernel
set_option maxRecDepth 20000 in
theorem ggX6_roadsNow_X6_enters : GoodIn wsX6_roadsNow wsX6_enters := goodIn_r _ [7, 1, 8, 9, 10, 6, 11, 12, 13, 14, 15, 16, 17, 18, 19, 20, 21, 22, 23, 24, 25, 26, 27, 28, 29, 30, 31, 32, 33, 34, 35, 36, 37, 38, 39, 40, 41, 42, 43, 44, 45, 46, 47] (by decide +kernel) (by decide +kernel)
set_option maxRecDepth 20000 in
theorem gX6_roadsNow_X6_enters : GoodIn wsX6_roadsNow (wsV RX6 174 RX6 yX6_enters wsX6_enters) := goodIn_app (goodIn_of _ (by decide +kernel)) ggX6_roadsNow_X6_enters
theorem dX6_roadsNow_0 : decode cX6_roadsNow 0 = .ok (.iconst 0, 1) := by decide +kernel
theorem dX6_roadsNow_1 : decode cX6_roadsNow 1 = .ok (.istore_n 1, 1) := by decide +kernel
theorem dX6_roadsNow_2 : decode cX6_roadsNow 2 = .ok (.iconst 0, 1) := by decide +kernel
theorem dX6_roadsNow_3 : decode cX6_roadsNow 3 = .ok (.istore_n 2, 1) := by decide +kernel
theorem dX6_roadsNow_4 : decode cX6_roadsNow 4 = .ok (.iload_n 2, 1) := by decide +kernel
theorem dX6_roadsNow_5 : decode cX6_roadsNow 5 = .ok (.aload_n 0, 1) := by decide +kernel
theorem dX6_roadsNow_6 : decode cX6_roadsNow 6 = .ok (.getfield 7, 3) := by decide +kernel
theorem dX6_roadsNow_9 : decode cX6_roadsNow 9 = .ok (.iconst 1, 1) := by decide +kernel
theorem dX6_roadsNow_10 : decode cX6_roadsNow 10 = .ok (.iaload, 1) := by decide +kernel
theorem dX6_roadsNow_11 : decode cX6_roadsNow 11 = .ok (.if_icmp .ge 64, 3) := by decide +kernel
theorem dX6_roadsNow_14 : decode cX6_roadsNow 14 = .ok (.aload_n 0, 1) := by decide +kernel
theorem dX6_roadsNow_15 : decode cX6_roadsNow 15 = .ok (.getfield 16, 3) := by decide +kernel
theorem dX6_roadsNow_18 : decode cX6_roadsNow 18 = .ok (.iconst 1, 1) := by decide +kernel
theorem dX6_roadsNow_19 : decode cX6_roadsNow 19 = .ok (.iaload, 1) := by decide +kernel
theorem dX6_roadsNow_20 : decode cX6_roadsNow 20 = .ok (.aload_n 0, 1) := by decide +kernel
theorem dX6_roadsNow_21 : decode cX6_roadsNow 21 = .ok (.getfield 7, 3) := by decide +kernel
theorem dX6_roadsNow_24 : decode cX6_roadsNow 24 = .ok (.bipush 43, 2) := by decide +kernel
theorem dX6_roadsNow_26 : decode cX6_roadsNow 26 = .ok (.iload_n 2, 1) := by decide +kernel
theorem dX6_roadsNow_27 : decode cX6_roadsNow 27 = .ok (.iadd, 1) := by decide +kernel
theorem dX6_roadsNow_28 : decode cX6_roadsNow 28 = .ok (.iaload, 1) := by decide +kernel
theorem dX6_roadsNow_29 : decode cX6_roadsNow 29 = .ok (.iadd, 1) := by decide +kernel
theorem dX6_roadsNow_30 : decode cX6_roadsNow 30 = .ok (.istore_n 3, 1) := by decide +kernel
theorem dX6_roadsNow_31 : decode cX6_roadsNow 31 = .ok (.iload_n 1, 1) := by decide +kernel
theorem dX6_roadsNow_32 : decode cX6_roadsNow 32 = .ok (.iload_n 3, 1) := by decide +kernel
theorem dX6_roadsNow_33 : decode cX6_roadsNow 33 = .ok (.sipush 9999, 3) := by decide +kernel
theorem dX6_roadsNow_36 : decode cX6_roadsNow 36 = .ok (.if_icmp .gt 24, 3) := by decide +kernel
theorem dX6_roadsNow_39 : decode cX6_roadsNow 39 = .ok (.aload_n 0, 1) := by decide +kernel
theorem dX6_roadsNow_40 : decode cX6_roadsNow 40 = .ok (.iload_n 2, 1) := by decide +kernel
theorem dX6_roadsNow_41 : decode cX6_roadsNow 41 = .ok (.aload_n 0, 1) := by decide +kernel
theorem dX6_roadsNow_42 : decode cX6_roadsNow 42 = .ok (.getfield 16, 3) := by decide +kernel
theorem dX6_roadsNow_45 : decode cX6_roadsNow 45 = .ok (.iconst 0, 1) := by decide +kernel
theorem dX6_roadsNow_46 : decode cX6_roadsNow 46 = .ok (.iaload, 1) := by decide +kernel
theorem dX6_roadsNow_47 : decode cX6_roadsNow 47 = .ok (.iload_n 3, 1) := by decide +kernel
theorem dX6_roadsNow_48 : decode cX6_roadsNow 48 = .ok (.aload_n 0, 1) := by decide +kernel
theorem dX6_roadsNow_49 : decode cX6_roadsNow 49 = .ok (.getfield 16, 3) := by decide +kernel
theorem dX6_roadsNow_52 : decode cX6_roadsNow 52 = .ok (.iconst 2, 1) := by decide +kernel
theorem dX6_roadsNow_53 : decode cX6_roadsNow 53 = .ok (.iaload, 1) := by decide +kernel
theorem dX6_roadsNow_54 : decode cX6_roadsNow 54 = .ok (.invokevirtual 174, 3) := by decide +kernel
theorem dX6_roadsNow_57 : decode cX6_roadsNow 57 = .ok (.ifCond .ge 7, 3) := by decide +kernel
theorem dX6_roadsNow_60 : decode cX6_roadsNow 60 = .ok (.iconst 0, 1) := by decide +kernel
theorem dX6_roadsNow_61 : decode cX6_roadsNow 61 = .ok (.goto 6, 3) := by decide +kernel
theorem dX6_roadsNow_64 : decode cX6_roadsNow 64 = .ok (.iconst 1, 1) := by decide +kernel
theorem dX6_roadsNow_65 : decode cX6_roadsNow 65 = .ok (.iload_n 2, 1) := by decide +kernel
theorem dX6_roadsNow_66 : decode cX6_roadsNow 66 = .ok (.ishl, 1) := by decide +kernel
theorem dX6_roadsNow_67 : decode cX6_roadsNow 67 = .ok (.ior, 1) := by decide +kernel
theorem dX6_roadsNow_68 : decode cX6_roadsNow 68 = .ok (.istore_n 1, 1) := by decide +kernel
theorem dX6_roadsNow_69 : decode cX6_roadsNow 69 = .ok (.iinc 2 1, 3) := by decide +kernel
theorem dX6_roadsNow_72 : decode cX6_roadsNow 72 = .ok (.goto (-68), 3) := by decide +kernel
theorem dX6_roadsNow_75 : decode cX6_roadsNow 75 = .ok (.iload_n 1, 1) := by decide +kernel
theorem dX6_roadsNow_76 : decode cX6_roadsNow 76 = .ok (.ireturn, 1) := by decide +kernel
set_option maxRecDepth 20000 in
theorem ggX6_hostsNow_X6_given : GoodIn wsX6_hostsNow wsX6_given := goodIn_r _ [7, 1, 8, 9, 6, 10, 11, 12, 13, 14, 15, 16, 17, 18, 19, 20, 21, 22, 23, 24, 25, 26, 27, 28, 29, 30, 31, 32, 33, 34, 35, 36, 37, 38, 39] (by decide +kernel) (by decide +kernel)
set_option maxRecDepth 20000 in
theorem gX6_hostsNow_X6_given : GoodIn wsX6_hostsNow (wsV RX6 181 RX6 yX6_given wsX6_given) := goodIn_app (goodIn_of _ (by decide +kernel)) ggX6_hostsNow_X6_given
theorem dX6_hostsNow_0 : decode cX6_hostsNow 0 = .ok (.iconst 0, 1) := by decide +kernel
theorem dX6_hostsNow_1 : decode cX6_hostsNow 1 = .ok (.istore_n 1, 1) := by decide +kernel
theorem dX6_hostsNow_2 : decode cX6_hostsNow 2 = .ok (.iconst 0, 1) := by decide +kernel
theorem dX6_hostsNow_3 : decode cX6_hostsNow 3 = .ok (.istore_n 2, 1) := by decide +kernel
theorem dX6_hostsNow_4 : decode cX6_hostsNow 4 = .ok (.iload_n 2, 1) := by decide +kernel
theorem dX6_hostsNow_5 : decode cX6_hostsNow 5 = .ok (.aload_n 0, 1) := by decide +kernel
theorem dX6_hostsNow_6 : decode cX6_hostsNow 6 = .ok (.getfield 7, 3) := by decide +kernel
theorem dX6_hostsNow_9 : decode cX6_hostsNow 9 = .ok (.iconst 2, 1) := by decide +kernel
theorem dX6_hostsNow_10 : decode cX6_hostsNow 10 = .ok (.iaload, 1) := by decide +kernel
theorem dX6_hostsNow_11 : decode cX6_hostsNow 11 = .ok (.if_icmp .ge 39, 3) := by decide +kernel
theorem dX6_hostsNow_14 : decode cX6_hostsNow 14 = .ok (.iload_n 1, 1) := by decide +kernel
theorem dX6_hostsNow_15 : decode cX6_hostsNow 15 = .ok (.aload_n 0, 1) := by decide +kernel
theorem dX6_hostsNow_16 : decode cX6_hostsNow 16 = .ok (.iload_n 2, 1) := by decide +kernel
theorem dX6_hostsNow_17 : decode cX6_hostsNow 17 = .ok (.aload_n 0, 1) := by decide +kernel
theorem dX6_hostsNow_18 : decode cX6_hostsNow 18 = .ok (.getfield 16, 3) := by decide +kernel
theorem dX6_hostsNow_21 : decode cX6_hostsNow 21 = .ok (.iconst 0, 1) := by decide +kernel
theorem dX6_hostsNow_22 : decode cX6_hostsNow 22 = .ok (.iaload, 1) := by decide +kernel
theorem dX6_hostsNow_23 : decode cX6_hostsNow 23 = .ok (.aload_n 0, 1) := by decide +kernel
theorem dX6_hostsNow_24 : decode cX6_hostsNow 24 = .ok (.getfield 16, 3) := by decide +kernel
theorem dX6_hostsNow_27 : decode cX6_hostsNow 27 = .ok (.iconst 2, 1) := by decide +kernel
theorem dX6_hostsNow_28 : decode cX6_hostsNow 28 = .ok (.iaload, 1) := by decide +kernel
theorem dX6_hostsNow_29 : decode cX6_hostsNow 29 = .ok (.invokevirtual 181, 3) := by decide +kernel
theorem dX6_hostsNow_32 : decode cX6_hostsNow 32 = .ok (.ifCond .ge 7, 3) := by decide +kernel
theorem dX6_hostsNow_35 : decode cX6_hostsNow 35 = .ok (.iconst 0, 1) := by decide +kernel
theorem dX6_hostsNow_36 : decode cX6_hostsNow 36 = .ok (.goto 6, 3) := by decide +kernel
theorem dX6_hostsNow_39 : decode cX6_hostsNow 39 = .ok (.iconst 1, 1) := by decide +kernel
theorem dX6_hostsNow_40 : decode cX6_hostsNow 40 = .ok (.iload_n 2, 1) := by decide +kernel
theorem dX6_hostsNow_41 : decode cX6_hostsNow 41 = .ok (.ishl, 1) := by decide +kernel
theorem dX6_hostsNow_42 : decode cX6_hostsNow 42 = .ok (.ior, 1) := by decide +kernel
theorem dX6_hostsNow_43 : decode cX6_hostsNow 43 = .ok (.istore_n 1, 1) := by decide +kernel
theorem dX6_hostsNow_44 : decode cX6_hostsNow 44 = .ok (.iinc 2 1, 3) := by decide +kernel
theorem dX6_hostsNow_47 : decode cX6_hostsNow 47 = .ok (.goto (-43), 3) := by decide +kernel
theorem dX6_hostsNow_50 : decode cX6_hostsNow 50 = .ok (.iload_n 1, 1) := by decide +kernel
theorem dX6_hostsNow_51 : decode cX6_hostsNow 51 = .ok (.ireturn, 1) := by decide +kernel
set_option maxRecDepth 20000 in
theorem ggX6_now_X6_roadsNow : GoodIn wsX6_now wsX6_roadsNow := goodIn_r _ [7, 1, 2, 8, 9, 10, 6, 11, 12, 13, 14, 15, 16, 17, 18, 19, 20, 21, 22, 31, 32, 33, 34, 35, 36, 37, 38, 39, 40, 41, 42, 43, 44, 45, 46, 47, 48, 49, 50, 51, 52, 53, 54, 55, 56, 57, 58, 59] (by decide +kernel) (by decide +kernel)
set_option maxRecDepth 20000 in
theorem gX6_now_X6_roadsNow : GoodIn wsX6_now (wsV RX6 185 RX6 yX6_roadsNow wsX6_roadsNow) := goodIn_app (goodIn_of _ (by decide +kernel)) ggX6_now_X6_roadsNow
set_option maxRecDepth 20000 in
theorem ggX6_now_X6_hostsNow : GoodIn wsX6_now wsX6_hostsNow := goodIn_r _ [26, 1, 2, 27, 28, 29, 6, 30, 20, 21, 22, 31, 32, 33, 34, 35, 36, 37, 38, 39, 40, 41, 42, 43, 44, 45, 46, 47, 48, 49, 50, 51, 52, 53, 54, 55, 56, 57, 58, 59] (by decide +kernel) (by decide +kernel)
set_option maxRecDepth 20000 in
theorem gX6_now_X6_hostsNow : GoodIn wsX6_now (wsV RX6 188 RX6 yX6_hostsNow wsX6_hostsNow) := goodIn_app (goodIn_of _ (by decide +kernel)) ggX6_now_X6_hostsNow
theorem dX6_now_0 : decode cX6_now 0 = .ok (.iload_n 1, 1) := by decide +kernel
theorem dX6_now_1 : decode cX6_now 1 = .ok (.tableswitch 94 0 5 #[39, 60, 67, 77, 84, 89], 39) := by decide +kernel
theorem dX6_now_40 : decode cX6_now 40 = .ok (.aload_n 0, 1) := by decide +kernel
theorem dX6_now_41 : decode cX6_now 41 = .ok (.getfield 7, 3) := by decide +kernel
theorem dX6_now_44 : decode cX6_now 44 = .ok (.iconst 0, 1) := by decide +kernel
theorem dX6_now_45 : decode cX6_now 45 = .ok (.iaload, 1) := by decide +kernel
theorem dX6_now_46 : decode cX6_now 46 = .ok (.ifCond .ne 8, 3) := by decide +kernel
theorem dX6_now_49 : decode cX6_now 49 = .ok (.bipush (-9), 2) := by decide +kernel
theorem dX6_now_51 : decode cX6_now 51 = .ok (.goto 9, 3) := by decide +kernel
theorem dX6_now_54 : decode cX6_now 54 = .ok (.aload_n 0, 1) := by decide +kernel
theorem dX6_now_55 : decode cX6_now 55 = .ok (.getfield 16, 3) := by decide +kernel
theorem dX6_now_58 : decode cX6_now 58 = .ok (.iconst 0, 1) := by decide +kernel
theorem dX6_now_59 : decode cX6_now 59 = .ok (.iaload, 1) := by decide +kernel
theorem dX6_now_60 : decode cX6_now 60 = .ok (.ireturn, 1) := by decide +kernel
theorem dX6_now_61 : decode cX6_now 61 = .ok (.aload_n 0, 1) := by decide +kernel
theorem dX6_now_62 : decode cX6_now 62 = .ok (.getfield 16, 3) := by decide +kernel
theorem dX6_now_65 : decode cX6_now 65 = .ok (.iconst 1, 1) := by decide +kernel
theorem dX6_now_66 : decode cX6_now 66 = .ok (.iaload, 1) := by decide +kernel
theorem dX6_now_67 : decode cX6_now 67 = .ok (.ireturn, 1) := by decide +kernel
theorem dX6_now_68 : decode cX6_now 68 = .ok (.aload_n 0, 1) := by decide +kernel
theorem dX6_now_69 : decode cX6_now 69 = .ok (.getfield 16, 3) := by decide +kernel
theorem dX6_now_72 : decode cX6_now 72 = .ok (.iconst 1, 1) := by decide +kernel
theorem dX6_now_73 : decode cX6_now 73 = .ok (.iaload, 1) := by decide +kernel
theorem dX6_now_74 : decode cX6_now 74 = .ok (.bipush 24, 2) := by decide +kernel
theorem dX6_now_76 : decode cX6_now 76 = .ok (.irem, 1) := by decide +kernel
theorem dX6_now_77 : decode cX6_now 77 = .ok (.ireturn, 1) := by decide +kernel
theorem dX6_now_78 : decode cX6_now 78 = .ok (.aload_n 0, 1) := by decide +kernel
theorem dX6_now_79 : decode cX6_now 79 = .ok (.getfield 16, 3) := by decide +kernel
theorem dX6_now_82 : decode cX6_now 82 = .ok (.iconst 2, 1) := by decide +kernel
theorem dX6_now_83 : decode cX6_now 83 = .ok (.iaload, 1) := by decide +kernel
theorem dX6_now_84 : decode cX6_now 84 = .ok (.ireturn, 1) := by decide +kernel
theorem dX6_now_85 : decode cX6_now 85 = .ok (.aload_n 0, 1) := by decide +kernel
theorem dX6_now_86 : decode cX6_now 86 = .ok (.invokevirtual 185, 3) := by decide +kernel
theorem dX6_now_89 : decode cX6_now 89 = .ok (.ireturn, 1) := by decide +kernel
theorem dX6_now_90 : decode cX6_now 90 = .ok (.aload_n 0, 1) := by decide +kernel
theorem dX6_now_91 : decode cX6_now 91 = .ok (.invokevirtual 188, 3) := by decide +kernel
theorem dX6_now_94 : decode cX6_now 94 = .ok (.ireturn, 1) := by decide +kernel
theorem dX6_now_95 : decode cX6_now 95 = .ok (.iconst (-1), 1) := by decide +kernel
theorem dX6_now_96 : decode cX6_now 96 = .ok (.ireturn, 1) := by decide +kernel
theorem dX6_withAll_0 : decode cX6_withAll 0 = .ok (.aload_n 0, 1) := by decide +kernel
theorem dX6_withAll_1 : decode cX6_withAll 1 = .ok (.iconst (-1), 1) := by decide +kernel
theorem dX6_withAll_2 : decode cX6_withAll 2 = .ok (.putfield 191, 3) := by decide +kernel
theorem dX6_withAll_5 : decode cX6_withAll 5 = .ok (.aload_n 0, 1) := by decide +kernel
theorem dX6_withAll_6 : decode cX6_withAll 6 = .ok (.iconst (-1), 1) := by decide +kernel
theorem dX6_withAll_7 : decode cX6_withAll 7 = .ok (.putfield 194, 3) := by decide +kernel
theorem dX6_withAll_10 : decode cX6_withAll 10 = .ok (.return_, 1) := by decide +kernel
set_option maxRecDepth 20000 in
theorem ggX6_canBe_X6_holds : GoodIn wsX6_canBe wsX6_holds := goodIn_r _ [5] (by decide +kernel) (by decide +kernel)
set_option maxRecDepth 20000 in
theorem gX6_canBe_X6_holds : GoodIn wsX6_canBe (va_wsS RX6 171 yX6_holds wsX6_holds) := goodIn_app (goodIn_of _ (by decide +kernel)) ggX6_canBe_X6_holds
theorem dX6_canBe_0 : decode cX6_canBe 0 = .ok (.aload_n 0, 1) := by decide +kernel
theorem dX6_canBe_1 : decode cX6_canBe 1 = .ok (.getfield 35, 3) := by decide +kernel
theorem dX6_canBe_4 : decode cX6_canBe 4 = .ok (.bipush 7, 2) := by decide +kernel
theorem dX6_canBe_6 : decode cX6_canBe 6 = .ok (.iload_n 1, 1) := by decide +kernel
theorem dX6_canBe_7 : decode cX6_canBe 7 = .ok (.imul, 1) := by decide +kernel
theorem dX6_canBe_8 : decode cX6_canBe 8 = .ok (.iload_n 2, 1) := by decide +kernel
theorem dX6_canBe_9 : decode cX6_canBe 9 = .ok (.iadd, 1) := by decide +kernel
theorem dX6_canBe_10 : decode cX6_canBe 10 = .ok (.iaload, 1) := by decide +kernel
theorem dX6_canBe_11 : decode cX6_canBe 11 = .ok (.iload_n 3, 1) := by decide +kernel
theorem dX6_canBe_12 : decode cX6_canBe 12 = .ok (.invokestatic 171, 3) := by decide +kernel
theorem dX6_canBe_15 : decode cX6_canBe 15 = .ok (.ireturn, 1) := by decide +kernel
set_option maxRecDepth 20000 in
theorem ggX6_leads_X6_enters : GoodIn wsX6_leads wsX6_enters := goodIn_r _ [8, 1, 9, 10, 11, 7, 12, 13, 14, 15, 16, 17, 18, 19, 25, 26, 27, 28, 29, 30, 31, 32, 33, 34, 35, 36, 37, 38, 39, 40, 41, 42, 43, 44, 45, 46, 47, 48, 49, 50, 51, 52, 53] (by decide +kernel) (by decide +kernel)
set_option maxRecDepth 20000 in
theorem gX6_leads_X6_enters : GoodIn wsX6_leads (wsV RX6 174 RX6 yX6_enters wsX6_enters) := goodIn_app (goodIn_of _ (by decide +kernel)) ggX6_leads_X6_enters
set_option maxRecDepth 20000 in
theorem ggX6_leads_X6_otherEnd : GoodIn wsX6_leads wsX6_otherEnd := goodIn_r _ [12, 1, 25, 26, 27, 28, 29, 30, 31, 32, 33, 34, 35, 36, 37, 38, 39, 40, 41, 42, 43, 44, 45, 46, 47, 48, 49, 50, 51, 52, 53] (by decide +kernel) (by decide +kernel)
set_option maxRecDepth 20000 in
theorem gX6_leads_X6_otherEnd : GoodIn wsX6_leads (wsV RX6 164 RX6 yX6_otherEnd wsX6_otherEnd) := goodIn_app (goodIn_of _ (by decide +kernel)) ggX6_leads_X6_otherEnd
set_option maxRecDepth 20000 in
theorem ggX6_leads_X6_canBe : GoodIn wsX6_leads wsX6_canBe := goodIn_r _ [23, 24, 17, 18, 7, 19, 25, 26, 27, 28, 29, 30, 31, 32, 33, 34, 35, 36, 37, 38, 39, 40, 41, 42, 43, 44, 45, 46, 47, 48, 49, 50, 51, 52, 53] (by decide +kernel) (by decide +kernel)
set_option maxRecDepth 20000 in
theorem gX6_leads_X6_canBe : GoodIn wsX6_leads (wsV RX6 197 RX6 yX6_canBe wsX6_canBe) := goodIn_app (goodIn_of _ (by decide +kernel)) ggX6_leads_X6_canBe
theorem dX6_leads_0 : decode cX6_leads 0 = .ok (.iload_n 1, 1) := by decide +kernel
theorem dX6_leads_1 : decode cX6_leads 1 = .ok (.aload_n 0, 1) := by decide +kernel
theorem dX6_leads_2 : decode cX6_leads 2 = .ok (.getfield 7, 3) := by decide +kernel
theorem dX6_leads_5 : decode cX6_leads 5 = .ok (.bipush 43, 2) := by decide +kernel
theorem dX6_leads_7 : decode cX6_leads 7 = .ok (.iload 4, 2) := by decide +kernel
theorem dX6_leads_9 : decode cX6_leads 9 = .ok (.iadd, 1) := by decide +kernel
theorem dX6_leads_10 : decode cX6_leads 10 = .ok (.iaload, 1) := by decide +kernel
theorem dX6_leads_11 : decode cX6_leads 11 = .ok (.iadd, 1) := by decide +kernel
theorem dX6_leads_12 : decode cX6_leads 12 = .ok (.istore 6, 2) := by decide +kernel
theorem dX6_leads_14 : decode cX6_leads 14 = .ok (.iload 4, 2) := by decide +kernel
theorem dX6_leads_16 : decode cX6_leads 16 = .ok (.aload_n 0, 1) := by decide +kernel
theorem dX6_leads_17 : decode cX6_leads 17 = .ok (.getfield 191, 3) := by decide +kernel
theorem dX6_leads_20 : decode cX6_leads 20 = .ok (.if_icmp .eq 10, 3) := by decide +kernel
theorem dX6_leads_23 : decode cX6_leads 23 = .ok (.iload 6, 2) := by decide +kernel
theorem dX6_leads_25 : decode cX6_leads 25 = .ok (.iload 5, 2) := by decide +kernel
theorem dX6_leads_27 : decode cX6_leads 27 = .ok (.if_icmp .le 5, 3) := by decide +kernel
theorem dX6_leads_30 : decode cX6_leads 30 = .ok (.iconst 0, 1) := by decide +kernel
theorem dX6_leads_31 : decode cX6_leads 31 = .ok (.ireturn, 1) := by decide +kernel
theorem dX6_leads_32 : decode cX6_leads 32 = .ok (.aload_n 0, 1) := by decide +kernel
theorem dX6_leads_33 : decode cX6_leads 33 = .ok (.iload 4, 2) := by decide +kernel
theorem dX6_leads_35 : decode cX6_leads 35 = .ok (.iload_n 2, 1) := by decide +kernel
theorem dX6_leads_36 : decode cX6_leads 36 = .ok (.aload_n 0, 1) := by decide +kernel
theorem dX6_leads_37 : decode cX6_leads 37 = .ok (.getfield 16, 3) := by decide +kernel
theorem dX6_leads_40 : decode cX6_leads 40 = .ok (.iconst 1, 1) := by decide +kernel
theorem dX6_leads_41 : decode cX6_leads 41 = .ok (.iaload, 1) := by decide +kernel
theorem dX6_leads_42 : decode cX6_leads 42 = .ok (.iload 6, 2) := by decide +kernel
theorem dX6_leads_44 : decode cX6_leads 44 = .ok (.iadd, 1) := by decide +kernel
theorem dX6_leads_45 : decode cX6_leads 45 = .ok (.iload_n 3, 1) := by decide +kernel
theorem dX6_leads_46 : decode cX6_leads 46 = .ok (.invokevirtual 174, 3) := by decide +kernel
theorem dX6_leads_49 : decode cX6_leads 49 = .ok (.istore 7, 2) := by decide +kernel
theorem dX6_leads_51 : decode cX6_leads 51 = .ok (.iload 7, 2) := by decide +kernel
theorem dX6_leads_53 : decode cX6_leads 53 = .ok (.ifCond .lt 25, 3) := by decide +kernel
theorem dX6_leads_56 : decode cX6_leads 56 = .ok (.aload_n 0, 1) := by decide +kernel
theorem dX6_leads_57 : decode cX6_leads 57 = .ok (.iload 6, 2) := by decide +kernel
theorem dX6_leads_59 : decode cX6_leads 59 = .ok (.aload_n 0, 1) := by decide +kernel
theorem dX6_leads_60 : decode cX6_leads 60 = .ok (.iload 4, 2) := by decide +kernel
theorem dX6_leads_62 : decode cX6_leads 62 = .ok (.iload_n 2, 1) := by decide +kernel
theorem dX6_leads_63 : decode cX6_leads 63 = .ok (.invokevirtual 164, 3) := by decide +kernel
theorem dX6_leads_66 : decode cX6_leads 66 = .ok (.iload 7, 2) := by decide +kernel
theorem dX6_leads_68 : decode cX6_leads 68 = .ok (.invokevirtual 197, 3) := by decide +kernel
theorem dX6_leads_71 : decode cX6_leads 71 = .ok (.ifCond .eq 7, 3) := by decide +kernel
theorem dX6_leads_74 : decode cX6_leads 74 = .ok (.iconst 1, 1) := by decide +kernel
theorem dX6_leads_75 : decode cX6_leads 75 = .ok (.goto 4, 3) := by decide +kernel
theorem dX6_leads_78 : decode cX6_leads 78 = .ok (.iconst 0, 1) := by decide +kernel
theorem dX6_leads_79 : decode cX6_leads 79 = .ok (.ireturn, 1) := by decide +kernel
set_option maxRecDepth 20000 in
theorem ggX6_asksOn_X6_given : GoodIn wsX6_asksOn wsX6_given := goodIn_r _ [6, 7, 8, 9, 5, 10, 16, 17, 18, 19, 20, 21, 22, 23, 24, 25, 26, 27, 28, 29, 30, 31, 32, 33, 34, 35, 36, 37, 38, 39, 40, 41, 42, 43, 44] (by decide +kernel) (by decide +kernel)
set_option maxRecDepth 20000 in
theorem gX6_asksOn_X6_given : GoodIn wsX6_asksOn (wsV RX6 181 RX6 yX6_given wsX6_given) := goodIn_app (goodIn_of _ (by decide +kernel)) ggX6_asksOn_X6_given
set_option maxRecDepth 20000 in
theorem ggX6_asksOn_X6_canBe : GoodIn wsX6_asksOn wsX6_canBe := goodIn_r _ [14, 15, 8, 9, 5, 10, 16, 17, 18, 19, 20, 21, 22, 23, 24, 25, 26, 27, 28, 29, 30, 31, 32, 33, 34, 35, 36, 37, 38, 39, 40, 41, 42, 43, 44] (by decide +kernel) (by decide +kernel)
set_option maxRecDepth 20000 in
theorem gX6_asksOn_X6_canBe : GoodIn wsX6_asksOn (wsV RX6 197 RX6 yX6_canBe wsX6_canBe) := goodIn_app (goodIn_of _ (by decide +kernel)) ggX6_asksOn_X6_canBe
theorem dX6_asksOn_0 : decode cX6_asksOn 0 = .ok (.iload 4, 2) := by decide +kernel
theorem dX6_asksOn_2 : decode cX6_asksOn 2 = .ok (.aload_n 0, 1) := by decide +kernel
theorem dX6_asksOn_3 : decode cX6_asksOn 3 = .ok (.getfield 194, 3) := by decide +kernel
theorem dX6_asksOn_6 : decode cX6_asksOn 6 = .ok (.if_icmp .ne 7, 3) := by decide +kernel
theorem dX6_asksOn_9 : decode cX6_asksOn 9 = .ok (.iconst (-1), 1) := by decide +kernel
theorem dX6_asksOn_10 : decode cX6_asksOn 10 = .ok (.goto 11, 3) := by decide +kernel
theorem dX6_asksOn_13 : decode cX6_asksOn 13 = .ok (.aload_n 0, 1) := by decide +kernel
theorem dX6_asksOn_14 : decode cX6_asksOn 14 = .ok (.iload 4, 2) := by decide +kernel
theorem dX6_asksOn_16 : decode cX6_asksOn 16 = .ok (.iload_n 2, 1) := by decide +kernel
theorem dX6_asksOn_17 : decode cX6_asksOn 17 = .ok (.iload_n 3, 1) := by decide +kernel
theorem dX6_asksOn_18 : decode cX6_asksOn 18 = .ok (.invokevirtual 181, 3) := by decide +kernel
theorem dX6_asksOn_21 : decode cX6_asksOn 21 = .ok (.istore 5, 2) := by decide +kernel
theorem dX6_asksOn_23 : decode cX6_asksOn 23 = .ok (.iload 5, 2) := by decide +kernel
theorem dX6_asksOn_25 : decode cX6_asksOn 25 = .ok (.ifCond .lt 18, 3) := by decide +kernel
theorem dX6_asksOn_28 : decode cX6_asksOn 28 = .ok (.aload_n 0, 1) := by decide +kernel
theorem dX6_asksOn_29 : decode cX6_asksOn 29 = .ok (.iload_n 1, 1) := by decide +kernel
theorem dX6_asksOn_30 : decode cX6_asksOn 30 = .ok (.iload_n 2, 1) := by decide +kernel
theorem dX6_asksOn_31 : decode cX6_asksOn 31 = .ok (.iload 5, 2) := by decide +kernel
theorem dX6_asksOn_33 : decode cX6_asksOn 33 = .ok (.invokevirtual 197, 3) := by decide +kernel
theorem dX6_asksOn_36 : decode cX6_asksOn 36 = .ok (.ifCond .eq 7, 3) := by decide +kernel
theorem dX6_asksOn_39 : decode cX6_asksOn 39 = .ok (.iconst 1, 1) := by decide +kernel
theorem dX6_asksOn_40 : decode cX6_asksOn 40 = .ok (.goto 4, 3) := by decide +kernel
theorem dX6_asksOn_43 : decode cX6_asksOn 43 = .ok (.iconst 0, 1) := by decide +kernel
theorem dX6_asksOn_44 : decode cX6_asksOn 44 = .ok (.ireturn, 1) := by decide +kernel
set_option maxRecDepth 20000 in
theorem ggX6_waitsOn_X6_canBe : GoodIn wsX6_waitsOn wsX6_canBe := goodIn_r _ [5, 6, 7, 8, 4, 9, 10, 11, 12, 13, 14, 15, 16, 17, 18, 19, 20, 21, 22, 23, 24, 25, 26, 27, 28, 29, 30, 31, 32, 33, 34, 35, 36, 37, 38] (by decide +kernel) (by decide +kernel)
set_option maxRecDepth 20000 in
theorem gX6_waitsOn_X6_canBe : GoodIn wsX6_waitsOn (wsV RX6 197 RX6 yX6_canBe wsX6_canBe) := goodIn_app (goodIn_of _ (by decide +kernel)) ggX6_waitsOn_X6_canBe
theorem dX6_waitsOn_0 : decode cX6_waitsOn 0 = .ok (.iload_n 1, 1) := by decide +kernel
theorem dX6_waitsOn_1 : decode cX6_waitsOn 1 = .ok (.iload 4, 2) := by decide +kernel
theorem dX6_waitsOn_3 : decode cX6_waitsOn 3 = .ok (.if_icmp .ge 19, 3) := by decide +kernel
theorem dX6_waitsOn_6 : decode cX6_waitsOn 6 = .ok (.aload_n 0, 1) := by decide +kernel
theorem dX6_waitsOn_7 : decode cX6_waitsOn 7 = .ok (.iload_n 1, 1) := by decide +kernel
theorem dX6_waitsOn_8 : decode cX6_waitsOn 8 = .ok (.iconst 1, 1) := by decide +kernel
theorem dX6_waitsOn_9 : decode cX6_waitsOn 9 = .ok (.iadd, 1) := by decide +kernel
theorem dX6_waitsOn_10 : decode cX6_waitsOn 10 = .ok (.iload_n 2, 1) := by decide +kernel
theorem dX6_waitsOn_11 : decode cX6_waitsOn 11 = .ok (.iload_n 3, 1) := by decide +kernel
theorem dX6_waitsOn_12 : decode cX6_waitsOn 12 = .ok (.invokevirtual 197, 3) := by decide +kernel
theorem dX6_waitsOn_15 : decode cX6_waitsOn 15 = .ok (.ifCond .eq 7, 3) := by decide +kernel
theorem dX6_waitsOn_18 : decode cX6_waitsOn 18 = .ok (.iconst 1, 1) := by decide +kernel
theorem dX6_waitsOn_19 : decode cX6_waitsOn 19 = .ok (.goto 4, 3) := by decide +kernel
theorem dX6_waitsOn_22 : decode cX6_waitsOn 22 = .ok (.iconst 0, 1) := by decide +kernel
theorem dX6_waitsOn_23 : decode cX6_waitsOn 23 = .ok (.ireturn, 1) := by decide +kernel
set_option maxRecDepth 20000 in
theorem ggX6_goesOn_X6_waitsOn : GoodIn wsX6_goesOn wsX6_waitsOn := goodIn_r _ [6, 7, 8, 9, 5, 10, 11, 12, 13, 14, 42, 43, 44, 45, 46, 47, 48, 49, 50, 51, 52, 53, 54, 55, 56, 57, 58, 59, 60, 61, 62, 63, 64, 65, 66, 67, 68, 69, 70] (by decide +kernel) (by decide +kernel)
set_option maxRecDepth 20000 in
theorem gX6_goesOn_X6_waitsOn : GoodIn wsX6_goesOn (wsV RX6 200 RX6 yX6_waitsOn wsX6_waitsOn) := goodIn_app (goodIn_of _ (by decide +kernel)) ggX6_goesOn_X6_waitsOn
set_option maxRecDepth 20000 in
theorem ggX6_goesOn_X6_leads : GoodIn wsX6_goesOn wsX6_leads := goodIn_r _ [18, 1, 19, 20, 21, 22, 23, 5, 24, 25, 26, 27, 28, 29, 30, 31, 32, 12, 13, 14, 7, 8, 9, 10, 11, 42, 43, 44, 45, 46, 47, 48, 49, 50, 51, 52, 53, 54, 55, 56, 57, 58, 59, 60, 61, 62, 63, 64, 65, 66, 67, 68, 69, 70] (by decide +kernel) (by decide +kernel)
set_option maxRecDepth 20000 in
theorem gX6_goesOn_X6_leads : GoodIn wsX6_goesOn (wsV RX6 204 RX6 yX6_leads wsX6_leads) := goodIn_app (goodIn_of _ (by decide +kernel)) ggX6_goesOn_X6_leads
set_option maxRecDepth 20000 in
theorem ggX6_goesOn_X6_asksOn : GoodIn wsX6_goesOn wsX6_asksOn := goodIn_r _ [36, 37, 38, 39, 40, 5, 41, 1, 12, 13, 14, 7, 8, 9, 10, 11, 42, 43, 44, 45, 46, 47, 48, 49, 50, 51, 52, 53, 54, 55, 56, 57, 58, 59, 60, 61, 62, 63, 64, 65, 66, 67, 68, 69, 70] (by decide +kernel) (by decide +kernel)
set_option maxRecDepth 20000 in
theorem gX6_goesOn_X6_asksOn : GoodIn wsX6_goesOn (wsV RX6 208 RX6 yX6_asksOn wsX6_asksOn) := goodIn_app (goodIn_of _ (by decide +kernel)) ggX6_goesOn_X6_asksOn
theorem dX6_goesOn_0 : decode cX6_goesOn 0 = .ok (.aload_n 0, 1) := by decide +kernel
theorem dX6_goesOn_1 : decode cX6_goesOn 1 = .ok (.iload_n 1, 1) := by decide +kernel
theorem dX6_goesOn_2 : decode cX6_goesOn 2 = .ok (.iload_n 2, 1) := by decide +kernel
theorem dX6_goesOn_3 : decode cX6_goesOn 3 = .ok (.iload_n 3, 1) := by decide +kernel
theorem dX6_goesOn_4 : decode cX6_goesOn 4 = .ok (.iload 4, 2) := by decide +kernel
theorem dX6_goesOn_6 : decode cX6_goesOn 6 = .ok (.invokevirtual 200, 3) := by decide +kernel
theorem dX6_goesOn_9 : decode cX6_goesOn 9 = .ok (.istore 5, 2) := by decide +kernel
theorem dX6_goesOn_11 : decode cX6_goesOn 11 = .ok (.iconst 0, 1) := by decide +kernel
theorem dX6_goesOn_12 : decode cX6_goesOn 12 = .ok (.istore 6, 2) := by decide +kernel
theorem dX6_goesOn_14 : decode cX6_goesOn 14 = .ok (.iload 6, 2) := by decide +kernel
theorem dX6_goesOn_16 : decode cX6_goesOn 16 = .ok (.aload_n 0, 1) := by decide +kernel
theorem dX6_goesOn_17 : decode cX6_goesOn 17 = .ok (.getfield 7, 3) := by decide +kernel
theorem dX6_goesOn_20 : decode cX6_goesOn 20 = .ok (.iconst 1, 1) := by decide +kernel
theorem dX6_goesOn_21 : decode cX6_goesOn 21 = .ok (.iaload, 1) := by decide +kernel
theorem dX6_goesOn_22 : decode cX6_goesOn 22 = .ok (.if_icmp .ge 27, 3) := by decide +kernel
theorem dX6_goesOn_25 : decode cX6_goesOn 25 = .ok (.iload 5, 2) := by decide +kernel
theorem dX6_goesOn_27 : decode cX6_goesOn 27 = .ok (.ifCond .ne 22, 3) := by decide +kernel
theorem dX6_goesOn_30 : decode cX6_goesOn 30 = .ok (.aload_n 0, 1) := by decide +kernel
theorem dX6_goesOn_31 : decode cX6_goesOn 31 = .ok (.iload_n 1, 1) := by decide +kernel
theorem dX6_goesOn_32 : decode cX6_goesOn 32 = .ok (.iload_n 2, 1) := by decide +kernel
theorem dX6_goesOn_33 : decode cX6_goesOn 33 = .ok (.iload_n 3, 1) := by decide +kernel
theorem dX6_goesOn_34 : decode cX6_goesOn 34 = .ok (.iload 6, 2) := by decide +kernel
theorem dX6_goesOn_36 : decode cX6_goesOn 36 = .ok (.iload 4, 2) := by decide +kernel
theorem dX6_goesOn_38 : decode cX6_goesOn 38 = .ok (.invokevirtual 204, 3) := by decide +kernel
theorem dX6_goesOn_41 : decode cX6_goesOn 41 = .ok (.istore 5, 2) := by decide +kernel
theorem dX6_goesOn_43 : decode cX6_goesOn 43 = .ok (.iinc 6 1, 3) := by decide +kernel
theorem dX6_goesOn_46 : decode cX6_goesOn 46 = .ok (.goto (-32), 3) := by decide +kernel
theorem dX6_goesOn_49 : decode cX6_goesOn 49 = .ok (.iconst 0, 1) := by decide +kernel
theorem dX6_goesOn_50 : decode cX6_goesOn 50 = .ok (.istore 6, 2) := by decide +kernel
theorem dX6_goesOn_52 : decode cX6_goesOn 52 = .ok (.iload 6, 2) := by decide +kernel
theorem dX6_goesOn_54 : decode cX6_goesOn 54 = .ok (.aload_n 0, 1) := by decide +kernel
theorem dX6_goesOn_55 : decode cX6_goesOn 55 = .ok (.getfield 7, 3) := by decide +kernel
theorem dX6_goesOn_58 : decode cX6_goesOn 58 = .ok (.iconst 2, 1) := by decide +kernel
theorem dX6_goesOn_59 : decode cX6_goesOn 59 = .ok (.iaload, 1) := by decide +kernel
theorem dX6_goesOn_60 : decode cX6_goesOn 60 = .ok (.if_icmp .ge 25, 3) := by decide +kernel
theorem dX6_goesOn_63 : decode cX6_goesOn 63 = .ok (.iload 5, 2) := by decide +kernel
theorem dX6_goesOn_65 : decode cX6_goesOn 65 = .ok (.ifCond .ne 20, 3) := by decide +kernel
theorem dX6_goesOn_68 : decode cX6_goesOn 68 = .ok (.aload_n 0, 1) := by decide +kernel
theorem dX6_goesOn_69 : decode cX6_goesOn 69 = .ok (.iload_n 1, 1) := by decide +kernel
theorem dX6_goesOn_70 : decode cX6_goesOn 70 = .ok (.iload_n 2, 1) := by decide +kernel
theorem dX6_goesOn_71 : decode cX6_goesOn 71 = .ok (.iload_n 3, 1) := by decide +kernel
theorem dX6_goesOn_72 : decode cX6_goesOn 72 = .ok (.iload 6, 2) := by decide +kernel
theorem dX6_goesOn_74 : decode cX6_goesOn 74 = .ok (.invokevirtual 208, 3) := by decide +kernel
theorem dX6_goesOn_77 : decode cX6_goesOn 77 = .ok (.istore 5, 2) := by decide +kernel
theorem dX6_goesOn_79 : decode cX6_goesOn 79 = .ok (.iinc 6 1, 3) := by decide +kernel
theorem dX6_goesOn_82 : decode cX6_goesOn 82 = .ok (.goto (-30), 3) := by decide +kernel
theorem dX6_goesOn_85 : decode cX6_goesOn 85 = .ok (.iload 5, 2) := by decide +kernel
theorem dX6_goesOn_87 : decode cX6_goesOn 87 = .ok (.ireturn, 1) := by decide +kernel
set_option maxRecDepth 20000 in
theorem ggX6_layWays_X6_holds : GoodIn wsX6_layWays wsX6_holds := goodIn_r _ [6] (by decide +kernel) (by decide +kernel)
set_option maxRecDepth 20000 in
theorem gX6_layWays_X6_holds : GoodIn wsX6_layWays (va_wsS RX6 171 yX6_holds wsX6_holds) := goodIn_app (goodIn_of _ (by decide +kernel)) ggX6_layWays_X6_holds
set_option maxRecDepth 20000 in
theorem ggX6_layWays_X6_goesOn : GoodIn wsX6_layWays wsX6_goesOn := goodIn_r _ [10, 1, 11, 12, 13, 5, 14, 15, 16, 17, 18, 2, 3, 4, 6, 19, 20, 21, 22, 23, 24, 25, 26, 27, 28, 29, 30, 31, 32, 33, 34, 35, 36, 37, 38, 39, 40, 41, 42, 43, 44, 45, 46, 47, 48, 49, 50, 51, 52, 53, 54, 55, 56, 57, 58, 59, 60, 61, 62, 63, 64, 65, 66, 67, 68, 69, 70, 71, 72, 73, 74] (by decide +kernel) (by decide +kernel)
set_option maxRecDepth 20000 in
theorem gX6_layWays_X6_goesOn : GoodIn wsX6_layWays (wsV RX6 211 RX6 yX6_goesOn wsX6_goesOn) := goodIn_app (goodIn_of _ (by decide +kernel)) ggX6_layWays_X6_goesOn
theorem dX6_layWays_0 : decode cX6_layWays 0 = .ok (.iload_n 2, 1) := by decide +kernel
theorem dX6_layWays_1 : decode cX6_layWays 1 = .ok (.istore_n 3, 1) := by decide +kernel
theorem dX6_layWays_2 : decode cX6_layWays 2 = .ok (.iload_n 3, 1) := by decide +kernel
theorem dX6_layWays_3 : decode cX6_layWays 3 = .ok (.ifCond .lt 124, 3) := by decide +kernel
theorem dX6_layWays_6 : decode cX6_layWays 6 = .ok (.iconst 0, 1) := by decide +kernel
theorem dX6_layWays_7 : decode cX6_layWays 7 = .ok (.istore 4, 2) := by decide +kernel
theorem dX6_layWays_9 : decode cX6_layWays 9 = .ok (.iload 4, 2) := by decide +kernel
theorem dX6_layWays_11 : decode cX6_layWays 11 = .ok (.aload_n 0, 1) := by decide +kernel
theorem dX6_layWays_12 : decode cX6_layWays 12 = .ok (.getfield 7, 3) := by decide +kernel
theorem dX6_layWays_15 : decode cX6_layWays 15 = .ok (.iconst 0, 1) := by decide +kernel
theorem dX6_layWays_16 : decode cX6_layWays 16 = .ok (.iaload, 1) := by decide +kernel
theorem dX6_layWays_17 : decode cX6_layWays 17 = .ok (.if_icmp .ge 104, 3) := by decide +kernel
theorem dX6_layWays_20 : decode cX6_layWays 20 = .ok (.aload_n 0, 1) := by decide +kernel
theorem dX6_layWays_21 : decode cX6_layWays 21 = .ok (.getfield 35, 3) := by decide +kernel
theorem dX6_layWays_24 : decode cX6_layWays 24 = .ok (.bipush 7, 2) := by decide +kernel
theorem dX6_layWays_26 : decode cX6_layWays 26 = .ok (.iload_n 3, 1) := by decide +kernel
theorem dX6_layWays_27 : decode cX6_layWays 27 = .ok (.imul, 1) := by decide +kernel
theorem dX6_layWays_28 : decode cX6_layWays 28 = .ok (.iload 4, 2) := by decide +kernel
theorem dX6_layWays_30 : decode cX6_layWays 30 = .ok (.iadd, 1) := by decide +kernel
theorem dX6_layWays_31 : decode cX6_layWays 31 = .ok (.iconst 0, 1) := by decide +kernel
theorem dX6_layWays_32 : decode cX6_layWays 32 = .ok (.iastore, 1) := by decide +kernel
theorem dX6_layWays_33 : decode cX6_layWays 33 = .ok (.bipush 31, 2) := by decide +kernel
theorem dX6_layWays_35 : decode cX6_layWays 35 = .ok (.istore 5, 2) := by decide +kernel
theorem dX6_layWays_37 : decode cX6_layWays 37 = .ok (.iload 5, 2) := by decide +kernel
theorem dX6_layWays_39 : decode cX6_layWays 39 = .ok (.ifCond .lt 76, 3) := by decide +kernel
theorem dX6_layWays_42 : decode cX6_layWays 42 = .ok (.iload_n 3, 1) := by decide +kernel
theorem dX6_layWays_43 : decode cX6_layWays 43 = .ok (.iload_n 2, 1) := by decide +kernel
theorem dX6_layWays_44 : decode cX6_layWays 44 = .ok (.if_icmp .ne 21, 3) := by decide +kernel
theorem dX6_layWays_47 : decode cX6_layWays 47 = .ok (.iload 4, 2) := by decide +kernel
theorem dX6_layWays_49 : decode cX6_layWays 49 = .ok (.ifCond .ne 16, 3) := by decide +kernel
theorem dX6_layWays_52 : decode cX6_layWays 52 = .ok (.iload 5, 2) := by decide +kernel
theorem dX6_layWays_54 : decode cX6_layWays 54 = .ok (.iload_n 1, 1) := by decide +kernel
theorem dX6_layWays_55 : decode cX6_layWays 55 = .ok (.invokestatic 171, 3) := by decide +kernel
theorem dX6_layWays_58 : decode cX6_layWays 58 = .ok (.ifCond .eq 7, 3) := by decide +kernel
theorem dX6_layWays_61 : decode cX6_layWays 61 = .ok (.iconst 1, 1) := by decide +kernel
theorem dX6_layWays_62 : decode cX6_layWays 62 = .ok (.goto 4, 3) := by decide +kernel
theorem dX6_layWays_65 : decode cX6_layWays 65 = .ok (.iconst 0, 1) := by decide +kernel
theorem dX6_layWays_66 : decode cX6_layWays 66 = .ok (.istore 6, 2) := by decide +kernel
theorem dX6_layWays_68 : decode cX6_layWays 68 = .ok (.aload_n 0, 1) := by decide +kernel
theorem dX6_layWays_69 : decode cX6_layWays 69 = .ok (.getfield 35, 3) := by decide +kernel
theorem dX6_layWays_72 : decode cX6_layWays 72 = .ok (.bipush 7, 2) := by decide +kernel
theorem dX6_layWays_74 : decode cX6_layWays 74 = .ok (.iload_n 3, 1) := by decide +kernel
theorem dX6_layWays_75 : decode cX6_layWays 75 = .ok (.imul, 1) := by decide +kernel
theorem dX6_layWays_76 : decode cX6_layWays 76 = .ok (.iload 4, 2) := by decide +kernel
theorem dX6_layWays_78 : decode cX6_layWays 78 = .ok (.iadd, 1) := by decide +kernel
theorem dX6_layWays_79 : decode cX6_layWays 79 = .ok (.dup2, 1) := by decide +kernel
theorem dX6_layWays_80 : decode cX6_layWays 80 = .ok (.iaload, 1) := by decide +kernel
theorem dX6_layWays_81 : decode cX6_layWays 81 = .ok (.iload 6, 2) := by decide +kernel
theorem dX6_layWays_83 : decode cX6_layWays 83 = .ok (.ifCond .ne 16, 3) := by decide +kernel
theorem dX6_layWays_86 : decode cX6_layWays 86 = .ok (.aload_n 0, 1) := by decide +kernel
theorem dX6_layWays_87 : decode cX6_layWays 87 = .ok (.iload_n 3, 1) := by decide +kernel
theorem dX6_layWays_88 : decode cX6_layWays 88 = .ok (.iload 4, 2) := by decide +kernel
theorem dX6_layWays_90 : decode cX6_layWays 90 = .ok (.iload 5, 2) := by decide +kernel
theorem dX6_layWays_92 : decode cX6_layWays 92 = .ok (.iload_n 2, 1) := by decide +kernel
theorem dX6_layWays_93 : decode cX6_layWays 93 = .ok (.invokevirtual 211, 3) := by decide +kernel
theorem dX6_layWays_96 : decode cX6_layWays 96 = .ok (.ifCond .eq 10, 3) := by decide +kernel
theorem dX6_layWays_99 : decode cX6_layWays 99 = .ok (.iconst 1, 1) := by decide +kernel
theorem dX6_layWays_100 : decode cX6_layWays 100 = .ok (.iload 5, 2) := by decide +kernel
theorem dX6_layWays_102 : decode cX6_layWays 102 = .ok (.ishl, 1) := by decide +kernel
theorem dX6_layWays_103 : decode cX6_layWays 103 = .ok (.goto 4, 3) := by decide +kernel
theorem dX6_layWays_106 : decode cX6_layWays 106 = .ok (.iconst 0, 1) := by decide +kernel
theorem dX6_layWays_107 : decode cX6_layWays 107 = .ok (.ior, 1) := by decide +kernel
theorem dX6_layWays_108 : decode cX6_layWays 108 = .ok (.iastore, 1) := by decide +kernel
theorem dX6_layWays_109 : decode cX6_layWays 109 = .ok (.iinc 5 (-1), 3) := by decide +kernel
theorem dX6_layWays_112 : decode cX6_layWays 112 = .ok (.goto (-75), 3) := by decide +kernel
theorem dX6_layWays_115 : decode cX6_layWays 115 = .ok (.iinc 4 1, 3) := by decide +kernel
theorem dX6_layWays_118 : decode cX6_layWays 118 = .ok (.goto (-109), 3) := by decide +kernel
theorem dX6_layWays_121 : decode cX6_layWays 121 = .ok (.iinc 3 (-1), 3) := by decide +kernel
theorem dX6_layWays_124 : decode cX6_layWays 124 = .ok (.goto (-122), 3) := by decide +kernel
theorem dX6_layWays_127 : decode cX6_layWays 127 = .ok (.return_, 1) := by decide +kernel
set_option maxRecDepth 20000 in
theorem ggX6_isWay_X6_layWays : GoodIn wsX6_isWay wsX6_layWays := goodIn_r _ [6, 7, 8, 9, 10, 5, 11, 12, 13, 14, 15, 16, 17, 18, 19, 20, 21, 22, 23, 24, 25, 26, 27, 28, 1, 29, 30, 31, 32, 33, 34, 35, 36, 37, 38, 39, 40, 41, 42, 43, 44, 45, 46, 47, 48, 49, 50, 51, 52, 53, 54, 55, 56, 57, 58, 59, 60, 61, 62, 63, 64, 65, 66, 67, 68, 69, 70, 71, 72, 73, 74, 75, 76, 77, 78] (by decide +kernel) (by decide +kernel)
set_option maxRecDepth 20000 in
theorem gX6_isWay_X6_layWays : GoodIn wsX6_isWay (wsV RX6 214 RX6 yX6_layWays wsX6_layWays) := goodIn_app (goodIn_of _ (by decide +kernel)) ggX6_isWay_X6_layWays
set_option maxRecDepth 20000 in
theorem ggX6_isWay_X6_canBe : GoodIn wsX6_isWay wsX6_canBe := goodIn_r _ [23, 8, 9, 10, 5, 11, 50, 51, 52, 53, 54, 55, 56, 57, 58, 59, 60, 61, 62, 63, 64, 65, 66, 67, 68, 69, 70, 71, 72, 73, 74, 75, 76, 77, 78] (by decide +kernel) (by decide +kernel)
set_option maxRecDepth 20000 in
theorem gX6_isWay_X6_canBe : GoodIn wsX6_isWay (wsV RX6 197 RX6 yX6_canBe wsX6_canBe) := goodIn_app (goodIn_of _ (by decide +kernel)) ggX6_isWay_X6_canBe
theorem dX6_isWay_0 : decode cX6_isWay 0 = .ok (.aload_n 0, 1) := by decide +kernel
theorem dX6_isWay_1 : decode cX6_isWay 1 = .ok (.iload_n 1, 1) := by decide +kernel
theorem dX6_isWay_2 : decode cX6_isWay 2 = .ok (.iload_n 2, 1) := by decide +kernel
theorem dX6_isWay_3 : decode cX6_isWay 3 = .ok (.invokevirtual 214, 3) := by decide +kernel
theorem dX6_isWay_6 : decode cX6_isWay 6 = .ok (.aload_n 0, 1) := by decide +kernel
theorem dX6_isWay_7 : decode cX6_isWay 7 = .ok (.iconst 0, 1) := by decide +kernel
theorem dX6_isWay_8 : decode cX6_isWay 8 = .ok (.aload_n 0, 1) := by decide +kernel
theorem dX6_isWay_9 : decode cX6_isWay 9 = .ok (.getfield 16, 3) := by decide +kernel
theorem dX6_isWay_12 : decode cX6_isWay 12 = .ok (.iconst 0, 1) := by decide +kernel
theorem dX6_isWay_13 : decode cX6_isWay 13 = .ok (.iaload, 1) := by decide +kernel
theorem dX6_isWay_14 : decode cX6_isWay 14 = .ok (.aload_n 0, 1) := by decide +kernel
theorem dX6_isWay_15 : decode cX6_isWay 15 = .ok (.getfield 16, 3) := by decide +kernel
theorem dX6_isWay_18 : decode cX6_isWay 18 = .ok (.iconst 2, 1) := by decide +kernel
theorem dX6_isWay_19 : decode cX6_isWay 19 = .ok (.iaload, 1) := by decide +kernel
theorem dX6_isWay_20 : decode cX6_isWay 20 = .ok (.invokevirtual 197, 3) := by decide +kernel
theorem dX6_isWay_23 : decode cX6_isWay 23 = .ok (.ireturn, 1) := by decide +kernel
set_option maxRecDepth 20000 in
theorem ggX6_fewest_X6_isWay : GoodIn wsX6_fewest wsX6_isWay := goodIn_r _ [6, 7, 8, 9, 10, 5, 11, 1, 12, 13, 14, 15, 16, 17, 18, 19, 20, 21, 22, 23, 24, 25, 26, 27, 28, 29, 30, 31, 32, 33, 34, 35, 36, 37, 38, 39, 40, 41, 42, 43, 44, 45, 46, 47, 48, 49, 50, 51, 52, 53, 54, 55, 56, 57, 58, 59, 60, 61, 62, 63, 64, 65, 66, 67, 68, 69, 70, 71, 72, 73, 74, 75, 76, 77, 78, 79, 80, 81, 82] (by decide +kernel) (by decide +kernel)
set_option maxRecDepth 20000 in
theorem gX6_fewest_X6_isWay : GoodIn wsX6_fewest (wsV RX6 218 RX6 yX6_isWay wsX6_isWay) := goodIn_app (goodIn_of _ (by decide +kernel)) ggX6_fewest_X6_isWay
set_option maxRecDepth 20000 in
theorem ggX6_fewest_X6_layWays : GoodIn wsX6_fewest wsX6_layWays := goodIn_r _ [11, 1, 12, 13, 14, 5, 15, 16, 17, 18, 19, 20, 21, 22, 23, 24, 25, 26, 27, 28, 29, 30, 31, 32, 7, 33, 34, 35, 36, 37, 38, 39, 40, 41, 42, 43, 44, 45, 46, 47, 48, 49, 50, 51, 52, 53, 54, 55, 56, 57, 58, 59, 60, 61, 62, 63, 64, 65, 66, 67, 68, 69, 70, 71, 72, 73, 74, 75, 76, 77, 78, 79, 80, 81, 82] (by decide +kernel) (by decide +kernel)
set_option maxRecDepth 20000 in
theorem gX6_fewest_X6_layWays : GoodIn wsX6_fewest (wsV RX6 214 RX6 yX6_layWays wsX6_layWays) := goodIn_app (goodIn_of _ (by decide +kernel)) ggX6_fewest_X6_layWays
theorem dX6_fewest_0 : decode cX6_fewest 0 = .ok (.aload_n 0, 1) := by decide +kernel
theorem dX6_fewest_1 : decode cX6_fewest 1 = .ok (.getfield 7, 3) := by decide +kernel
theorem dX6_fewest_4 : decode cX6_fewest 4 = .ok (.iconst 0, 1) := by decide +kernel
theorem dX6_fewest_5 : decode cX6_fewest 5 = .ok (.iaload, 1) := by decide +kernel
theorem dX6_fewest_6 : decode cX6_fewest 6 = .ok (.ifCond .eq 13, 3) := by decide +kernel
theorem dX6_fewest_9 : decode cX6_fewest 9 = .ok (.aload_n 0, 1) := by decide +kernel
theorem dX6_fewest_10 : decode cX6_fewest 10 = .ok (.iload_n 1, 1) := by decide +kernel
theorem dX6_fewest_11 : decode cX6_fewest 11 = .ok (.bipush 60, 2) := by decide +kernel
theorem dX6_fewest_13 : decode cX6_fewest 13 = .ok (.invokevirtual 218, 3) := by decide +kernel
theorem dX6_fewest_16 : decode cX6_fewest 16 = .ok (.ifCond .ne 6, 3) := by decide +kernel
theorem dX6_fewest_19 : decode cX6_fewest 19 = .ok (.bipush (-9), 2) := by decide +kernel
theorem dX6_fewest_21 : decode cX6_fewest 21 = .ok (.ireturn, 1) := by decide +kernel
theorem dX6_fewest_22 : decode cX6_fewest 22 = .ok (.iconst 0, 1) := by decide +kernel
theorem dX6_fewest_23 : decode cX6_fewest 23 = .ok (.istore_n 2, 1) := by decide +kernel
theorem dX6_fewest_24 : decode cX6_fewest 24 = .ok (.bipush 60, 2) := by decide +kernel
theorem dX6_fewest_26 : decode cX6_fewest 26 = .ok (.istore_n 3, 1) := by decide +kernel
theorem dX6_fewest_27 : decode cX6_fewest 27 = .ok (.iload_n 2, 1) := by decide +kernel
theorem dX6_fewest_28 : decode cX6_fewest 28 = .ok (.iload_n 3, 1) := by decide +kernel
theorem dX6_fewest_29 : decode cX6_fewest 29 = .ok (.if_icmp .ge 48, 3) := by decide +kernel
theorem dX6_fewest_32 : decode cX6_fewest 32 = .ok (.iload_n 2, 1) := by decide +kernel
theorem dX6_fewest_33 : decode cX6_fewest 33 = .ok (.iload_n 3, 1) := by decide +kernel
theorem dX6_fewest_34 : decode cX6_fewest 34 = .ok (.iadd, 1) := by decide +kernel
theorem dX6_fewest_35 : decode cX6_fewest 35 = .ok (.iconst 2, 1) := by decide +kernel
theorem dX6_fewest_36 : decode cX6_fewest 36 = .ok (.idiv, 1) := by decide +kernel
theorem dX6_fewest_37 : decode cX6_fewest 37 = .ok (.istore 4, 2) := by decide +kernel
theorem dX6_fewest_39 : decode cX6_fewest 39 = .ok (.aload_n 0, 1) := by decide +kernel
theorem dX6_fewest_40 : decode cX6_fewest 40 = .ok (.iload_n 1, 1) := by decide +kernel
theorem dX6_fewest_41 : decode cX6_fewest 41 = .ok (.iload 4, 2) := by decide +kernel
theorem dX6_fewest_43 : decode cX6_fewest 43 = .ok (.invokevirtual 218, 3) := by decide +kernel
theorem dX6_fewest_46 : decode cX6_fewest 46 = .ok (.istore 5, 2) := by decide +kernel
theorem dX6_fewest_48 : decode cX6_fewest 48 = .ok (.iload 5, 2) := by decide +kernel
theorem dX6_fewest_50 : decode cX6_fewest 50 = .ok (.ifCond .eq 7, 3) := by decide +kernel
theorem dX6_fewest_53 : decode cX6_fewest 53 = .ok (.iload_n 2, 1) := by decide +kernel
theorem dX6_fewest_54 : decode cX6_fewest 54 = .ok (.goto 7, 3) := by decide +kernel
theorem dX6_fewest_57 : decode cX6_fewest 57 = .ok (.iload 4, 2) := by decide +kernel
theorem dX6_fewest_59 : decode cX6_fewest 59 = .ok (.iconst 1, 1) := by decide +kernel
theorem dX6_fewest_60 : decode cX6_fewest 60 = .ok (.iadd, 1) := by decide +kernel
theorem dX6_fewest_61 : decode cX6_fewest 61 = .ok (.istore_n 2, 1) := by decide +kernel
theorem dX6_fewest_62 : decode cX6_fewest 62 = .ok (.iload 5, 2) := by decide +kernel
theorem dX6_fewest_64 : decode cX6_fewest 64 = .ok (.ifCond .eq 8, 3) := by decide +kernel
theorem dX6_fewest_67 : decode cX6_fewest 67 = .ok (.iload 4, 2) := by decide +kernel
theorem dX6_fewest_69 : decode cX6_fewest 69 = .ok (.goto 4, 3) := by decide +kernel
theorem dX6_fewest_72 : decode cX6_fewest 72 = .ok (.iload_n 3, 1) := by decide +kernel
theorem dX6_fewest_73 : decode cX6_fewest 73 = .ok (.istore_n 3, 1) := by decide +kernel
theorem dX6_fewest_74 : decode cX6_fewest 74 = .ok (.goto (-47), 3) := by decide +kernel
theorem dX6_fewest_77 : decode cX6_fewest 77 = .ok (.aload_n 0, 1) := by decide +kernel
theorem dX6_fewest_78 : decode cX6_fewest 78 = .ok (.iload_n 1, 1) := by decide +kernel
theorem dX6_fewest_79 : decode cX6_fewest 79 = .ok (.iload_n 2, 1) := by decide +kernel
theorem dX6_fewest_80 : decode cX6_fewest 80 = .ok (.invokevirtual 214, 3) := by decide +kernel
theorem dX6_fewest_83 : decode cX6_fewest 83 = .ok (.iload_n 2, 1) := by decide +kernel
theorem dX6_fewest_84 : decode cX6_fewest 84 = .ok (.ireturn, 1) := by decide +kernel
set_option maxRecDepth 20000 in
theorem ggX6_leastStep_X6_waitsOn : GoodIn wsX6_leastStep wsX6_waitsOn := goodIn_r _ [6, 7, 8, 9, 5, 10, 11, 12, 13, 14, 42, 43, 44, 45, 46, 47, 48, 49, 50, 51, 52, 53, 54, 55, 56, 57, 58, 59, 60, 61, 62, 63, 64, 65, 66, 67, 68, 69, 70] (by decide +kernel) (by decide +kernel)
set_option maxRecDepth 20000 in
theorem gX6_leastStep_X6_waitsOn : GoodIn wsX6_leastStep (wsV RX6 200 RX6 yX6_waitsOn wsX6_waitsOn) := goodIn_app (goodIn_of _ (by decide +kernel)) ggX6_leastStep_X6_waitsOn
set_option maxRecDepth 20000 in
theorem ggX6_leastStep_X6_leads : GoodIn wsX6_leastStep wsX6_leads := goodIn_r _ [18, 1, 19, 20, 21, 22, 23, 5, 24, 25, 26, 27, 28, 29, 30, 31, 32, 12, 13, 14, 7, 8, 9, 10, 11, 42, 43, 44, 45, 46, 47, 48, 49, 50, 51, 52, 53, 54, 55, 56, 57, 58, 59, 60, 61, 62, 63, 64, 65, 66, 67, 68, 69, 70] (by decide +kernel) (by decide +kernel)
set_option maxRecDepth 20000 in
theorem gX6_leastStep_X6_leads : GoodIn wsX6_leastStep (wsV RX6 204 RX6 yX6_leads wsX6_leads) := goodIn_app (goodIn_of _ (by decide +kernel)) ggX6_leastStep_X6_leads
set_option maxRecDepth 20000 in
theorem ggX6_leastStep_X6_asksOn : GoodIn wsX6_leastStep wsX6_asksOn := goodIn_r _ [36, 37, 38, 39, 40, 5, 41, 1, 12, 13, 14, 7, 8, 9, 10, 11, 42, 43, 44, 45, 46, 47, 48, 49, 50, 51, 52, 53, 54, 55, 56, 57, 58, 59, 60, 61, 62, 63, 64, 65, 66, 67, 68, 69, 70] (by decide +kernel) (by decide +kernel)
set_option maxRecDepth 20000 in
theorem gX6_leastStep_X6_asksOn : GoodIn wsX6_leastStep (wsV RX6 208 RX6 yX6_asksOn wsX6_asksOn) := goodIn_app (goodIn_of _ (by decide +kernel)) ggX6_leastStep_X6_asksOn
theorem dX6_leastStep_0 : decode cX6_leastStep 0 = .ok (.aload_n 0, 1) := by decide +kernel
theorem dX6_leastStep_1 : decode cX6_leastStep 1 = .ok (.iload_n 1, 1) := by decide +kernel
theorem dX6_leastStep_2 : decode cX6_leastStep 2 = .ok (.iload_n 2, 1) := by decide +kernel
theorem dX6_leastStep_3 : decode cX6_leastStep 3 = .ok (.iload_n 3, 1) := by decide +kernel
theorem dX6_leastStep_4 : decode cX6_leastStep 4 = .ok (.iload 4, 2) := by decide +kernel
theorem dX6_leastStep_6 : decode cX6_leastStep 6 = .ok (.invokevirtual 200, 3) := by decide +kernel
theorem dX6_leastStep_9 : decode cX6_leastStep 9 = .ok (.ifCond .eq 5, 3) := by decide +kernel
theorem dX6_leastStep_12 : decode cX6_leastStep 12 = .ok (.iconst 0, 1) := by decide +kernel
theorem dX6_leastStep_13 : decode cX6_leastStep 13 = .ok (.ireturn, 1) := by decide +kernel
theorem dX6_leastStep_14 : decode cX6_leastStep 14 = .ok (.iconst 0, 1) := by decide +kernel
theorem dX6_leastStep_15 : decode cX6_leastStep 15 = .ok (.istore 5, 2) := by decide +kernel
theorem dX6_leastStep_17 : decode cX6_leastStep 17 = .ok (.iload 5, 2) := by decide +kernel
theorem dX6_leastStep_19 : decode cX6_leastStep 19 = .ok (.aload_n 0, 1) := by decide +kernel
theorem dX6_leastStep_20 : decode cX6_leastStep 20 = .ok (.getfield 7, 3) := by decide +kernel
theorem dX6_leastStep_23 : decode cX6_leastStep 23 = .ok (.iconst 1, 1) := by decide +kernel
theorem dX6_leastStep_24 : decode cX6_leastStep 24 = .ok (.iaload, 1) := by decide +kernel
theorem dX6_leastStep_25 : decode cX6_leastStep 25 = .ok (.if_icmp .ge 28, 3) := by decide +kernel
theorem dX6_leastStep_28 : decode cX6_leastStep 28 = .ok (.aload_n 0, 1) := by decide +kernel
theorem dX6_leastStep_29 : decode cX6_leastStep 29 = .ok (.iload_n 1, 1) := by decide +kernel
theorem dX6_leastStep_30 : decode cX6_leastStep 30 = .ok (.iload_n 2, 1) := by decide +kernel
theorem dX6_leastStep_31 : decode cX6_leastStep 31 = .ok (.iload_n 3, 1) := by decide +kernel
theorem dX6_leastStep_32 : decode cX6_leastStep 32 = .ok (.iload 5, 2) := by decide +kernel
theorem dX6_leastStep_34 : decode cX6_leastStep 34 = .ok (.iload 4, 2) := by decide +kernel
theorem dX6_leastStep_36 : decode cX6_leastStep 36 = .ok (.invokevirtual 204, 3) := by decide +kernel
theorem dX6_leastStep_39 : decode cX6_leastStep 39 = .ok (.ifCond .eq 8, 3) := by decide +kernel
theorem dX6_leastStep_42 : decode cX6_leastStep 42 = .ok (.iconst 1, 1) := by decide +kernel
theorem dX6_leastStep_43 : decode cX6_leastStep 43 = .ok (.iload 5, 2) := by decide +kernel
theorem dX6_leastStep_45 : decode cX6_leastStep 45 = .ok (.iadd, 1) := by decide +kernel
theorem dX6_leastStep_46 : decode cX6_leastStep 46 = .ok (.ireturn, 1) := by decide +kernel
theorem dX6_leastStep_47 : decode cX6_leastStep 47 = .ok (.iinc 5 1, 3) := by decide +kernel
theorem dX6_leastStep_50 : decode cX6_leastStep 50 = .ok (.goto (-33), 3) := by decide +kernel
theorem dX6_leastStep_53 : decode cX6_leastStep 53 = .ok (.iconst 0, 1) := by decide +kernel
theorem dX6_leastStep_54 : decode cX6_leastStep 54 = .ok (.istore 5, 2) := by decide +kernel
theorem dX6_leastStep_56 : decode cX6_leastStep 56 = .ok (.aload_n 0, 1) := by decide +kernel
theorem dX6_leastStep_57 : decode cX6_leastStep 57 = .ok (.iload_n 1, 1) := by decide +kernel
theorem dX6_leastStep_58 : decode cX6_leastStep 58 = .ok (.iload_n 2, 1) := by decide +kernel
theorem dX6_leastStep_59 : decode cX6_leastStep 59 = .ok (.iload_n 3, 1) := by decide +kernel
theorem dX6_leastStep_60 : decode cX6_leastStep 60 = .ok (.iload 5, 2) := by decide +kernel
theorem dX6_leastStep_62 : decode cX6_leastStep 62 = .ok (.invokevirtual 208, 3) := by decide +kernel
theorem dX6_leastStep_65 : decode cX6_leastStep 65 = .ok (.ifCond .ne 9, 3) := by decide +kernel
theorem dX6_leastStep_68 : decode cX6_leastStep 68 = .ok (.iinc 5 1, 3) := by decide +kernel
theorem dX6_leastStep_71 : decode cX6_leastStep 71 = .ok (.goto (-15), 3) := by decide +kernel
theorem dX6_leastStep_74 : decode cX6_leastStep 74 = .ok (.bipush 11, 2) := by decide +kernel
theorem dX6_leastStep_76 : decode cX6_leastStep 76 = .ok (.iload 5, 2) := by decide +kernel
theorem dX6_leastStep_78 : decode cX6_leastStep 78 = .ok (.iadd, 1) := by decide +kernel
theorem dX6_leastStep_79 : decode cX6_leastStep 79 = .ok (.ireturn, 1) := by decide +kernel
set_option maxRecDepth 20000 in
theorem ggX6_layRow_X6_holds : GoodIn wsX6_layRow wsX6_holds := goodIn_r _ [11] (by decide +kernel) (by decide +kernel)
set_option maxRecDepth 20000 in
theorem gX6_layRow_X6_holds : GoodIn wsX6_layRow (va_wsS RX6 171 yX6_holds wsX6_holds) := goodIn_app (goodIn_of _ (by decide +kernel)) ggX6_layRow_X6_holds
set_option maxRecDepth 20000 in
theorem ggX6_layRow_X6_leastStep : GoodIn wsX6_layRow wsX6_leastStep := goodIn_r _ [15, 5, 16, 17, 18, 10, 19, 20, 21, 22, 23, 24, 8, 9, 11, 25, 26, 27, 28, 29, 1, 30, 31, 32, 33, 34, 35, 36, 37, 38, 39, 40, 41, 42, 43, 44, 45, 46, 47, 48, 49, 50, 51, 52, 53, 54, 55, 56, 57, 58, 59, 60, 61, 62, 63, 64, 65, 66, 67, 68, 69, 70, 71, 72, 73, 74, 75, 76, 77, 78, 79] (by decide +kernel) (by decide +kernel)
set_option maxRecDepth 20000 in
theorem gX6_layRow_X6_leastStep : GoodIn wsX6_layRow (wsV RX6 227 RX6 yX6_leastStep wsX6_leastStep) := goodIn_app (goodIn_of _ (by decide +kernel)) ggX6_layRow_X6_leastStep
set_option maxRecDepth 20000 in
theorem ggX6_layRow_X6_given : GoodIn wsX6_layRow wsX6_given := goodIn_r _ [50, 5, 8, 9, 10, 11, 51, 52, 53, 54, 55, 56, 57, 58, 59, 60, 61, 62, 63, 64, 65, 66, 67, 68, 69, 70, 71, 72, 73, 74, 75, 76, 77, 78, 79] (by decide +kernel) (by decide +kernel)
set_option maxRecDepth 20000 in
theorem gX6_layRow_X6_given : GoodIn wsX6_layRow (wsV RX6 181 RX6 yX6_given wsX6_given) := goodIn_app (goodIn_of _ (by decide +kernel)) ggX6_layRow_X6_given
set_option maxRecDepth 20000 in
theorem ggX6_layRow_X6_enters : GoodIn wsX6_layRow wsX6_enters := goodIn_r _ [33, 5, 34, 35, 36, 10, 37, 38, 39, 40, 41, 8, 9, 11, 51, 52, 53, 54, 55, 56, 57, 58, 59, 60, 61, 62, 63, 64, 65, 66, 67, 68, 69, 70, 71, 72, 73, 74, 75, 76, 77, 78, 79] (by decide +kernel) (by decide +kernel)
set_option maxRecDepth 20000 in
theorem gX6_layRow_X6_enters : GoodIn wsX6_layRow (wsV RX6 174 RX6 yX6_enters wsX6_enters) := goodIn_app (goodIn_of _ (by decide +kernel)) ggX6_layRow_X6_enters
set_option maxRecDepth 20000 in
theorem ggX6_layRow_X6_otherEnd : GoodIn wsX6_layRow wsX6_otherEnd := goodIn_r _ [37, 5, 51, 52, 53, 54, 55, 56, 57, 58, 59, 60, 61, 62, 63, 64, 65, 66, 67, 68, 69, 70, 71, 72, 73, 74, 75, 76, 77, 78, 79] (by decide +kernel) (by decide +kernel)
set_option maxRecDepth 20000 in
theorem gX6_layRow_X6_otherEnd : GoodIn wsX6_layRow (wsV RX6 164 RX6 yX6_otherEnd wsX6_otherEnd) := goodIn_app (goodIn_of _ (by decide +kernel)) ggX6_layRow_X6_otherEnd
theorem dX6_layRow_0 : decode cX6_layRow 0 = .ok (.iconst 0, 1) := by decide +kernel
theorem dX6_layRow_1 : decode cX6_layRow 1 = .ok (.istore_n 3, 1) := by decide +kernel
theorem dX6_layRow_2 : decode cX6_layRow 2 = .ok (.aload_n 0, 1) := by decide +kernel
theorem dX6_layRow_3 : decode cX6_layRow 3 = .ok (.getfield 16, 3) := by decide +kernel
theorem dX6_layRow_6 : decode cX6_layRow 6 = .ok (.iconst 0, 1) := by decide +kernel
theorem dX6_layRow_7 : decode cX6_layRow 7 = .ok (.iaload, 1) := by decide +kernel
theorem dX6_layRow_8 : decode cX6_layRow 8 = .ok (.istore 4, 2) := by decide +kernel
theorem dX6_layRow_10 : decode cX6_layRow 10 = .ok (.aload_n 0, 1) := by decide +kernel
theorem dX6_layRow_11 : decode cX6_layRow 11 = .ok (.getfield 16, 3) := by decide +kernel
theorem dX6_layRow_14 : decode cX6_layRow 14 = .ok (.iconst 2, 1) := by decide +kernel
theorem dX6_layRow_15 : decode cX6_layRow 15 = .ok (.iaload, 1) := by decide +kernel
theorem dX6_layRow_16 : decode cX6_layRow 16 = .ok (.istore 5, 2) := by decide +kernel
theorem dX6_layRow_18 : decode cX6_layRow 18 = .ok (.aload_n 0, 1) := by decide +kernel
theorem dX6_layRow_19 : decode cX6_layRow 19 = .ok (.iconst 0, 1) := by decide +kernel
theorem dX6_layRow_20 : decode cX6_layRow 20 = .ok (.putfield 221, 3) := by decide +kernel
theorem dX6_layRow_23 : decode cX6_layRow 23 = .ok (.aload_n 0, 1) := by decide +kernel
theorem dX6_layRow_24 : decode cX6_layRow 24 = .ok (.iconst 0, 1) := by decide +kernel
theorem dX6_layRow_25 : decode cX6_layRow 25 = .ok (.putfield 224, 3) := by decide +kernel
theorem dX6_layRow_28 : decode cX6_layRow 28 = .ok (.iload_n 3, 1) := by decide +kernel
theorem dX6_layRow_29 : decode cX6_layRow 29 = .ok (.iload_n 2, 1) := by decide +kernel
theorem dX6_layRow_30 : decode cX6_layRow 30 = .ok (.if_icmp .ne 17, 3) := by decide +kernel
theorem dX6_layRow_33 : decode cX6_layRow 33 = .ok (.iload 4, 2) := by decide +kernel
theorem dX6_layRow_35 : decode cX6_layRow 35 = .ok (.ifCond .ne 12, 3) := by decide +kernel
theorem dX6_layRow_38 : decode cX6_layRow 38 = .ok (.iload 5, 2) := by decide +kernel
theorem dX6_layRow_40 : decode cX6_layRow 40 = .ok (.iload_n 1, 1) := by decide +kernel
theorem dX6_layRow_41 : decode cX6_layRow 41 = .ok (.invokestatic 171, 3) := by decide +kernel
theorem dX6_layRow_44 : decode cX6_layRow 44 = .ok (.ifCond .ne 172, 3) := by decide +kernel
theorem dX6_layRow_47 : decode cX6_layRow 47 = .ok (.aload_n 0, 1) := by decide +kernel
theorem dX6_layRow_48 : decode cX6_layRow 48 = .ok (.iload_n 3, 1) := by decide +kernel
theorem dX6_layRow_49 : decode cX6_layRow 49 = .ok (.iload 4, 2) := by decide +kernel
theorem dX6_layRow_51 : decode cX6_layRow 51 = .ok (.iload 5, 2) := by decide +kernel
theorem dX6_layRow_53 : decode cX6_layRow 53 = .ok (.iload_n 2, 1) := by decide +kernel
theorem dX6_layRow_54 : decode cX6_layRow 54 = .ok (.invokevirtual 227, 3) := by decide +kernel
theorem dX6_layRow_57 : decode cX6_layRow 57 = .ok (.istore 6, 2) := by decide +kernel
theorem dX6_layRow_59 : decode cX6_layRow 59 = .ok (.aload_n 0, 1) := by decide +kernel
theorem dX6_layRow_60 : decode cX6_layRow 60 = .ok (.getfield 38, 3) := by decide +kernel
theorem dX6_layRow_63 : decode cX6_layRow 63 = .ok (.aload_n 0, 1) := by decide +kernel
theorem dX6_layRow_64 : decode cX6_layRow 64 = .ok (.getfield 221, 3) := by decide +kernel
theorem dX6_layRow_67 : decode cX6_layRow 67 = .ok (.iload 6, 2) := by decide +kernel
theorem dX6_layRow_69 : decode cX6_layRow 69 = .ok (.iastore, 1) := by decide +kernel
theorem dX6_layRow_70 : decode cX6_layRow 70 = .ok (.aload_n 0, 1) := by decide +kernel
theorem dX6_layRow_71 : decode cX6_layRow 71 = .ok (.dup, 1) := by decide +kernel
theorem dX6_layRow_72 : decode cX6_layRow 72 = .ok (.getfield 221, 3) := by decide +kernel
theorem dX6_layRow_75 : decode cX6_layRow 75 = .ok (.iconst 1, 1) := by decide +kernel
theorem dX6_layRow_76 : decode cX6_layRow 76 = .ok (.iadd, 1) := by decide +kernel
theorem dX6_layRow_77 : decode cX6_layRow 77 = .ok (.putfield 221, 3) := by decide +kernel
theorem dX6_layRow_80 : decode cX6_layRow 80 = .ok (.iload 6, 2) := by decide +kernel
theorem dX6_layRow_82 : decode cX6_layRow 82 = .ok (.ifCond .ne 9, 3) := by decide +kernel
theorem dX6_layRow_85 : decode cX6_layRow 85 = .ok (.iinc 3 1, 3) := by decide +kernel
theorem dX6_layRow_88 : decode cX6_layRow 88 = .ok (.goto 125, 3) := by decide +kernel
theorem dX6_layRow_91 : decode cX6_layRow 91 = .ok (.iload 6, 2) := by decide +kernel
theorem dX6_layRow_93 : decode cX6_layRow 93 = .ok (.bipush 10, 2) := by decide +kernel
theorem dX6_layRow_95 : decode cX6_layRow 95 = .ok (.if_icmp .le 21, 3) := by decide +kernel
theorem dX6_layRow_98 : decode cX6_layRow 98 = .ok (.aload_n 0, 1) := by decide +kernel
theorem dX6_layRow_99 : decode cX6_layRow 99 = .ok (.iload 6, 2) := by decide +kernel
theorem dX6_layRow_101 : decode cX6_layRow 101 = .ok (.bipush 11, 2) := by decide +kernel
theorem dX6_layRow_103 : decode cX6_layRow 103 = .ok (.isub, 1) := by decide +kernel
theorem dX6_layRow_104 : decode cX6_layRow 104 = .ok (.iload 4, 2) := by decide +kernel
theorem dX6_layRow_106 : decode cX6_layRow 106 = .ok (.iload 5, 2) := by decide +kernel
theorem dX6_layRow_108 : decode cX6_layRow 108 = .ok (.invokevirtual 181, 3) := by decide +kernel
theorem dX6_layRow_111 : decode cX6_layRow 111 = .ok (.istore 5, 2) := by decide +kernel
theorem dX6_layRow_113 : decode cX6_layRow 113 = .ok (.goto 100, 3) := by decide +kernel
theorem dX6_layRow_116 : decode cX6_layRow 116 = .ok (.iload 5, 2) := by decide +kernel
theorem dX6_layRow_118 : decode cX6_layRow 118 = .ok (.iload_n 1, 1) := by decide +kernel
theorem dX6_layRow_119 : decode cX6_layRow 119 = .ok (.invokestatic 171, 3) := by decide +kernel
theorem dX6_layRow_122 : decode cX6_layRow 122 = .ok (.istore 7, 2) := by decide +kernel
theorem dX6_layRow_124 : decode cX6_layRow 124 = .ok (.iload_n 3, 1) := by decide +kernel
theorem dX6_layRow_125 : decode cX6_layRow 125 = .ok (.aload_n 0, 1) := by decide +kernel
theorem dX6_layRow_126 : decode cX6_layRow 126 = .ok (.getfield 7, 3) := by decide +kernel
theorem dX6_layRow_129 : decode cX6_layRow 129 = .ok (.bipush 43, 2) := by decide +kernel
theorem dX6_layRow_131 : decode cX6_layRow 131 = .ok (.iload 6, 2) := by decide +kernel
theorem dX6_layRow_133 : decode cX6_layRow 133 = .ok (.iadd, 1) := by decide +kernel
theorem dX6_layRow_134 : decode cX6_layRow 134 = .ok (.iconst 1, 1) := by decide +kernel
theorem dX6_layRow_135 : decode cX6_layRow 135 = .ok (.isub, 1) := by decide +kernel
theorem dX6_layRow_136 : decode cX6_layRow 136 = .ok (.iaload, 1) := by decide +kernel
theorem dX6_layRow_137 : decode cX6_layRow 137 = .ok (.iadd, 1) := by decide +kernel
theorem dX6_layRow_138 : decode cX6_layRow 138 = .ok (.istore_n 3, 1) := by decide +kernel
theorem dX6_layRow_139 : decode cX6_layRow 139 = .ok (.aload_n 0, 1) := by decide +kernel
theorem dX6_layRow_140 : decode cX6_layRow 140 = .ok (.iload 6, 2) := by decide +kernel
theorem dX6_layRow_142 : decode cX6_layRow 142 = .ok (.iconst 1, 1) := by decide +kernel
theorem dX6_layRow_143 : decode cX6_layRow 143 = .ok (.isub, 1) := by decide +kernel
theorem dX6_layRow_144 : decode cX6_layRow 144 = .ok (.iload 4, 2) := by decide +kernel
theorem dX6_layRow_146 : decode cX6_layRow 146 = .ok (.aload_n 0, 1) := by decide +kernel
theorem dX6_layRow_147 : decode cX6_layRow 147 = .ok (.getfield 16, 3) := by decide +kernel
theorem dX6_layRow_150 : decode cX6_layRow 150 = .ok (.iconst 1, 1) := by decide +kernel
theorem dX6_layRow_151 : decode cX6_layRow 151 = .ok (.iaload, 1) := by decide +kernel
theorem dX6_layRow_152 : decode cX6_layRow 152 = .ok (.iload_n 3, 1) := by decide +kernel
theorem dX6_layRow_153 : decode cX6_layRow 153 = .ok (.iadd, 1) := by decide +kernel
theorem dX6_layRow_154 : decode cX6_layRow 154 = .ok (.iload 5, 2) := by decide +kernel
theorem dX6_layRow_156 : decode cX6_layRow 156 = .ok (.invokevirtual 174, 3) := by decide +kernel
theorem dX6_layRow_159 : decode cX6_layRow 159 = .ok (.istore 5, 2) := by decide +kernel
theorem dX6_layRow_161 : decode cX6_layRow 161 = .ok (.aload_n 0, 1) := by decide +kernel
theorem dX6_layRow_162 : decode cX6_layRow 162 = .ok (.iload 6, 2) := by decide +kernel
theorem dX6_layRow_164 : decode cX6_layRow 164 = .ok (.iconst 1, 1) := by decide +kernel
theorem dX6_layRow_165 : decode cX6_layRow 165 = .ok (.isub, 1) := by decide +kernel
theorem dX6_layRow_166 : decode cX6_layRow 166 = .ok (.iload 4, 2) := by decide +kernel
theorem dX6_layRow_168 : decode cX6_layRow 168 = .ok (.invokevirtual 164, 3) := by decide +kernel
theorem dX6_layRow_171 : decode cX6_layRow 171 = .ok (.istore 4, 2) := by decide +kernel
theorem dX6_layRow_173 : decode cX6_layRow 173 = .ok (.aload_n 0, 1) := by decide +kernel
theorem dX6_layRow_174 : decode cX6_layRow 174 = .ok (.getfield 41, 3) := by decide +kernel
theorem dX6_layRow_177 : decode cX6_layRow 177 = .ok (.aload_n 0, 1) := by decide +kernel
theorem dX6_layRow_178 : decode cX6_layRow 178 = .ok (.getfield 224, 3) := by decide +kernel
theorem dX6_layRow_181 : decode cX6_layRow 181 = .ok (.iload 4, 2) := by decide +kernel
theorem dX6_layRow_183 : decode cX6_layRow 183 = .ok (.iastore, 1) := by decide +kernel
theorem dX6_layRow_184 : decode cX6_layRow 184 = .ok (.aload_n 0, 1) := by decide +kernel
theorem dX6_layRow_185 : decode cX6_layRow 185 = .ok (.getfield 44, 3) := by decide +kernel
theorem dX6_layRow_188 : decode cX6_layRow 188 = .ok (.aload_n 0, 1) := by decide +kernel
theorem dX6_layRow_189 : decode cX6_layRow 189 = .ok (.getfield 224, 3) := by decide +kernel
theorem dX6_layRow_192 : decode cX6_layRow 192 = .ok (.iload_n 3, 1) := by decide +kernel
theorem dX6_layRow_193 : decode cX6_layRow 193 = .ok (.iastore, 1) := by decide +kernel
theorem dX6_layRow_194 : decode cX6_layRow 194 = .ok (.aload_n 0, 1) := by decide +kernel
theorem dX6_layRow_195 : decode cX6_layRow 195 = .ok (.dup, 1) := by decide +kernel
theorem dX6_layRow_196 : decode cX6_layRow 196 = .ok (.getfield 224, 3) := by decide +kernel
theorem dX6_layRow_199 : decode cX6_layRow 199 = .ok (.iload 7, 2) := by decide +kernel
theorem dX6_layRow_201 : decode cX6_layRow 201 = .ok (.ifCond .eq 7, 3) := by decide +kernel
theorem dX6_layRow_204 : decode cX6_layRow 204 = .ok (.iconst 1, 1) := by decide +kernel
theorem dX6_layRow_205 : decode cX6_layRow 205 = .ok (.goto 4, 3) := by decide +kernel
theorem dX6_layRow_208 : decode cX6_layRow 208 = .ok (.iconst 0, 1) := by decide +kernel
theorem dX6_layRow_209 : decode cX6_layRow 209 = .ok (.iadd, 1) := by decide +kernel
theorem dX6_layRow_210 : decode cX6_layRow 210 = .ok (.putfield 224, 3) := by decide +kernel
theorem dX6_layRow_213 : decode cX6_layRow 213 = .ok (.goto (-185), 3) := by decide +kernel
theorem dX6_layRow_216 : decode cX6_layRow 216 = .ok (.return_, 1) := by decide +kernel
set_option maxRecDepth 20000 in
theorem ggX6_soonest_X6_isThing : GoodIn wsX6_soonest wsX6_isThing := goodIn_r _ [8, 9, 10, 11, 7, 12] (by decide +kernel) (by decide +kernel)
set_option maxRecDepth 20000 in
theorem gX6_soonest_X6_isThing : GoodIn wsX6_soonest (va_wsS RX6 230 yX6_isThing wsX6_isThing) := goodIn_app (goodIn_of _ (by decide +kernel)) ggX6_soonest_X6_isThing
set_option maxRecDepth 20000 in
theorem ggX6_soonest_X6_in : GoodIn wsX6_soonest wsX6_in := goodIn_r _ [12] (by decide +kernel) (by decide +kernel)
set_option maxRecDepth 20000 in
theorem gX6_soonest_X6_in : GoodIn wsX6_soonest (va_wsS RX6 60 yX6_in wsX6_in) := goodIn_app (goodIn_of _ (by decide +kernel)) ggX6_soonest_X6_in
set_option maxRecDepth 20000 in
theorem ggX6_soonest_X6_withAll : GoodIn wsX6_soonest wsX6_withAll := goodIn_r _ [16, 17, 18, 84, 85, 86, 87, 88, 89, 90, 91, 92, 93, 94, 95, 96, 97, 98, 99, 100, 101, 102, 103, 104, 105, 106, 107, 108, 109, 110, 111, 112] (by decide +kernel) (by decide +kernel)
set_option maxRecDepth 20000 in
theorem gX6_soonest_X6_withAll : GoodIn wsX6_soonest (wsV RX6 237 RX6 yX6_withAll wsX6_withAll) := goodIn_app (goodIn_of _ (by decide +kernel)) ggX6_soonest_X6_withAll
set_option maxRecDepth 20000 in
theorem ggX6_soonest_X6_fewest : GoodIn wsX6_soonest wsX6_fewest := goodIn_r _ [22, 23, 24, 25, 26, 7, 27, 28, 29, 30, 31, 32, 33, 34, 35, 36, 37, 38, 39, 40, 41, 42, 43, 44, 45, 46, 47, 48, 49, 50, 51, 52, 17, 53, 54, 55, 56, 57, 58, 59, 60, 61, 62, 63, 64, 65, 66, 67, 68, 18, 69, 70, 71, 72, 84, 85, 86, 87, 88, 89, 90, 91, 92, 93, 94, 95, 96, 97, 98, 99, 100, 101, 102, 103, 104, 105, 106, 107, 108, 109, 110, 111, 112] (by decide +kernel) (by decide +kernel)
set_option maxRecDepth 20000 in
theorem gX6_soonest_X6_fewest : GoodIn wsX6_soonest (wsV RX6 240 RX6 yX6_fewest wsX6_fewest) := goodIn_app (goodIn_of _ (by decide +kernel)) ggX6_soonest_X6_fewest
set_option maxRecDepth 20000 in
theorem ggX6_soonest_X6_layRow : GoodIn wsX6_soonest wsX6_layRow := goodIn_r _ [76, 28, 3, 77, 4, 23, 78, 79, 34, 35, 7, 36, 80, 81, 82, 83, 41, 42, 43, 44, 45, 46, 47, 48, 33, 49, 50, 51, 52, 17, 53, 54, 55, 56, 57, 58, 59, 60, 61, 62, 63, 64, 65, 66, 67, 68, 18, 69, 70, 71, 72, 84, 85, 86, 87, 88, 89, 90, 91, 92, 93, 94, 95, 96, 97, 98, 99, 100, 101, 102, 103, 104, 105, 106, 107, 108, 109, 110, 111, 112] (by decide +kernel) (by decide +kernel)
set_option maxRecDepth 20000 in
theorem gX6_soonest_X6_layRow : GoodIn wsX6_soonest (wsV RX6 244 RX6 yX6_layRow wsX6_layRow) := goodIn_app (goodIn_of _ (by decide +kernel)) ggX6_soonest_X6_layRow
theorem dX6_soonest_0 : decode cX6_soonest 0 = .ok (.iload_n 1, 1) := by decide +kernel
theorem dX6_soonest_1 : decode cX6_soonest 1 = .ok (.invokestatic 230, 3) := by decide +kernel
theorem dX6_soonest_4 : decode cX6_soonest 4 = .ok (.ifCond .eq 17, 3) := by decide +kernel
theorem dX6_soonest_7 : decode cX6_soonest 7 = .ok (.iload_n 2, 1) := by decide +kernel
theorem dX6_soonest_8 : decode cX6_soonest 8 = .ok (.i2l, 1) := by decide +kernel
theorem dX6_soonest_9 : decode cX6_soonest 9 = .ok (.ldc2_w 233, 3) := by decide +kernel
theorem dX6_soonest_12 : decode cX6_soonest 12 = .ok (.ldc2_w 235, 3) := by decide +kernel
theorem dX6_soonest_15 : decode cX6_soonest 15 = .ok (.invokestatic 60, 3) := by decide +kernel
theorem dX6_soonest_18 : decode cX6_soonest 18 = .ok (.ifCond .ne 5, 3) := by decide +kernel
theorem dX6_soonest_21 : decode cX6_soonest 21 = .ok (.iconst (-1), 1) := by decide +kernel
theorem dX6_soonest_22 : decode cX6_soonest 22 = .ok (.ireturn, 1) := by decide +kernel
theorem dX6_soonest_23 : decode cX6_soonest 23 = .ok (.aload_n 0, 1) := by decide +kernel
theorem dX6_soonest_24 : decode cX6_soonest 24 = .ok (.invokevirtual 237, 3) := by decide +kernel
theorem dX6_soonest_27 : decode cX6_soonest 27 = .ok (.aload_n 0, 1) := by decide +kernel
theorem dX6_soonest_28 : decode cX6_soonest 28 = .ok (.iload_n 1, 1) := by decide +kernel
theorem dX6_soonest_29 : decode cX6_soonest 29 = .ok (.invokevirtual 240, 3) := by decide +kernel
theorem dX6_soonest_32 : decode cX6_soonest 32 = .ok (.istore_n 3, 1) := by decide +kernel
theorem dX6_soonest_33 : decode cX6_soonest 33 = .ok (.iload_n 3, 1) := by decide +kernel
theorem dX6_soonest_34 : decode cX6_soonest 34 = .ok (.bipush (-9), 2) := by decide +kernel
theorem dX6_soonest_36 : decode cX6_soonest 36 = .ok (.if_icmp .eq 7, 3) := by decide +kernel
theorem dX6_soonest_39 : decode cX6_soonest 39 = .ok (.iload_n 2, 1) := by decide +kernel
theorem dX6_soonest_40 : decode cX6_soonest 40 = .ok (.ifCond .ge 5, 3) := by decide +kernel
theorem dX6_soonest_43 : decode cX6_soonest 43 = .ok (.iload_n 3, 1) := by decide +kernel
theorem dX6_soonest_44 : decode cX6_soonest 44 = .ok (.ireturn, 1) := by decide +kernel
theorem dX6_soonest_45 : decode cX6_soonest 45 = .ok (.aload_n 0, 1) := by decide +kernel
theorem dX6_soonest_46 : decode cX6_soonest 46 = .ok (.iload_n 1, 1) := by decide +kernel
theorem dX6_soonest_47 : decode cX6_soonest 47 = .ok (.iload_n 3, 1) := by decide +kernel
theorem dX6_soonest_48 : decode cX6_soonest 48 = .ok (.invokevirtual 244, 3) := by decide +kernel
theorem dX6_soonest_51 : decode cX6_soonest 51 = .ok (.iload_n 2, 1) := by decide +kernel
theorem dX6_soonest_52 : decode cX6_soonest 52 = .ok (.aload_n 0, 1) := by decide +kernel
theorem dX6_soonest_53 : decode cX6_soonest 53 = .ok (.getfield 221, 3) := by decide +kernel
theorem dX6_soonest_56 : decode cX6_soonest 56 = .ok (.if_icmp .ge 12, 3) := by decide +kernel
theorem dX6_soonest_59 : decode cX6_soonest 59 = .ok (.aload_n 0, 1) := by decide +kernel
theorem dX6_soonest_60 : decode cX6_soonest 60 = .ok (.getfield 38, 3) := by decide +kernel
theorem dX6_soonest_63 : decode cX6_soonest 63 = .ok (.iload_n 2, 1) := by decide +kernel
theorem dX6_soonest_64 : decode cX6_soonest 64 = .ok (.iaload, 1) := by decide +kernel
theorem dX6_soonest_65 : decode cX6_soonest 65 = .ok (.goto 5, 3) := by decide +kernel
theorem dX6_soonest_68 : decode cX6_soonest 68 = .ok (.bipush (-9), 2) := by decide +kernel
theorem dX6_soonest_70 : decode cX6_soonest 70 = .ok (.ireturn, 1) := by decide +kernel
set_option maxRecDepth 20000 in
theorem ggX6_latest_X6_isThing : GoodIn wsX6_latest wsX6_isThing := goodIn_r _ [7, 8, 9, 10, 6, 11] (by decide +kernel) (by decide +kernel)
set_option maxRecDepth 20000 in
theorem gX6_latest_X6_isThing : GoodIn wsX6_latest (va_wsS RX6 230 yX6_isThing wsX6_isThing) := goodIn_app (goodIn_of _ (by decide +kernel)) ggX6_latest_X6_isThing
set_option maxRecDepth 20000 in
theorem ggX6_latest_X6_in : GoodIn wsX6_latest wsX6_in := goodIn_r _ [11] (by decide +kernel) (by decide +kernel)
set_option maxRecDepth 20000 in
theorem gX6_latest_X6_in : GoodIn wsX6_latest (va_wsS RX6 60 yX6_in wsX6_in) := goodIn_app (goodIn_of _ (by decide +kernel)) ggX6_latest_X6_in
set_option maxRecDepth 20000 in
theorem ggX6_latest_X6_withAll : GoodIn wsX6_latest wsX6_withAll := goodIn_r _ [15, 16, 17, 62, 63, 64, 65, 66, 67, 68, 69, 70, 71, 72, 73, 74, 75, 76, 77, 78, 79, 80, 81, 82, 83, 84, 85, 86, 87, 88, 89, 90] (by decide +kernel) (by decide +kernel)
set_option maxRecDepth 20000 in
theorem gX6_latest_X6_withAll : GoodIn wsX6_latest (wsV RX6 237 RX6 yX6_withAll wsX6_withAll) := goodIn_app (goodIn_of _ (by decide +kernel)) ggX6_latest_X6_withAll
set_option maxRecDepth 20000 in
theorem ggX6_latest_X6_layWays : GoodIn wsX6_latest wsX6_layWays := goodIn_r _ [21, 2, 22, 23, 24, 6, 25, 26, 27, 28, 29, 30, 31, 32, 33, 34, 35, 36, 37, 38, 39, 40, 41, 16, 3, 42, 43, 44, 45, 46, 47, 48, 49, 50, 51, 52, 53, 54, 55, 56, 57, 17, 58, 59, 60, 61, 62, 63, 64, 65, 66, 67, 68, 69, 70, 71, 72, 73, 74, 75, 76, 77, 78, 79, 80, 81, 82, 83, 84, 85, 86, 87, 88, 89, 90] (by decide +kernel) (by decide +kernel)
set_option maxRecDepth 20000 in
theorem gX6_latest_X6_layWays : GoodIn wsX6_latest (wsV RX6 214 RX6 yX6_layWays wsX6_layWays) := goodIn_app (goodIn_of _ (by decide +kernel)) ggX6_latest_X6_layWays
set_option maxRecDepth 20000 in
theorem ggX6_latest_X6_canBe : GoodIn wsX6_latest wsX6_canBe := goodIn_r _ [37, 22, 23, 24, 6, 25, 62, 63, 64, 65, 66, 67, 68, 69, 70, 71, 72, 73, 74, 75, 76, 77, 78, 79, 80, 81, 82, 83, 84, 85, 86, 87, 88, 89, 90] (by decide +kernel) (by decide +kernel)
set_option maxRecDepth 20000 in
theorem gX6_latest_X6_canBe : GoodIn wsX6_latest (wsV RX6 197 RX6 yX6_canBe wsX6_canBe) := goodIn_app (goodIn_of _ (by decide +kernel)) ggX6_latest_X6_canBe
theorem dX6_latest_0 : decode cX6_latest 0 = .ok (.iload_n 1, 1) := by decide +kernel
theorem dX6_latest_1 : decode cX6_latest 1 = .ok (.invokestatic 230, 3) := by decide +kernel
theorem dX6_latest_4 : decode cX6_latest 4 = .ok (.ifCond .eq 15, 3) := by decide +kernel
theorem dX6_latest_7 : decode cX6_latest 7 = .ok (.iload_n 2, 1) := by decide +kernel
theorem dX6_latest_8 : decode cX6_latest 8 = .ok (.i2l, 1) := by decide +kernel
theorem dX6_latest_9 : decode cX6_latest 9 = .ok (.lconst 0, 1) := by decide +kernel
theorem dX6_latest_10 : decode cX6_latest 10 = .ok (.ldc2_w 247, 3) := by decide +kernel
theorem dX6_latest_13 : decode cX6_latest 13 = .ok (.invokestatic 60, 3) := by decide +kernel
theorem dX6_latest_16 : decode cX6_latest 16 = .ok (.ifCond .ne 5, 3) := by decide +kernel
theorem dX6_latest_19 : decode cX6_latest 19 = .ok (.iconst (-1), 1) := by decide +kernel
theorem dX6_latest_20 : decode cX6_latest 20 = .ok (.ireturn, 1) := by decide +kernel
theorem dX6_latest_21 : decode cX6_latest 21 = .ok (.aload_n 0, 1) := by decide +kernel
theorem dX6_latest_22 : decode cX6_latest 22 = .ok (.getfield 7, 3) := by decide +kernel
theorem dX6_latest_25 : decode cX6_latest 25 = .ok (.iconst 0, 1) := by decide +kernel
theorem dX6_latest_26 : decode cX6_latest 26 = .ok (.iaload, 1) := by decide +kernel
theorem dX6_latest_27 : decode cX6_latest 27 = .ok (.ifCond .ne 6, 3) := by decide +kernel
theorem dX6_latest_30 : decode cX6_latest 30 = .ok (.bipush (-9), 2) := by decide +kernel
theorem dX6_latest_32 : decode cX6_latest 32 = .ok (.ireturn, 1) := by decide +kernel
theorem dX6_latest_33 : decode cX6_latest 33 = .ok (.aload_n 0, 1) := by decide +kernel
theorem dX6_latest_34 : decode cX6_latest 34 = .ok (.invokevirtual 237, 3) := by decide +kernel
theorem dX6_latest_37 : decode cX6_latest 37 = .ok (.aload_n 0, 1) := by decide +kernel
theorem dX6_latest_38 : decode cX6_latest 38 = .ok (.iload_n 1, 1) := by decide +kernel
theorem dX6_latest_39 : decode cX6_latest 39 = .ok (.iload_n 2, 1) := by decide +kernel
theorem dX6_latest_40 : decode cX6_latest 40 = .ok (.invokevirtual 214, 3) := by decide +kernel
theorem dX6_latest_43 : decode cX6_latest 43 = .ok (.iload_n 2, 1) := by decide +kernel
theorem dX6_latest_44 : decode cX6_latest 44 = .ok (.istore_n 3, 1) := by decide +kernel
theorem dX6_latest_45 : decode cX6_latest 45 = .ok (.iload_n 3, 1) := by decide +kernel
theorem dX6_latest_46 : decode cX6_latest 46 = .ok (.ifCond .lt 31, 3) := by decide +kernel
theorem dX6_latest_49 : decode cX6_latest 49 = .ok (.aload_n 0, 1) := by decide +kernel
theorem dX6_latest_50 : decode cX6_latest 50 = .ok (.iload_n 3, 1) := by decide +kernel
theorem dX6_latest_51 : decode cX6_latest 51 = .ok (.aload_n 0, 1) := by decide +kernel
theorem dX6_latest_52 : decode cX6_latest 52 = .ok (.getfield 16, 3) := by decide +kernel
theorem dX6_latest_55 : decode cX6_latest 55 = .ok (.iconst 0, 1) := by decide +kernel
theorem dX6_latest_56 : decode cX6_latest 56 = .ok (.iaload, 1) := by decide +kernel
theorem dX6_latest_57 : decode cX6_latest 57 = .ok (.aload_n 0, 1) := by decide +kernel
theorem dX6_latest_58 : decode cX6_latest 58 = .ok (.getfield 16, 3) := by decide +kernel
theorem dX6_latest_61 : decode cX6_latest 61 = .ok (.iconst 2, 1) := by decide +kernel
theorem dX6_latest_62 : decode cX6_latest 62 = .ok (.iaload, 1) := by decide +kernel
theorem dX6_latest_63 : decode cX6_latest 63 = .ok (.invokevirtual 197, 3) := by decide +kernel
theorem dX6_latest_66 : decode cX6_latest 66 = .ok (.ifCond .eq 5, 3) := by decide +kernel
theorem dX6_latest_69 : decode cX6_latest 69 = .ok (.iload_n 3, 1) := by decide +kernel
theorem dX6_latest_70 : decode cX6_latest 70 = .ok (.ireturn, 1) := by decide +kernel
theorem dX6_latest_71 : decode cX6_latest 71 = .ok (.iinc 3 (-1), 3) := by decide +kernel
theorem dX6_latest_74 : decode cX6_latest 74 = .ok (.goto (-29), 3) := by decide +kernel
theorem dX6_latest_77 : decode cX6_latest 77 = .ok (.bipush (-9), 2) := by decide +kernel
theorem dX6_latest_79 : decode cX6_latest 79 = .ok (.ireturn, 1) := by decide +kernel
set_option maxRecDepth 20000 in
theorem ggX6_without_X6_isThing : GoodIn wsX6_without wsX6_isThing := goodIn_r _ [7, 8, 9, 10, 6, 11] (by decide +kernel) (by decide +kernel)
set_option maxRecDepth 20000 in
theorem gX6_without_X6_isThing : GoodIn wsX6_without (va_wsS RX6 230 yX6_isThing wsX6_isThing) := goodIn_app (goodIn_of _ (by decide +kernel)) ggX6_without_X6_isThing
set_option maxRecDepth 20000 in
theorem ggX6_without_X6_isTwo : GoodIn wsX6_without wsX6_isTwo := goodIn_r _ [14, 9, 10, 6, 11] (by decide +kernel) (by decide +kernel)
set_option maxRecDepth 20000 in
theorem gX6_without_X6_isTwo : GoodIn wsX6_without (va_wsS RX6 249 yX6_isTwo wsX6_isTwo) := goodIn_app (goodIn_of _ (by decide +kernel)) ggX6_without_X6_isTwo
set_option maxRecDepth 20000 in
theorem ggX6_without_X6_withAll : GoodIn wsX6_without wsX6_withAll := goodIn_r _ [18, 2, 3, 68, 69, 70, 71, 72, 73, 74, 75, 76, 77, 78, 79, 80, 81, 82, 83, 84, 85, 86, 87, 88, 89, 90, 91, 92, 93, 94, 95, 96] (by decide +kernel) (by decide +kernel)
set_option maxRecDepth 20000 in
theorem gX6_without_X6_withAll : GoodIn wsX6_without (wsV RX6 237 RX6 yX6_withAll wsX6_withAll) := goodIn_app (goodIn_of _ (by decide +kernel)) ggX6_without_X6_withAll
set_option maxRecDepth 20000 in
theorem ggX6_without_X6_isWay : GoodIn wsX6_without wsX6_isWay := goodIn_r _ [22, 23, 24, 25, 26, 6, 27, 1, 28, 29, 30, 31, 32, 33, 34, 35, 36, 37, 38, 39, 40, 41, 42, 43, 44, 45, 46, 47, 2, 48, 49, 50, 51, 52, 53, 54, 55, 56, 57, 58, 59, 60, 61, 62, 63, 3, 64, 65, 66, 67, 68, 69, 70, 71, 72, 73, 74, 75, 76, 77, 78, 79, 80, 81, 82, 83, 84, 85, 86, 87, 88, 89, 90, 91, 92, 93, 94, 95, 96] (by decide +kernel) (by decide +kernel)
set_option maxRecDepth 20000 in
theorem gX6_without_X6_isWay : GoodIn wsX6_without (wsV RX6 218 RX6 yX6_isWay wsX6_isWay) := goodIn_app (goodIn_of _ (by decide +kernel)) ggX6_without_X6_isWay
theorem dX6_without_0 : decode cX6_without 0 = .ok (.iload_n 1, 1) := by decide +kernel
theorem dX6_without_1 : decode cX6_without 1 = .ok (.invokestatic 230, 3) := by decide +kernel
theorem dX6_without_4 : decode cX6_without 4 = .ok (.ifCond .eq 10, 3) := by decide +kernel
theorem dX6_without_7 : decode cX6_without 7 = .ok (.iload_n 2, 1) := by decide +kernel
theorem dX6_without_8 : decode cX6_without 8 = .ok (.invokestatic 249, 3) := by decide +kernel
theorem dX6_without_11 : decode cX6_without 11 = .ok (.ifCond .ne 5, 3) := by decide +kernel
theorem dX6_without_14 : decode cX6_without 14 = .ok (.iconst (-1), 1) := by decide +kernel
theorem dX6_without_15 : decode cX6_without 15 = .ok (.ireturn, 1) := by decide +kernel
theorem dX6_without_16 : decode cX6_without 16 = .ok (.aload_n 0, 1) := by decide +kernel
theorem dX6_without_17 : decode cX6_without 17 = .ok (.invokevirtual 237, 3) := by decide +kernel
theorem dX6_without_20 : decode cX6_without 20 = .ok (.iconst 0, 1) := by decide +kernel
theorem dX6_without_21 : decode cX6_without 21 = .ok (.istore_n 3, 1) := by decide +kernel
theorem dX6_without_22 : decode cX6_without 22 = .ok (.aload_n 0, 1) := by decide +kernel
theorem dX6_without_23 : decode cX6_without 23 = .ok (.getfield 7, 3) := by decide +kernel
theorem dX6_without_26 : decode cX6_without 26 = .ok (.iconst 0, 1) := by decide +kernel
theorem dX6_without_27 : decode cX6_without 27 = .ok (.iaload, 1) := by decide +kernel
theorem dX6_without_28 : decode cX6_without 28 = .ok (.ifCond .le 85, 3) := by decide +kernel
theorem dX6_without_31 : decode cX6_without 31 = .ok (.aload_n 0, 1) := by decide +kernel
theorem dX6_without_32 : decode cX6_without 32 = .ok (.iload_n 1, 1) := by decide +kernel
theorem dX6_without_33 : decode cX6_without 33 = .ok (.bipush 60, 2) := by decide +kernel
theorem dX6_without_35 : decode cX6_without 35 = .ok (.invokevirtual 218, 3) := by decide +kernel
theorem dX6_without_38 : decode cX6_without 38 = .ok (.ifCond .eq 75, 3) := by decide +kernel
theorem dX6_without_41 : decode cX6_without 41 = .ok (.iconst 0, 1) := by decide +kernel
theorem dX6_without_42 : decode cX6_without 42 = .ok (.istore 4, 2) := by decide +kernel
theorem dX6_without_44 : decode cX6_without 44 = .ok (.iload 4, 2) := by decide +kernel
theorem dX6_without_46 : decode cX6_without 46 = .ok (.aload_n 0, 1) := by decide +kernel
theorem dX6_without_47 : decode cX6_without 47 = .ok (.getfield 7, 3) := by decide +kernel
theorem dX6_without_50 : decode cX6_without 50 = .ok (.iconst 1, 1) := by decide +kernel
theorem dX6_without_51 : decode cX6_without 51 = .ok (.iload_n 2, 1) := by decide +kernel
theorem dX6_without_52 : decode cX6_without 52 = .ok (.iadd, 1) := by decide +kernel
theorem dX6_without_53 : decode cX6_without 53 = .ok (.iaload, 1) := by decide +kernel
theorem dX6_without_54 : decode cX6_without 54 = .ok (.if_icmp .ge 59, 3) := by decide +kernel
theorem dX6_without_57 : decode cX6_without 57 = .ok (.aload_n 0, 1) := by decide +kernel
theorem dX6_without_58 : decode cX6_without 58 = .ok (.iload_n 2, 1) := by decide +kernel
theorem dX6_without_59 : decode cX6_without 59 = .ok (.ifCond .ne 8, 3) := by decide +kernel
theorem dX6_without_62 : decode cX6_without 62 = .ok (.iload 4, 2) := by decide +kernel
theorem dX6_without_64 : decode cX6_without 64 = .ok (.goto 4, 3) := by decide +kernel
theorem dX6_without_67 : decode cX6_without 67 = .ok (.iconst (-1), 1) := by decide +kernel
theorem dX6_without_68 : decode cX6_without 68 = .ok (.putfield 191, 3) := by decide +kernel
theorem dX6_without_71 : decode cX6_without 71 = .ok (.aload_n 0, 1) := by decide +kernel
theorem dX6_without_72 : decode cX6_without 72 = .ok (.iload_n 2, 1) := by decide +kernel
theorem dX6_without_73 : decode cX6_without 73 = .ok (.iconst 1, 1) := by decide +kernel
theorem dX6_without_74 : decode cX6_without 74 = .ok (.if_icmp .ne 8, 3) := by decide +kernel
theorem dX6_without_77 : decode cX6_without 77 = .ok (.iload 4, 2) := by decide +kernel
theorem dX6_without_79 : decode cX6_without 79 = .ok (.goto 4, 3) := by decide +kernel
theorem dX6_without_82 : decode cX6_without 82 = .ok (.iconst (-1), 1) := by decide +kernel
theorem dX6_without_83 : decode cX6_without 83 = .ok (.putfield 194, 3) := by decide +kernel
theorem dX6_without_86 : decode cX6_without 86 = .ok (.iload_n 3, 1) := by decide +kernel
theorem dX6_without_87 : decode cX6_without 87 = .ok (.aload_n 0, 1) := by decide +kernel
theorem dX6_without_88 : decode cX6_without 88 = .ok (.iload_n 1, 1) := by decide +kernel
theorem dX6_without_89 : decode cX6_without 89 = .ok (.bipush 60, 2) := by decide +kernel
theorem dX6_without_91 : decode cX6_without 91 = .ok (.invokevirtual 218, 3) := by decide +kernel
theorem dX6_without_94 : decode cX6_without 94 = .ok (.ifCond .eq 7, 3) := by decide +kernel
theorem dX6_without_97 : decode cX6_without 97 = .ok (.iconst 0, 1) := by decide +kernel
theorem dX6_without_98 : decode cX6_without 98 = .ok (.goto 7, 3) := by decide +kernel
theorem dX6_without_101 : decode cX6_without 101 = .ok (.iconst 1, 1) := by decide +kernel
theorem dX6_without_102 : decode cX6_without 102 = .ok (.iload 4, 2) := by decide +kernel
theorem dX6_without_104 : decode cX6_without 104 = .ok (.ishl, 1) := by decide +kernel
theorem dX6_without_105 : decode cX6_without 105 = .ok (.ior, 1) := by decide +kernel
theorem dX6_without_106 : decode cX6_without 106 = .ok (.istore_n 3, 1) := by decide +kernel
theorem dX6_without_107 : decode cX6_without 107 = .ok (.iinc 4 1, 3) := by decide +kernel
theorem dX6_without_110 : decode cX6_without 110 = .ok (.goto (-66), 3) := by decide +kernel
theorem dX6_without_113 : decode cX6_without 113 = .ok (.iload_n 3, 1) := by decide +kernel
theorem dX6_without_114 : decode cX6_without 114 = .ok (.ireturn, 1) := by decide +kernel
theorem dX6_layFar_0 : decode cX6_layFar 0 = .ok (.iconst 0, 1) := by decide +kernel
theorem dX6_layFar_1 : decode cX6_layFar 1 = .ok (.istore_n 2, 1) := by decide +kernel
theorem dX6_layFar_2 : decode cX6_layFar 2 = .ok (.iload_n 2, 1) := by decide +kernel
theorem dX6_layFar_3 : decode cX6_layFar 3 = .ok (.bipush 7, 2) := by decide +kernel
theorem dX6_layFar_5 : decode cX6_layFar 5 = .ok (.if_icmp .ge 27, 3) := by decide +kernel
theorem dX6_layFar_8 : decode cX6_layFar 8 = .ok (.aload_n 0, 1) := by decide +kernel
theorem dX6_layFar_9 : decode cX6_layFar 9 = .ok (.getfield 47, 3) := by decide +kernel
theorem dX6_layFar_12 : decode cX6_layFar 12 = .ok (.iload_n 2, 1) := by decide +kernel
theorem dX6_layFar_13 : decode cX6_layFar 13 = .ok (.iload_n 2, 1) := by decide +kernel
theorem dX6_layFar_14 : decode cX6_layFar 14 = .ok (.iload_n 1, 1) := by decide +kernel
theorem dX6_layFar_15 : decode cX6_layFar 15 = .ok (.if_icmp .ne 7, 3) := by decide +kernel
theorem dX6_layFar_18 : decode cX6_layFar 18 = .ok (.iconst 0, 1) := by decide +kernel
theorem dX6_layFar_19 : decode cX6_layFar 19 = .ok (.goto 6, 3) := by decide +kernel
theorem dX6_layFar_22 : decode cX6_layFar 22 = .ok (.sipush 9999, 3) := by decide +kernel
theorem dX6_layFar_25 : decode cX6_layFar 25 = .ok (.iastore, 1) := by decide +kernel
theorem dX6_layFar_26 : decode cX6_layFar 26 = .ok (.iinc 2 1, 3) := by decide +kernel
theorem dX6_layFar_29 : decode cX6_layFar 29 = .ok (.goto (-27), 3) := by decide +kernel
theorem dX6_layFar_32 : decode cX6_layFar 32 = .ok (.iconst 0, 1) := by decide +kernel
theorem dX6_layFar_33 : decode cX6_layFar 33 = .ok (.istore_n 2, 1) := by decide +kernel
theorem dX6_layFar_34 : decode cX6_layFar 34 = .ok (.iload_n 2, 1) := by decide +kernel
theorem dX6_layFar_35 : decode cX6_layFar 35 = .ok (.bipush 7, 2) := by decide +kernel
theorem dX6_layFar_37 : decode cX6_layFar 37 = .ok (.if_icmp .ge 154, 3) := by decide +kernel
theorem dX6_layFar_40 : decode cX6_layFar 40 = .ok (.iconst 0, 1) := by decide +kernel
theorem dX6_layFar_41 : decode cX6_layFar 41 = .ok (.istore_n 3, 1) := by decide +kernel
theorem dX6_layFar_42 : decode cX6_layFar 42 = .ok (.iload_n 3, 1) := by decide +kernel
theorem dX6_layFar_43 : decode cX6_layFar 43 = .ok (.aload_n 0, 1) := by decide +kernel
theorem dX6_layFar_44 : decode cX6_layFar 44 = .ok (.getfield 7, 3) := by decide +kernel
theorem dX6_layFar_47 : decode cX6_layFar 47 = .ok (.iconst 1, 1) := by decide +kernel
theorem dX6_layFar_48 : decode cX6_layFar 48 = .ok (.iaload, 1) := by decide +kernel
theorem dX6_layFar_49 : decode cX6_layFar 49 = .ok (.if_icmp .ge 136, 3) := by decide +kernel
theorem dX6_layFar_52 : decode cX6_layFar 52 = .ok (.aload_n 0, 1) := by decide +kernel
theorem dX6_layFar_53 : decode cX6_layFar 53 = .ok (.getfield 7, 3) := by decide +kernel
theorem dX6_layFar_56 : decode cX6_layFar 56 = .ok (.bipush 25, 2) := by decide +kernel
theorem dX6_layFar_58 : decode cX6_layFar 58 = .ok (.iload_n 3, 1) := by decide +kernel
theorem dX6_layFar_59 : decode cX6_layFar 59 = .ok (.iadd, 1) := by decide +kernel
theorem dX6_layFar_60 : decode cX6_layFar 60 = .ok (.iaload, 1) := by decide +kernel
theorem dX6_layFar_61 : decode cX6_layFar 61 = .ok (.istore 4, 2) := by decide +kernel
theorem dX6_layFar_63 : decode cX6_layFar 63 = .ok (.aload_n 0, 1) := by decide +kernel
theorem dX6_layFar_64 : decode cX6_layFar 64 = .ok (.getfield 7, 3) := by decide +kernel
theorem dX6_layFar_67 : decode cX6_layFar 67 = .ok (.bipush 34, 2) := by decide +kernel
theorem dX6_layFar_69 : decode cX6_layFar 69 = .ok (.iload_n 3, 1) := by decide +kernel
theorem dX6_layFar_70 : decode cX6_layFar 70 = .ok (.iadd, 1) := by decide +kernel
theorem dX6_layFar_71 : decode cX6_layFar 71 = .ok (.iaload, 1) := by decide +kernel
theorem dX6_layFar_72 : decode cX6_layFar 72 = .ok (.istore 5, 2) := by decide +kernel
theorem dX6_layFar_74 : decode cX6_layFar 74 = .ok (.aload_n 0, 1) := by decide +kernel
theorem dX6_layFar_75 : decode cX6_layFar 75 = .ok (.getfield 7, 3) := by decide +kernel
theorem dX6_layFar_78 : decode cX6_layFar 78 = .ok (.bipush 43, 2) := by decide +kernel
theorem dX6_layFar_80 : decode cX6_layFar 80 = .ok (.iload_n 3, 1) := by decide +kernel
theorem dX6_layFar_81 : decode cX6_layFar 81 = .ok (.iadd, 1) := by decide +kernel
theorem dX6_layFar_82 : decode cX6_layFar 82 = .ok (.iaload, 1) := by decide +kernel
theorem dX6_layFar_83 : decode cX6_layFar 83 = .ok (.istore 6, 2) := by decide +kernel
theorem dX6_layFar_85 : decode cX6_layFar 85 = .ok (.aload_n 0, 1) := by decide +kernel
theorem dX6_layFar_86 : decode cX6_layFar 86 = .ok (.getfield 47, 3) := by decide +kernel
theorem dX6_layFar_89 : decode cX6_layFar 89 = .ok (.iload 4, 2) := by decide +kernel
theorem dX6_layFar_91 : decode cX6_layFar 91 = .ok (.aload_n 0, 1) := by decide +kernel
theorem dX6_layFar_92 : decode cX6_layFar 92 = .ok (.getfield 47, 3) := by decide +kernel
theorem dX6_layFar_95 : decode cX6_layFar 95 = .ok (.iload 5, 2) := by decide +kernel
theorem dX6_layFar_97 : decode cX6_layFar 97 = .ok (.iaload, 1) := by decide +kernel
theorem dX6_layFar_98 : decode cX6_layFar 98 = .ok (.iload 6, 2) := by decide +kernel
theorem dX6_layFar_100 : decode cX6_layFar 100 = .ok (.iadd, 1) := by decide +kernel
theorem dX6_layFar_101 : decode cX6_layFar 101 = .ok (.aload_n 0, 1) := by decide +kernel
theorem dX6_layFar_102 : decode cX6_layFar 102 = .ok (.getfield 47, 3) := by decide +kernel
theorem dX6_layFar_105 : decode cX6_layFar 105 = .ok (.iload 4, 2) := by decide +kernel
theorem dX6_layFar_107 : decode cX6_layFar 107 = .ok (.iaload, 1) := by decide +kernel
theorem dX6_layFar_108 : decode cX6_layFar 108 = .ok (.if_icmp .ge 16, 3) := by decide +kernel
theorem dX6_layFar_111 : decode cX6_layFar 111 = .ok (.aload_n 0, 1) := by decide +kernel
theorem dX6_layFar_112 : decode cX6_layFar 112 = .ok (.getfield 47, 3) := by decide +kernel
theorem dX6_layFar_115 : decode cX6_layFar 115 = .ok (.iload 5, 2) := by decide +kernel
theorem dX6_layFar_117 : decode cX6_layFar 117 = .ok (.iaload, 1) := by decide +kernel
theorem dX6_layFar_118 : decode cX6_layFar 118 = .ok (.iload 6, 2) := by decide +kernel
theorem dX6_layFar_120 : decode cX6_layFar 120 = .ok (.iadd, 1) := by decide +kernel
theorem dX6_layFar_121 : decode cX6_layFar 121 = .ok (.goto 10, 3) := by decide +kernel
theorem dX6_layFar_124 : decode cX6_layFar 124 = .ok (.aload_n 0, 1) := by decide +kernel
theorem dX6_layFar_125 : decode cX6_layFar 125 = .ok (.getfield 47, 3) := by decide +kernel
theorem dX6_layFar_128 : decode cX6_layFar 128 = .ok (.iload 4, 2) := by decide +kernel
theorem dX6_layFar_130 : decode cX6_layFar 130 = .ok (.iaload, 1) := by decide +kernel
theorem dX6_layFar_131 : decode cX6_layFar 131 = .ok (.iastore, 1) := by decide +kernel
theorem dX6_layFar_132 : decode cX6_layFar 132 = .ok (.aload_n 0, 1) := by decide +kernel
theorem dX6_layFar_133 : decode cX6_layFar 133 = .ok (.getfield 47, 3) := by decide +kernel
theorem dX6_layFar_136 : decode cX6_layFar 136 = .ok (.iload 5, 2) := by decide +kernel
theorem dX6_layFar_138 : decode cX6_layFar 138 = .ok (.aload_n 0, 1) := by decide +kernel
theorem dX6_layFar_139 : decode cX6_layFar 139 = .ok (.getfield 47, 3) := by decide +kernel
theorem dX6_layFar_142 : decode cX6_layFar 142 = .ok (.iload 4, 2) := by decide +kernel
theorem dX6_layFar_144 : decode cX6_layFar 144 = .ok (.iaload, 1) := by decide +kernel
theorem dX6_layFar_145 : decode cX6_layFar 145 = .ok (.iload 6, 2) := by decide +kernel
theorem dX6_layFar_147 : decode cX6_layFar 147 = .ok (.iadd, 1) := by decide +kernel
theorem dX6_layFar_148 : decode cX6_layFar 148 = .ok (.aload_n 0, 1) := by decide +kernel
theorem dX6_layFar_149 : decode cX6_layFar 149 = .ok (.getfield 47, 3) := by decide +kernel
theorem dX6_layFar_152 : decode cX6_layFar 152 = .ok (.iload 5, 2) := by decide +kernel
theorem dX6_layFar_154 : decode cX6_layFar 154 = .ok (.iaload, 1) := by decide +kernel
theorem dX6_layFar_155 : decode cX6_layFar 155 = .ok (.if_icmp .ge 16, 3) := by decide +kernel
theorem dX6_layFar_158 : decode cX6_layFar 158 = .ok (.aload_n 0, 1) := by decide +kernel
theorem dX6_layFar_159 : decode cX6_layFar 159 = .ok (.getfield 47, 3) := by decide +kernel
theorem dX6_layFar_162 : decode cX6_layFar 162 = .ok (.iload 4, 2) := by decide +kernel
theorem dX6_layFar_164 : decode cX6_layFar 164 = .ok (.iaload, 1) := by decide +kernel
theorem dX6_layFar_165 : decode cX6_layFar 165 = .ok (.iload 6, 2) := by decide +kernel
theorem dX6_layFar_167 : decode cX6_layFar 167 = .ok (.iadd, 1) := by decide +kernel
theorem dX6_layFar_168 : decode cX6_layFar 168 = .ok (.goto 10, 3) := by decide +kernel
theorem dX6_layFar_171 : decode cX6_layFar 171 = .ok (.aload_n 0, 1) := by decide +kernel
theorem dX6_layFar_172 : decode cX6_layFar 172 = .ok (.getfield 47, 3) := by decide +kernel
theorem dX6_layFar_175 : decode cX6_layFar 175 = .ok (.iload 5, 2) := by decide +kernel
theorem dX6_layFar_177 : decode cX6_layFar 177 = .ok (.iaload, 1) := by decide +kernel
theorem dX6_layFar_178 : decode cX6_layFar 178 = .ok (.iastore, 1) := by decide +kernel
theorem dX6_layFar_179 : decode cX6_layFar 179 = .ok (.iinc 3 1, 3) := by decide +kernel
theorem dX6_layFar_182 : decode cX6_layFar 182 = .ok (.goto (-140), 3) := by decide +kernel
theorem dX6_layFar_185 : decode cX6_layFar 185 = .ok (.iinc 2 1, 3) := by decide +kernel
theorem dX6_layFar_188 : decode cX6_layFar 188 = .ok (.goto (-154), 3) := by decide +kernel
theorem dX6_layFar_191 : decode cX6_layFar 191 = .ok (.return_, 1) := by decide +kernel
set_option maxRecDepth 20000 in
theorem ggX6_robbed_X6_isThing : GoodIn wsX6_robbed wsX6_isThing := goodIn_r _ [8, 9, 10, 11, 7, 12] (by decide +kernel) (by decide +kernel)
set_option maxRecDepth 20000 in
theorem gX6_robbed_X6_isThing : GoodIn wsX6_robbed (va_wsS RX6 230 yX6_isThing wsX6_isThing) := goodIn_app (goodIn_of _ (by decide +kernel)) ggX6_robbed_X6_isThing
set_option maxRecDepth 20000 in
theorem ggX6_robbed_X6_isPlace : GoodIn wsX6_robbed wsX6_isPlace := goodIn_r _ [16, 17, 10, 11, 7, 12, 91, 92, 93, 94, 95, 96, 97, 98, 99, 100, 101, 102, 103, 104, 105, 106, 107, 108, 109, 110, 111, 112, 113, 114, 115, 116, 117, 118, 119] (by decide +kernel) (by decide +kernel)
set_option maxRecDepth 20000 in
theorem gX6_robbed_X6_isPlace : GoodIn wsX6_robbed (wsV RX6 153 RX6 yX6_isPlace wsX6_isPlace) := goodIn_app (goodIn_of _ (by decide +kernel)) ggX6_robbed_X6_isPlace
set_option maxRecDepth 20000 in
theorem ggX6_robbed_X6_withAll : GoodIn wsX6_robbed wsX6_withAll := goodIn_r _ [21, 22, 23, 91, 92, 93, 94, 95, 96, 97, 98, 99, 100, 101, 102, 103, 104, 105, 106, 107, 108, 109, 110, 111, 112, 113, 114, 115, 116, 117, 118, 119] (by decide +kernel) (by decide +kernel)
set_option maxRecDepth 20000 in
theorem gX6_robbed_X6_withAll : GoodIn wsX6_robbed (wsV RX6 237 RX6 yX6_withAll wsX6_withAll) := goodIn_app (goodIn_of _ (by decide +kernel)) ggX6_robbed_X6_withAll
set_option maxRecDepth 20000 in
theorem ggX6_robbed_X6_fewest : GoodIn wsX6_robbed wsX6_fewest := goodIn_r _ [27, 17, 28, 29, 30, 7, 31, 32, 33, 34, 35, 36, 37, 38, 39, 40, 41, 42, 43, 44, 45, 46, 47, 48, 49, 50, 51, 52, 53, 54, 55, 56, 22, 57, 58, 59, 60, 61, 62, 63, 64, 65, 66, 67, 68, 69, 70, 71, 72, 23, 73, 74, 75, 76, 91, 92, 93, 94, 95, 96, 97, 98, 99, 100, 101, 102, 103, 104, 105, 106, 107, 108, 109, 110, 111, 112, 113, 114, 115, 116, 117, 118, 119] (by decide +kernel) (by decide +kernel)
set_option maxRecDepth 20000 in
theorem gX6_robbed_X6_fewest : GoodIn wsX6_robbed (wsV RX6 240 RX6 yX6_fewest wsX6_fewest) := goodIn_app (goodIn_of _ (by decide +kernel)) ggX6_robbed_X6_fewest
set_option maxRecDepth 20000 in
theorem ggX6_robbed_X6_layRow : GoodIn wsX6_robbed wsX6_layRow := goodIn_r _ [80, 32, 81, 1, 82, 17, 3, 4, 38, 39, 7, 40, 83, 84, 85, 86, 45, 46, 47, 48, 49, 50, 51, 52, 37, 53, 54, 55, 56, 22, 57, 58, 59, 60, 61, 62, 63, 64, 65, 66, 67, 68, 69, 70, 71, 72, 23, 73, 74, 75, 76, 91, 92, 93, 94, 95, 96, 97, 98, 99, 100, 101, 102, 103, 104, 105, 106, 107, 108, 109, 110, 111, 112, 113, 114, 115, 116, 117, 118, 119] (by decide +kernel) (by decide +kernel)
set_option maxRecDepth 20000 in
theorem gX6_robbed_X6_layRow : GoodIn wsX6_robbed (wsV RX6 244 RX6 yX6_layRow wsX6_layRow) := goodIn_app (goodIn_of _ (by decide +kernel)) ggX6_robbed_X6_layRow
set_option maxRecDepth 20000 in
theorem ggX6_robbed_X6_layFar : GoodIn wsX6_robbed wsX6_layFar := goodIn_r _ [90, 2, 17, 91, 92, 93, 94, 95, 96, 97, 98, 99, 100, 101, 102, 103, 104, 105, 106, 107, 108, 109, 110, 111, 112, 113, 114, 115, 116, 117, 118, 119] (by decide +kernel) (by decide +kernel)
set_option maxRecDepth 20000 in
theorem gX6_robbed_X6_layFar : GoodIn wsX6_robbed (wsV RX6 252 RX6 yX6_layFar wsX6_layFar) := goodIn_app (goodIn_of _ (by decide +kernel)) ggX6_robbed_X6_layFar
theorem dX6_robbed_0 : decode cX6_robbed 0 = .ok (.iload_n 1, 1) := by decide +kernel
theorem dX6_robbed_1 : decode cX6_robbed 1 = .ok (.invokestatic 230, 3) := by decide +kernel
theorem dX6_robbed_4 : decode cX6_robbed 4 = .ok (.ifCond .eq 11, 3) := by decide +kernel
theorem dX6_robbed_7 : decode cX6_robbed 7 = .ok (.aload_n 0, 1) := by decide +kernel
theorem dX6_robbed_8 : decode cX6_robbed 8 = .ok (.iload_n 2, 1) := by decide +kernel
theorem dX6_robbed_9 : decode cX6_robbed 9 = .ok (.invokevirtual 153, 3) := by decide +kernel
theorem dX6_robbed_12 : decode cX6_robbed 12 = .ok (.ifCond .ne 5, 3) := by decide +kernel
theorem dX6_robbed_15 : decode cX6_robbed 15 = .ok (.iconst (-1), 1) := by decide +kernel
theorem dX6_robbed_16 : decode cX6_robbed 16 = .ok (.ireturn, 1) := by decide +kernel
theorem dX6_robbed_17 : decode cX6_robbed 17 = .ok (.aload_n 0, 1) := by decide +kernel
theorem dX6_robbed_18 : decode cX6_robbed 18 = .ok (.invokevirtual 237, 3) := by decide +kernel
theorem dX6_robbed_21 : decode cX6_robbed 21 = .ok (.aload_n 0, 1) := by decide +kernel
theorem dX6_robbed_22 : decode cX6_robbed 22 = .ok (.iload_n 1, 1) := by decide +kernel
theorem dX6_robbed_23 : decode cX6_robbed 23 = .ok (.invokevirtual 240, 3) := by decide +kernel
theorem dX6_robbed_26 : decode cX6_robbed 26 = .ok (.istore_n 3, 1) := by decide +kernel
theorem dX6_robbed_27 : decode cX6_robbed 27 = .ok (.iload_n 3, 1) := by decide +kernel
theorem dX6_robbed_28 : decode cX6_robbed 28 = .ok (.bipush (-9), 2) := by decide +kernel
theorem dX6_robbed_30 : decode cX6_robbed 30 = .ok (.if_icmp .ne 6, 3) := by decide +kernel
theorem dX6_robbed_33 : decode cX6_robbed 33 = .ok (.bipush (-9), 2) := by decide +kernel
theorem dX6_robbed_35 : decode cX6_robbed 35 = .ok (.ireturn, 1) := by decide +kernel
theorem dX6_robbed_36 : decode cX6_robbed 36 = .ok (.aload_n 0, 1) := by decide +kernel
theorem dX6_robbed_37 : decode cX6_robbed 37 = .ok (.iload_n 1, 1) := by decide +kernel
theorem dX6_robbed_38 : decode cX6_robbed 38 = .ok (.iload_n 3, 1) := by decide +kernel
theorem dX6_robbed_39 : decode cX6_robbed 39 = .ok (.invokevirtual 244, 3) := by decide +kernel
theorem dX6_robbed_42 : decode cX6_robbed 42 = .ok (.aload_n 0, 1) := by decide +kernel
theorem dX6_robbed_43 : decode cX6_robbed 43 = .ok (.iload_n 2, 1) := by decide +kernel
theorem dX6_robbed_44 : decode cX6_robbed 44 = .ok (.invokevirtual 252, 3) := by decide +kernel
theorem dX6_robbed_47 : decode cX6_robbed 47 = .ok (.iconst 0, 1) := by decide +kernel
theorem dX6_robbed_48 : decode cX6_robbed 48 = .ok (.istore 4, 2) := by decide +kernel
theorem dX6_robbed_50 : decode cX6_robbed 50 = .ok (.iload 4, 2) := by decide +kernel
theorem dX6_robbed_52 : decode cX6_robbed 52 = .ok (.aload_n 0, 1) := by decide +kernel
theorem dX6_robbed_53 : decode cX6_robbed 53 = .ok (.getfield 224, 3) := by decide +kernel
theorem dX6_robbed_56 : decode cX6_robbed 56 = .ok (.if_icmp .ge 39, 3) := by decide +kernel
theorem dX6_robbed_59 : decode cX6_robbed 59 = .ok (.aload_n 0, 1) := by decide +kernel
theorem dX6_robbed_60 : decode cX6_robbed 60 = .ok (.getfield 47, 3) := by decide +kernel
theorem dX6_robbed_63 : decode cX6_robbed 63 = .ok (.aload_n 0, 1) := by decide +kernel
theorem dX6_robbed_64 : decode cX6_robbed 64 = .ok (.getfield 41, 3) := by decide +kernel
theorem dX6_robbed_67 : decode cX6_robbed 67 = .ok (.iload 4, 2) := by decide +kernel
theorem dX6_robbed_69 : decode cX6_robbed 69 = .ok (.iaload, 1) := by decide +kernel
theorem dX6_robbed_70 : decode cX6_robbed 70 = .ok (.iaload, 1) := by decide +kernel
theorem dX6_robbed_71 : decode cX6_robbed 71 = .ok (.aload_n 0, 1) := by decide +kernel
theorem dX6_robbed_72 : decode cX6_robbed 72 = .ok (.getfield 44, 3) := by decide +kernel
theorem dX6_robbed_75 : decode cX6_robbed 75 = .ok (.iload 4, 2) := by decide +kernel
theorem dX6_robbed_77 : decode cX6_robbed 77 = .ok (.iaload, 1) := by decide +kernel
theorem dX6_robbed_78 : decode cX6_robbed 78 = .ok (.if_icmp .gt 11, 3) := by decide +kernel
theorem dX6_robbed_81 : decode cX6_robbed 81 = .ok (.aload_n 0, 1) := by decide +kernel
theorem dX6_robbed_82 : decode cX6_robbed 82 = .ok (.getfield 41, 3) := by decide +kernel
theorem dX6_robbed_85 : decode cX6_robbed 85 = .ok (.iload 4, 2) := by decide +kernel
theorem dX6_robbed_87 : decode cX6_robbed 87 = .ok (.iaload, 1) := by decide +kernel
theorem dX6_robbed_88 : decode cX6_robbed 88 = .ok (.ireturn, 1) := by decide +kernel
theorem dX6_robbed_89 : decode cX6_robbed 89 = .ok (.iinc 4 1, 3) := by decide +kernel
theorem dX6_robbed_92 : decode cX6_robbed 92 = .ok (.goto (-42), 3) := by decide +kernel
theorem dX6_robbed_95 : decode cX6_robbed 95 = .ok (.bipush (-9), 2) := by decide +kernel
theorem dX6_robbed_97 : decode cX6_robbed 97 = .ok (.ireturn, 1) := by decide +kernel
set_option maxRecDepth 20000 in
theorem ggX6_openBy_X6_isOpen : GoodIn wsX6_openBy wsX6_isOpen := goodIn_r _ [6, 1, 7, 8, 9, 10, 11, 12, 13, 14, 15, 16, 17, 18, 19, 20, 21, 22, 23, 24, 25, 26, 27, 28, 29, 30, 31, 32, 33, 34, 35] (by decide +kernel) (by decide +kernel)
set_option maxRecDepth 20000 in
theorem gX6_openBy_X6_isOpen : GoodIn wsX6_openBy (wsV RX6 168 RX6 yX6_isOpen wsX6_isOpen) := goodIn_app (goodIn_of _ (by decide +kernel)) ggX6_openBy_X6_isOpen
theorem dX6_openBy_0 : decode cX6_openBy 0 = .ok (.iconst 0, 1) := by decide +kernel
theorem dX6_openBy_1 : decode cX6_openBy 1 = .ok (.istore_n 3, 1) := by decide +kernel
theorem dX6_openBy_2 : decode cX6_openBy 2 = .ok (.aload_n 0, 1) := by decide +kernel
theorem dX6_openBy_3 : decode cX6_openBy 3 = .ok (.getfield 7, 3) := by decide +kernel
theorem dX6_openBy_6 : decode cX6_openBy 6 = .ok (.iconst 3, 1) := by decide +kernel
theorem dX6_openBy_7 : decode cX6_openBy 7 = .ok (.iaload, 1) := by decide +kernel
theorem dX6_openBy_8 : decode cX6_openBy 8 = .ok (.ineg, 1) := by decide +kernel
theorem dX6_openBy_9 : decode cX6_openBy 9 = .ok (.istore 4, 2) := by decide +kernel
theorem dX6_openBy_11 : decode cX6_openBy 11 = .ok (.iload 4, 2) := by decide +kernel
theorem dX6_openBy_13 : decode cX6_openBy 13 = .ok (.aload_n 0, 1) := by decide +kernel
theorem dX6_openBy_14 : decode cX6_openBy 14 = .ok (.getfield 7, 3) := by decide +kernel
theorem dX6_openBy_17 : decode cX6_openBy 17 = .ok (.iconst 3, 1) := by decide +kernel
theorem dX6_openBy_18 : decode cX6_openBy 18 = .ok (.iaload, 1) := by decide +kernel
theorem dX6_openBy_19 : decode cX6_openBy 19 = .ok (.if_icmp .gt 35, 3) := by decide +kernel
theorem dX6_openBy_22 : decode cX6_openBy 22 = .ok (.iload_n 3, 1) := by decide +kernel
theorem dX6_openBy_23 : decode cX6_openBy 23 = .ok (.aload_n 0, 1) := by decide +kernel
theorem dX6_openBy_24 : decode cX6_openBy 24 = .ok (.iload_n 1, 1) := by decide +kernel
theorem dX6_openBy_25 : decode cX6_openBy 25 = .ok (.iload_n 2, 1) := by decide +kernel
theorem dX6_openBy_26 : decode cX6_openBy 26 = .ok (.iload 4, 2) := by decide +kernel
theorem dX6_openBy_28 : decode cX6_openBy 28 = .ok (.iadd, 1) := by decide +kernel
theorem dX6_openBy_29 : decode cX6_openBy 29 = .ok (.bipush 24, 2) := by decide +kernel
theorem dX6_openBy_31 : decode cX6_openBy 31 = .ok (.iadd, 1) := by decide +kernel
theorem dX6_openBy_32 : decode cX6_openBy 32 = .ok (.bipush 24, 2) := by decide +kernel
theorem dX6_openBy_34 : decode cX6_openBy 34 = .ok (.irem, 1) := by decide +kernel
theorem dX6_openBy_35 : decode cX6_openBy 35 = .ok (.invokevirtual 168, 3) := by decide +kernel
theorem dX6_openBy_38 : decode cX6_openBy 38 = .ok (.ifCond .eq 7, 3) := by decide +kernel
theorem dX6_openBy_41 : decode cX6_openBy 41 = .ok (.iconst 1, 1) := by decide +kernel
theorem dX6_openBy_42 : decode cX6_openBy 42 = .ok (.goto 4, 3) := by decide +kernel
theorem dX6_openBy_45 : decode cX6_openBy 45 = .ok (.iconst 0, 1) := by decide +kernel
theorem dX6_openBy_46 : decode cX6_openBy 46 = .ok (.iadd, 1) := by decide +kernel
theorem dX6_openBy_47 : decode cX6_openBy 47 = .ok (.istore_n 3, 1) := by decide +kernel
theorem dX6_openBy_48 : decode cX6_openBy 48 = .ok (.iinc 4 1, 3) := by decide +kernel
theorem dX6_openBy_51 : decode cX6_openBy 51 = .ok (.goto (-40), 3) := by decide +kernel
theorem dX6_openBy_54 : decode cX6_openBy 54 = .ok (.iload_n 3, 1) := by decide +kernel
theorem dX6_openBy_55 : decode cX6_openBy 55 = .ok (.ireturn, 1) := by decide +kernel
set_option maxRecDepth 20000 in
theorem ggX6_sure_X6_isPlace : GoodIn wsX6_sure wsX6_isPlace := goodIn_r _ [7, 2, 8, 9, 6, 10, 19, 20, 21, 22, 23, 24, 25, 26, 27, 28, 29, 30, 31, 32, 33, 34, 35, 36, 37, 38, 39, 40, 41, 42, 43, 44, 45, 46, 47] (by decide +kernel) (by decide +kernel)
set_option maxRecDepth 20000 in
theorem gX6_sure_X6_isPlace : GoodIn wsX6_sure (wsV RX6 153 RX6 yX6_isPlace wsX6_isPlace) := goodIn_app (goodIn_of _ (by decide +kernel)) ggX6_sure_X6_isPlace
set_option maxRecDepth 20000 in
theorem ggX6_sure_X6_in : GoodIn wsX6_sure wsX6_in := goodIn_r _ [10] (by decide +kernel) (by decide +kernel)
set_option maxRecDepth 20000 in
theorem gX6_sure_X6_in : GoodIn wsX6_sure (va_wsS RX6 60 yX6_in wsX6_in) := goodIn_app (goodIn_of _ (by decide +kernel)) ggX6_sure_X6_in
set_option maxRecDepth 20000 in
theorem ggX6_sure_X6_openBy : GoodIn wsX6_sure wsX6_openBy := goodIn_r _ [14, 2, 15, 16, 17, 6, 18, 19, 20, 21, 22, 23, 24, 25, 26, 27, 28, 29, 30, 31, 32, 33, 34, 35, 36, 37, 38, 39, 40, 41, 42, 43, 44, 45, 46, 47] (by decide +kernel) (by decide +kernel)
set_option maxRecDepth 20000 in
theorem gX6_sure_X6_openBy : GoodIn wsX6_sure (wsV RX6 258 RX6 yX6_openBy wsX6_openBy) := goodIn_app (goodIn_of _ (by decide +kernel)) ggX6_sure_X6_openBy
theorem dX6_sure_0 : decode cX6_sure 0 = .ok (.aload_n 0, 1) := by decide +kernel
theorem dX6_sure_1 : decode cX6_sure 1 = .ok (.iload_n 1, 1) := by decide +kernel
theorem dX6_sure_2 : decode cX6_sure 2 = .ok (.invokevirtual 153, 3) := by decide +kernel
theorem dX6_sure_5 : decode cX6_sure 5 = .ok (.ifCond .eq 15, 3) := by decide +kernel
theorem dX6_sure_8 : decode cX6_sure 8 = .ok (.iload_n 2, 1) := by decide +kernel
theorem dX6_sure_9 : decode cX6_sure 9 = .ok (.i2l, 1) := by decide +kernel
theorem dX6_sure_10 : decode cX6_sure 10 = .ok (.lconst 0, 1) := by decide +kernel
theorem dX6_sure_11 : decode cX6_sure 11 = .ok (.ldc2_w 256, 3) := by decide +kernel
theorem dX6_sure_14 : decode cX6_sure 14 = .ok (.invokestatic 60, 3) := by decide +kernel
theorem dX6_sure_17 : decode cX6_sure 17 = .ok (.ifCond .ne 5, 3) := by decide +kernel
theorem dX6_sure_20 : decode cX6_sure 20 = .ok (.iconst (-1), 1) := by decide +kernel
theorem dX6_sure_21 : decode cX6_sure 21 = .ok (.ireturn, 1) := by decide +kernel
theorem dX6_sure_22 : decode cX6_sure 22 = .ok (.aload_n 0, 1) := by decide +kernel
theorem dX6_sure_23 : decode cX6_sure 23 = .ok (.iload_n 1, 1) := by decide +kernel
theorem dX6_sure_24 : decode cX6_sure 24 = .ok (.iload_n 2, 1) := by decide +kernel
theorem dX6_sure_25 : decode cX6_sure 25 = .ok (.invokevirtual 258, 3) := by decide +kernel
theorem dX6_sure_28 : decode cX6_sure 28 = .ok (.iconst 2, 1) := by decide +kernel
theorem dX6_sure_29 : decode cX6_sure 29 = .ok (.aload_n 0, 1) := by decide +kernel
theorem dX6_sure_30 : decode cX6_sure 30 = .ok (.getfield 7, 3) := by decide +kernel
theorem dX6_sure_33 : decode cX6_sure 33 = .ok (.iconst 3, 1) := by decide +kernel
theorem dX6_sure_34 : decode cX6_sure 34 = .ok (.iaload, 1) := by decide +kernel
theorem dX6_sure_35 : decode cX6_sure 35 = .ok (.imul, 1) := by decide +kernel
theorem dX6_sure_36 : decode cX6_sure 36 = .ok (.iconst 1, 1) := by decide +kernel
theorem dX6_sure_37 : decode cX6_sure 37 = .ok (.iadd, 1) := by decide +kernel
theorem dX6_sure_38 : decode cX6_sure 38 = .ok (.if_icmp .ne 7, 3) := by decide +kernel
theorem dX6_sure_41 : decode cX6_sure 41 = .ok (.iconst 1, 1) := by decide +kernel
theorem dX6_sure_42 : decode cX6_sure 42 = .ok (.goto 4, 3) := by decide +kernel
theorem dX6_sure_45 : decode cX6_sure 45 = .ok (.iconst 0, 1) := by decide +kernel
theorem dX6_sure_46 : decode cX6_sure 46 = .ok (.ireturn, 1) := by decide +kernel
set_option maxRecDepth 20000 in
theorem ggX6_odds_X6_isPlace : GoodIn wsX6_odds wsX6_isPlace := goodIn_r _ [7, 2, 8, 9, 6, 10, 22, 23, 24, 25, 26, 27, 28, 29, 30, 31, 32, 33, 34, 35, 36, 37, 38, 39, 40, 41, 42, 43, 44, 45, 46, 47, 48, 49, 50] (by decide +kernel) (by decide +kernel)
set_option maxRecDepth 20000 in
theorem gX6_odds_X6_isPlace : GoodIn wsX6_odds (wsV RX6 153 RX6 yX6_isPlace wsX6_isPlace) := goodIn_app (goodIn_of _ (by decide +kernel)) ggX6_odds_X6_isPlace
set_option maxRecDepth 20000 in
theorem ggX6_odds_X6_in : GoodIn wsX6_odds wsX6_in := goodIn_r _ [10] (by decide +kernel) (by decide +kernel)
set_option maxRecDepth 20000 in
theorem gX6_odds_X6_in : GoodIn wsX6_odds (va_wsS RX6 60 yX6_in wsX6_in) := goodIn_app (goodIn_of _ (by decide +kernel)) ggX6_odds_X6_in
set_option maxRecDepth 20000 in
theorem ggX6_odds_X6_isTwo : GoodIn wsX6_odds wsX6_isTwo := goodIn_r _ [13, 8, 9, 6, 10] (by decide +kernel) (by decide +kernel)
set_option maxRecDepth 20000 in
theorem gX6_odds_X6_isTwo : GoodIn wsX6_odds (va_wsS RX6 249 yX6_isTwo wsX6_isTwo) := goodIn_app (goodIn_of _ (by decide +kernel)) ggX6_odds_X6_isTwo
set_option maxRecDepth 20000 in
theorem ggX6_odds_X6_openBy : GoodIn wsX6_odds wsX6_openBy := goodIn_r _ [17, 2, 18, 19, 20, 6, 21, 22, 23, 24, 25, 26, 27, 28, 29, 30, 31, 32, 33, 34, 35, 36, 37, 38, 39, 40, 41, 42, 43, 44, 45, 46, 47, 48, 49, 50] (by decide +kernel) (by decide +kernel)
set_option maxRecDepth 20000 in
theorem gX6_odds_X6_openBy : GoodIn wsX6_odds (wsV RX6 258 RX6 yX6_openBy wsX6_openBy) := goodIn_app (goodIn_of _ (by decide +kernel)) ggX6_odds_X6_openBy
theorem dX6_odds_0 : decode cX6_odds 0 = .ok (.aload_n 0, 1) := by decide +kernel
theorem dX6_odds_1 : decode cX6_odds 1 = .ok (.iload_n 1, 1) := by decide +kernel
theorem dX6_odds_2 : decode cX6_odds 2 = .ok (.invokevirtual 153, 3) := by decide +kernel
theorem dX6_odds_5 : decode cX6_odds 5 = .ok (.ifCond .eq 22, 3) := by decide +kernel
theorem dX6_odds_8 : decode cX6_odds 8 = .ok (.iload_n 2, 1) := by decide +kernel
theorem dX6_odds_9 : decode cX6_odds 9 = .ok (.i2l, 1) := by decide +kernel
theorem dX6_odds_10 : decode cX6_odds 10 = .ok (.lconst 0, 1) := by decide +kernel
theorem dX6_odds_11 : decode cX6_odds 11 = .ok (.ldc2_w 256, 3) := by decide +kernel
theorem dX6_odds_14 : decode cX6_odds 14 = .ok (.invokestatic 60, 3) := by decide +kernel
theorem dX6_odds_17 : decode cX6_odds 17 = .ok (.ifCond .eq 10, 3) := by decide +kernel
theorem dX6_odds_20 : decode cX6_odds 20 = .ok (.iload_n 3, 1) := by decide +kernel
theorem dX6_odds_21 : decode cX6_odds 21 = .ok (.invokestatic 249, 3) := by decide +kernel
theorem dX6_odds_24 : decode cX6_odds 24 = .ok (.ifCond .ne 5, 3) := by decide +kernel
theorem dX6_odds_27 : decode cX6_odds 27 = .ok (.iconst (-1), 1) := by decide +kernel
theorem dX6_odds_28 : decode cX6_odds 28 = .ok (.ireturn, 1) := by decide +kernel
theorem dX6_odds_29 : decode cX6_odds 29 = .ok (.aload_n 0, 1) := by decide +kernel
theorem dX6_odds_30 : decode cX6_odds 30 = .ok (.iload_n 1, 1) := by decide +kernel
theorem dX6_odds_31 : decode cX6_odds 31 = .ok (.iload_n 2, 1) := by decide +kernel
theorem dX6_odds_32 : decode cX6_odds 32 = .ok (.invokevirtual 258, 3) := by decide +kernel
theorem dX6_odds_35 : decode cX6_odds 35 = .ok (.istore 4, 2) := by decide +kernel
theorem dX6_odds_37 : decode cX6_odds 37 = .ok (.iconst 2, 1) := by decide +kernel
theorem dX6_odds_38 : decode cX6_odds 38 = .ok (.aload_n 0, 1) := by decide +kernel
theorem dX6_odds_39 : decode cX6_odds 39 = .ok (.getfield 7, 3) := by decide +kernel
theorem dX6_odds_42 : decode cX6_odds 42 = .ok (.iconst 3, 1) := by decide +kernel
theorem dX6_odds_43 : decode cX6_odds 43 = .ok (.iaload, 1) := by decide +kernel
theorem dX6_odds_44 : decode cX6_odds 44 = .ok (.imul, 1) := by decide +kernel
theorem dX6_odds_45 : decode cX6_odds 45 = .ok (.iconst 1, 1) := by decide +kernel
theorem dX6_odds_46 : decode cX6_odds 46 = .ok (.iadd, 1) := by decide +kernel
theorem dX6_odds_47 : decode cX6_odds 47 = .ok (.istore 5, 2) := by decide +kernel
theorem dX6_odds_49 : decode cX6_odds 49 = .ok (.iload 4, 2) := by decide +kernel
theorem dX6_odds_51 : decode cX6_odds 51 = .ok (.istore 6, 2) := by decide +kernel
theorem dX6_odds_53 : decode cX6_odds 53 = .ok (.iload 5, 2) := by decide +kernel
theorem dX6_odds_55 : decode cX6_odds 55 = .ok (.istore 7, 2) := by decide +kernel
theorem dX6_odds_57 : decode cX6_odds 57 = .ok (.iload 7, 2) := by decide +kernel
theorem dX6_odds_59 : decode cX6_odds 59 = .ok (.ifCond .eq 21, 3) := by decide +kernel
theorem dX6_odds_62 : decode cX6_odds 62 = .ok (.iload 6, 2) := by decide +kernel
theorem dX6_odds_64 : decode cX6_odds 64 = .ok (.iload 7, 2) := by decide +kernel
theorem dX6_odds_66 : decode cX6_odds 66 = .ok (.irem, 1) := by decide +kernel
theorem dX6_odds_67 : decode cX6_odds 67 = .ok (.istore 8, 2) := by decide +kernel
theorem dX6_odds_69 : decode cX6_odds 69 = .ok (.iload 7, 2) := by decide +kernel
theorem dX6_odds_71 : decode cX6_odds 71 = .ok (.istore 6, 2) := by decide +kernel
theorem dX6_odds_73 : decode cX6_odds 73 = .ok (.iload 8, 2) := by decide +kernel
theorem dX6_odds_75 : decode cX6_odds 75 = .ok (.istore 7, 2) := by decide +kernel
theorem dX6_odds_77 : decode cX6_odds 77 = .ok (.goto (-20), 3) := by decide +kernel
theorem dX6_odds_80 : decode cX6_odds 80 = .ok (.iload_n 3, 1) := by decide +kernel
theorem dX6_odds_81 : decode cX6_odds 81 = .ok (.ifCond .ne 11, 3) := by decide +kernel
theorem dX6_odds_84 : decode cX6_odds 84 = .ok (.iload 4, 2) := by decide +kernel
theorem dX6_odds_86 : decode cX6_odds 86 = .ok (.iload 6, 2) := by decide +kernel
theorem dX6_odds_88 : decode cX6_odds 88 = .ok (.idiv, 1) := by decide +kernel
theorem dX6_odds_89 : decode cX6_odds 89 = .ok (.goto 8, 3) := by decide +kernel
theorem dX6_odds_92 : decode cX6_odds 92 = .ok (.iload 5, 2) := by decide +kernel
theorem dX6_odds_94 : decode cX6_odds 94 = .ok (.iload 6, 2) := by decide +kernel
theorem dX6_odds_96 : decode cX6_odds 96 = .ok (.idiv, 1) := by decide +kernel
theorem dX6_odds_97 : decode cX6_odds 97 = .ok (.ireturn, 1) := by decide +kernel
set_option maxRecDepth 20000 in
theorem ggX6_isSeat_X6_in : GoodIn wsX6_isSeat wsX6_in := goodIn_r _ [5] (by decide +kernel) (by decide +kernel)
set_option maxRecDepth 20000 in
theorem gX6_isSeat_X6_in : GoodIn wsX6_isSeat (va_wsS RX6 60 yX6_in wsX6_in) := goodIn_app (goodIn_of _ (by decide +kernel)) ggX6_isSeat_X6_in
theorem dX6_isSeat_0 : decode cX6_isSeat 0 = .ok (.iload_n 0, 1) := by decide +kernel
theorem dX6_isSeat_1 : decode cX6_isSeat 1 = .ok (.i2l, 1) := by decide +kernel
theorem dX6_isSeat_2 : decode cX6_isSeat 2 = .ok (.lconst 0, 1) := by decide +kernel
theorem dX6_isSeat_3 : decode cX6_isSeat 3 = .ok (.ldc2_w 151, 3) := by decide +kernel
theorem dX6_isSeat_6 : decode cX6_isSeat 6 = .ok (.invokestatic 60, 3) := by decide +kernel
theorem dX6_isSeat_9 : decode cX6_isSeat 9 = .ok (.ireturn, 1) := by decide +kernel
set_option maxRecDepth 20000 in
theorem ggX6_swaps_X6_isSeat : GoodIn wsX6_swaps wsX6_isSeat := goodIn_r _ [6, 7, 8, 9, 5, 10] (by decide +kernel) (by decide +kernel)
set_option maxRecDepth 20000 in
theorem gX6_swaps_X6_isSeat : GoodIn wsX6_swaps (va_wsS RX6 261 yX6_isSeat wsX6_isSeat) := goodIn_app (goodIn_of _ (by decide +kernel)) ggX6_swaps_X6_isSeat
theorem dX6_swaps_0 : decode cX6_swaps 0 = .ok (.iload_n 1, 1) := by decide +kernel
theorem dX6_swaps_1 : decode cX6_swaps 1 = .ok (.invokestatic 261, 3) := by decide +kernel
theorem dX6_swaps_4 : decode cX6_swaps 4 = .ok (.ifCond .eq 15, 3) := by decide +kernel
theorem dX6_swaps_7 : decode cX6_swaps 7 = .ok (.iload_n 2, 1) := by decide +kernel
theorem dX6_swaps_8 : decode cX6_swaps 8 = .ok (.invokestatic 261, 3) := by decide +kernel
theorem dX6_swaps_11 : decode cX6_swaps 11 = .ok (.ifCond .eq 8, 3) := by decide +kernel
theorem dX6_swaps_14 : decode cX6_swaps 14 = .ok (.iload_n 1, 1) := by decide +kernel
theorem dX6_swaps_15 : decode cX6_swaps 15 = .ok (.iload_n 2, 1) := by decide +kernel
theorem dX6_swaps_16 : decode cX6_swaps 16 = .ok (.if_icmp .ne 5, 3) := by decide +kernel
theorem dX6_swaps_19 : decode cX6_swaps 19 = .ok (.iconst (-1), 1) := by decide +kernel
theorem dX6_swaps_20 : decode cX6_swaps 20 = .ok (.ireturn, 1) := by decide +kernel
theorem dX6_swaps_21 : decode cX6_swaps 21 = .ok (.aload_n 0, 1) := by decide +kernel
theorem dX6_swaps_22 : decode cX6_swaps 22 = .ok (.getfield 145, 3) := by decide +kernel
theorem dX6_swaps_25 : decode cX6_swaps 25 = .ok (.bipush 6, 2) := by decide +kernel
theorem dX6_swaps_27 : decode cX6_swaps 27 = .ok (.if_icmp .ne 6, 3) := by decide +kernel
theorem dX6_swaps_30 : decode cX6_swaps 30 = .ok (.bipush (-3), 2) := by decide +kernel
theorem dX6_swaps_32 : decode cX6_swaps 32 = .ok (.ireturn, 1) := by decide +kernel
theorem dX6_swaps_33 : decode cX6_swaps 33 = .ok (.aload_n 0, 1) := by decide +kernel
theorem dX6_swaps_34 : decode cX6_swaps 34 = .ok (.getfield 29, 3) := by decide +kernel
theorem dX6_swaps_37 : decode cX6_swaps 37 = .ok (.iconst 2, 1) := by decide +kernel
theorem dX6_swaps_38 : decode cX6_swaps 38 = .ok (.aload_n 0, 1) := by decide +kernel
theorem dX6_swaps_39 : decode cX6_swaps 39 = .ok (.getfield 145, 3) := by decide +kernel
theorem dX6_swaps_42 : decode cX6_swaps 42 = .ok (.imul, 1) := by decide +kernel
theorem dX6_swaps_43 : decode cX6_swaps 43 = .ok (.iload_n 1, 1) := by decide +kernel
theorem dX6_swaps_44 : decode cX6_swaps 44 = .ok (.iastore, 1) := by decide +kernel
theorem dX6_swaps_45 : decode cX6_swaps 45 = .ok (.aload_n 0, 1) := by decide +kernel
theorem dX6_swaps_46 : decode cX6_swaps 46 = .ok (.getfield 29, 3) := by decide +kernel
theorem dX6_swaps_49 : decode cX6_swaps 49 = .ok (.iconst 2, 1) := by decide +kernel
theorem dX6_swaps_50 : decode cX6_swaps 50 = .ok (.aload_n 0, 1) := by decide +kernel
theorem dX6_swaps_51 : decode cX6_swaps 51 = .ok (.getfield 145, 3) := by decide +kernel
theorem dX6_swaps_54 : decode cX6_swaps 54 = .ok (.imul, 1) := by decide +kernel
theorem dX6_swaps_55 : decode cX6_swaps 55 = .ok (.iconst 1, 1) := by decide +kernel
theorem dX6_swaps_56 : decode cX6_swaps 56 = .ok (.iadd, 1) := by decide +kernel
theorem dX6_swaps_57 : decode cX6_swaps 57 = .ok (.iload_n 2, 1) := by decide +kernel
theorem dX6_swaps_58 : decode cX6_swaps 58 = .ok (.iastore, 1) := by decide +kernel
theorem dX6_swaps_59 : decode cX6_swaps 59 = .ok (.aload_n 0, 1) := by decide +kernel
theorem dX6_swaps_60 : decode cX6_swaps 60 = .ok (.dup, 1) := by decide +kernel
theorem dX6_swaps_61 : decode cX6_swaps 61 = .ok (.getfield 145, 3) := by decide +kernel
theorem dX6_swaps_64 : decode cX6_swaps 64 = .ok (.iconst 1, 1) := by decide +kernel
theorem dX6_swaps_65 : decode cX6_swaps 65 = .ok (.iadd, 1) := by decide +kernel
theorem dX6_swaps_66 : decode cX6_swaps 66 = .ok (.putfield 145, 3) := by decide +kernel
theorem dX6_swaps_69 : decode cX6_swaps 69 = .ok (.aload_n 0, 1) := by decide +kernel
theorem dX6_swaps_70 : decode cX6_swaps 70 = .ok (.getfield 145, 3) := by decide +kernel
theorem dX6_swaps_73 : decode cX6_swaps 73 = .ok (.ireturn, 1) := by decide +kernel
set_option maxRecDepth 20000 in
theorem ggX6_tastes_X6_isSeat : GoodIn wsX6_tastes wsX6_isSeat := goodIn_r _ [6, 7, 8, 9, 5, 10] (by decide +kernel) (by decide +kernel)
set_option maxRecDepth 20000 in
theorem gX6_tastes_X6_isSeat : GoodIn wsX6_tastes (va_wsS RX6 261 yX6_isSeat wsX6_isSeat) := goodIn_app (goodIn_of _ (by decide +kernel)) ggX6_tastes_X6_isSeat
theorem dX6_tastes_0 : decode cX6_tastes 0 = .ok (.iload_n 1, 1) := by decide +kernel
theorem dX6_tastes_1 : decode cX6_tastes 1 = .ok (.invokestatic 261, 3) := by decide +kernel
theorem dX6_tastes_4 : decode cX6_tastes 4 = .ok (.ifCond .eq 10, 3) := by decide +kernel
theorem dX6_tastes_7 : decode cX6_tastes 7 = .ok (.iload_n 2, 1) := by decide +kernel
theorem dX6_tastes_8 : decode cX6_tastes 8 = .ok (.invokestatic 261, 3) := by decide +kernel
theorem dX6_tastes_11 : decode cX6_tastes 11 = .ok (.ifCond .ne 5, 3) := by decide +kernel
theorem dX6_tastes_14 : decode cX6_tastes 14 = .ok (.iconst (-1), 1) := by decide +kernel
theorem dX6_tastes_15 : decode cX6_tastes 15 = .ok (.ireturn, 1) := by decide +kernel
theorem dX6_tastes_16 : decode cX6_tastes 16 = .ok (.aload_n 0, 1) := by decide +kernel
theorem dX6_tastes_17 : decode cX6_tastes 17 = .ok (.getfield 148, 3) := by decide +kernel
theorem dX6_tastes_20 : decode cX6_tastes 20 = .ok (.bipush 6, 2) := by decide +kernel
theorem dX6_tastes_22 : decode cX6_tastes 22 = .ok (.if_icmp .ne 6, 3) := by decide +kernel
theorem dX6_tastes_25 : decode cX6_tastes 25 = .ok (.bipush (-3), 2) := by decide +kernel
theorem dX6_tastes_27 : decode cX6_tastes 27 = .ok (.ireturn, 1) := by decide +kernel
theorem dX6_tastes_28 : decode cX6_tastes 28 = .ok (.aload_n 0, 1) := by decide +kernel
theorem dX6_tastes_29 : decode cX6_tastes 29 = .ok (.getfield 32, 3) := by decide +kernel
theorem dX6_tastes_32 : decode cX6_tastes 32 = .ok (.iconst 2, 1) := by decide +kernel
theorem dX6_tastes_33 : decode cX6_tastes 33 = .ok (.aload_n 0, 1) := by decide +kernel
theorem dX6_tastes_34 : decode cX6_tastes 34 = .ok (.getfield 148, 3) := by decide +kernel
theorem dX6_tastes_37 : decode cX6_tastes 37 = .ok (.imul, 1) := by decide +kernel
theorem dX6_tastes_38 : decode cX6_tastes 38 = .ok (.iload_n 1, 1) := by decide +kernel
theorem dX6_tastes_39 : decode cX6_tastes 39 = .ok (.iastore, 1) := by decide +kernel
theorem dX6_tastes_40 : decode cX6_tastes 40 = .ok (.aload_n 0, 1) := by decide +kernel
theorem dX6_tastes_41 : decode cX6_tastes 41 = .ok (.getfield 32, 3) := by decide +kernel
theorem dX6_tastes_44 : decode cX6_tastes 44 = .ok (.iconst 2, 1) := by decide +kernel
theorem dX6_tastes_45 : decode cX6_tastes 45 = .ok (.aload_n 0, 1) := by decide +kernel
theorem dX6_tastes_46 : decode cX6_tastes 46 = .ok (.getfield 148, 3) := by decide +kernel
theorem dX6_tastes_49 : decode cX6_tastes 49 = .ok (.imul, 1) := by decide +kernel
theorem dX6_tastes_50 : decode cX6_tastes 50 = .ok (.iconst 1, 1) := by decide +kernel
theorem dX6_tastes_51 : decode cX6_tastes 51 = .ok (.iadd, 1) := by decide +kernel
theorem dX6_tastes_52 : decode cX6_tastes 52 = .ok (.iload_n 2, 1) := by decide +kernel
theorem dX6_tastes_53 : decode cX6_tastes 53 = .ok (.iastore, 1) := by decide +kernel
theorem dX6_tastes_54 : decode cX6_tastes 54 = .ok (.aload_n 0, 1) := by decide +kernel
theorem dX6_tastes_55 : decode cX6_tastes 55 = .ok (.dup, 1) := by decide +kernel
theorem dX6_tastes_56 : decode cX6_tastes 56 = .ok (.getfield 148, 3) := by decide +kernel
theorem dX6_tastes_59 : decode cX6_tastes 59 = .ok (.iconst 1, 1) := by decide +kernel
theorem dX6_tastes_60 : decode cX6_tastes 60 = .ok (.iadd, 1) := by decide +kernel
theorem dX6_tastes_61 : decode cX6_tastes 61 = .ok (.putfield 148, 3) := by decide +kernel
theorem dX6_tastes_64 : decode cX6_tastes 64 = .ok (.aload_n 0, 1) := by decide +kernel
theorem dX6_tastes_65 : decode cX6_tastes 65 = .ok (.getfield 148, 3) := by decide +kernel
theorem dX6_tastes_68 : decode cX6_tastes 68 = .ok (.ireturn, 1) := by decide +kernel
theorem dX6_clears_0 : decode cX6_clears 0 = .ok (.aload_n 0, 1) := by decide +kernel
theorem dX6_clears_1 : decode cX6_clears 1 = .ok (.getfield 145, 3) := by decide +kernel
theorem dX6_clears_4 : decode cX6_clears 4 = .ok (.aload_n 0, 1) := by decide +kernel
theorem dX6_clears_5 : decode cX6_clears 5 = .ok (.getfield 148, 3) := by decide +kernel
theorem dX6_clears_8 : decode cX6_clears 8 = .ok (.iadd, 1) := by decide +kernel
theorem dX6_clears_9 : decode cX6_clears 9 = .ok (.istore_n 1, 1) := by decide +kernel
theorem dX6_clears_10 : decode cX6_clears 10 = .ok (.aload_n 0, 1) := by decide +kernel
theorem dX6_clears_11 : decode cX6_clears 11 = .ok (.iconst 0, 1) := by decide +kernel
theorem dX6_clears_12 : decode cX6_clears 12 = .ok (.putfield 145, 3) := by decide +kernel
theorem dX6_clears_15 : decode cX6_clears 15 = .ok (.aload_n 0, 1) := by decide +kernel
theorem dX6_clears_16 : decode cX6_clears 16 = .ok (.iconst 0, 1) := by decide +kernel
theorem dX6_clears_17 : decode cX6_clears 17 = .ok (.putfield 148, 3) := by decide +kernel
theorem dX6_clears_20 : decode cX6_clears 20 = .ok (.iload_n 1, 1) := by decide +kernel
theorem dX6_clears_21 : decode cX6_clears 21 = .ok (.ireturn, 1) := by decide +kernel
set_option maxRecDepth 20000 in
theorem ggX6_layCups_X6_holds : GoodIn wsX6_layCups wsX6_holds := goodIn_r _ [9] (by decide +kernel) (by decide +kernel)
set_option maxRecDepth 20000 in
theorem gX6_layCups_X6_holds : GoodIn wsX6_layCups (va_wsS RX6 171 yX6_holds wsX6_holds) := goodIn_app (goodIn_of _ (by decide +kernel)) ggX6_layCups_X6_holds
theorem dX6_layCups_0 : decode cX6_layCups 0 = .ok (.iconst 0, 1) := by decide +kernel
theorem dX6_layCups_1 : decode cX6_layCups 1 = .ok (.istore_n 3, 1) := by decide +kernel
theorem dX6_layCups_2 : decode cX6_layCups 2 = .ok (.iload_n 3, 1) := by decide +kernel
theorem dX6_layCups_3 : decode cX6_layCups 3 = .ok (.iconst 5, 1) := by decide +kernel
theorem dX6_layCups_4 : decode cX6_layCups 4 = .ok (.if_icmp .ge 16, 3) := by decide +kernel
theorem dX6_layCups_7 : decode cX6_layCups 7 = .ok (.aload_n 0, 1) := by decide +kernel
theorem dX6_layCups_8 : decode cX6_layCups 8 = .ok (.getfield 50, 3) := by decide +kernel
theorem dX6_layCups_11 : decode cX6_layCups 11 = .ok (.iload_n 3, 1) := by decide +kernel
theorem dX6_layCups_12 : decode cX6_layCups 12 = .ok (.iload_n 3, 1) := by decide +kernel
theorem dX6_layCups_13 : decode cX6_layCups 13 = .ok (.iastore, 1) := by decide +kernel
theorem dX6_layCups_14 : decode cX6_layCups 14 = .ok (.iinc 3 1, 3) := by decide +kernel
theorem dX6_layCups_17 : decode cX6_layCups 17 = .ok (.goto (-15), 3) := by decide +kernel
theorem dX6_layCups_20 : decode cX6_layCups 20 = .ok (.iconst 0, 1) := by decide +kernel
theorem dX6_layCups_21 : decode cX6_layCups 21 = .ok (.istore_n 3, 1) := by decide +kernel
theorem dX6_layCups_22 : decode cX6_layCups 22 = .ok (.iload_n 3, 1) := by decide +kernel
theorem dX6_layCups_23 : decode cX6_layCups 23 = .ok (.aload_n 0, 1) := by decide +kernel
theorem dX6_layCups_24 : decode cX6_layCups 24 = .ok (.getfield 145, 3) := by decide +kernel
theorem dX6_layCups_27 : decode cX6_layCups 27 = .ok (.if_icmp .ge 83, 3) := by decide +kernel
theorem dX6_layCups_30 : decode cX6_layCups 30 = .ok (.aload_n 0, 1) := by decide +kernel
theorem dX6_layCups_31 : decode cX6_layCups 31 = .ok (.getfield 29, 3) := by decide +kernel
theorem dX6_layCups_34 : decode cX6_layCups 34 = .ok (.iconst 2, 1) := by decide +kernel
theorem dX6_layCups_35 : decode cX6_layCups 35 = .ok (.iload_n 3, 1) := by decide +kernel
theorem dX6_layCups_36 : decode cX6_layCups 36 = .ok (.imul, 1) := by decide +kernel
theorem dX6_layCups_37 : decode cX6_layCups 37 = .ok (.iaload, 1) := by decide +kernel
theorem dX6_layCups_38 : decode cX6_layCups 38 = .ok (.istore 4, 2) := by decide +kernel
theorem dX6_layCups_40 : decode cX6_layCups 40 = .ok (.aload_n 0, 1) := by decide +kernel
theorem dX6_layCups_41 : decode cX6_layCups 41 = .ok (.getfield 29, 3) := by decide +kernel
theorem dX6_layCups_44 : decode cX6_layCups 44 = .ok (.iconst 2, 1) := by decide +kernel
theorem dX6_layCups_45 : decode cX6_layCups 45 = .ok (.iload_n 3, 1) := by decide +kernel
theorem dX6_layCups_46 : decode cX6_layCups 46 = .ok (.imul, 1) := by decide +kernel
theorem dX6_layCups_47 : decode cX6_layCups 47 = .ok (.iconst 1, 1) := by decide +kernel
theorem dX6_layCups_48 : decode cX6_layCups 48 = .ok (.iadd, 1) := by decide +kernel
theorem dX6_layCups_49 : decode cX6_layCups 49 = .ok (.iaload, 1) := by decide +kernel
theorem dX6_layCups_50 : decode cX6_layCups 50 = .ok (.istore 5, 2) := by decide +kernel
theorem dX6_layCups_52 : decode cX6_layCups 52 = .ok (.iload_n 2, 1) := by decide +kernel
theorem dX6_layCups_53 : decode cX6_layCups 53 = .ok (.iload_n 3, 1) := by decide +kernel
theorem dX6_layCups_54 : decode cX6_layCups 54 = .ok (.invokestatic 171, 3) := by decide +kernel
theorem dX6_layCups_57 : decode cX6_layCups 57 = .ok (.ifCond .eq 47, 3) := by decide +kernel
theorem dX6_layCups_60 : decode cX6_layCups 60 = .ok (.iload 4, 2) := by decide +kernel
theorem dX6_layCups_62 : decode cX6_layCups 62 = .ok (.iload_n 1, 1) := by decide +kernel
theorem dX6_layCups_63 : decode cX6_layCups 63 = .ok (.if_icmp .ge 41, 3) := by decide +kernel
theorem dX6_layCups_66 : decode cX6_layCups 66 = .ok (.iload 5, 2) := by decide +kernel
theorem dX6_layCups_68 : decode cX6_layCups 68 = .ok (.iload_n 1, 1) := by decide +kernel
theorem dX6_layCups_69 : decode cX6_layCups 69 = .ok (.if_icmp .ge 35, 3) := by decide +kernel
theorem dX6_layCups_72 : decode cX6_layCups 72 = .ok (.aload_n 0, 1) := by decide +kernel
theorem dX6_layCups_73 : decode cX6_layCups 73 = .ok (.getfield 50, 3) := by decide +kernel
theorem dX6_layCups_76 : decode cX6_layCups 76 = .ok (.iload 4, 2) := by decide +kernel
theorem dX6_layCups_78 : decode cX6_layCups 78 = .ok (.iaload, 1) := by decide +kernel
theorem dX6_layCups_79 : decode cX6_layCups 79 = .ok (.istore 6, 2) := by decide +kernel
theorem dX6_layCups_81 : decode cX6_layCups 81 = .ok (.aload_n 0, 1) := by decide +kernel
theorem dX6_layCups_82 : decode cX6_layCups 82 = .ok (.getfield 50, 3) := by decide +kernel
theorem dX6_layCups_85 : decode cX6_layCups 85 = .ok (.iload 4, 2) := by decide +kernel
theorem dX6_layCups_87 : decode cX6_layCups 87 = .ok (.aload_n 0, 1) := by decide +kernel
theorem dX6_layCups_88 : decode cX6_layCups 88 = .ok (.getfield 50, 3) := by decide +kernel
theorem dX6_layCups_91 : decode cX6_layCups 91 = .ok (.iload 5, 2) := by decide +kernel
theorem dX6_layCups_93 : decode cX6_layCups 93 = .ok (.iaload, 1) := by decide +kernel
theorem dX6_layCups_94 : decode cX6_layCups 94 = .ok (.iastore, 1) := by decide +kernel
theorem dX6_layCups_95 : decode cX6_layCups 95 = .ok (.aload_n 0, 1) := by decide +kernel
theorem dX6_layCups_96 : decode cX6_layCups 96 = .ok (.getfield 50, 3) := by decide +kernel
theorem dX6_layCups_99 : decode cX6_layCups 99 = .ok (.iload 5, 2) := by decide +kernel
theorem dX6_layCups_101 : decode cX6_layCups 101 = .ok (.iload 6, 2) := by decide +kernel
theorem dX6_layCups_103 : decode cX6_layCups 103 = .ok (.iastore, 1) := by decide +kernel
theorem dX6_layCups_104 : decode cX6_layCups 104 = .ok (.iinc 3 1, 3) := by decide +kernel
theorem dX6_layCups_107 : decode cX6_layCups 107 = .ok (.goto (-85), 3) := by decide +kernel
theorem dX6_layCups_110 : decode cX6_layCups 110 = .ok (.iconst 1, 1) := by decide +kernel
theorem dX6_layCups_111 : decode cX6_layCups 111 = .ok (.istore_n 3, 1) := by decide +kernel
theorem dX6_layCups_112 : decode cX6_layCups 112 = .ok (.iconst 0, 1) := by decide +kernel
theorem dX6_layCups_113 : decode cX6_layCups 113 = .ok (.istore 4, 2) := by decide +kernel
theorem dX6_layCups_115 : decode cX6_layCups 115 = .ok (.iload 4, 2) := by decide +kernel
theorem dX6_layCups_117 : decode cX6_layCups 117 = .ok (.aload_n 0, 1) := by decide +kernel
theorem dX6_layCups_118 : decode cX6_layCups 118 = .ok (.getfield 148, 3) := by decide +kernel
theorem dX6_layCups_121 : decode cX6_layCups 121 = .ok (.if_icmp .ge 60, 3) := by decide +kernel
theorem dX6_layCups_124 : decode cX6_layCups 124 = .ok (.iload_n 3, 1) := by decide +kernel
theorem dX6_layCups_125 : decode cX6_layCups 125 = .ok (.ifCond .eq 48, 3) := by decide +kernel
theorem dX6_layCups_128 : decode cX6_layCups 128 = .ok (.aload_n 0, 1) := by decide +kernel
theorem dX6_layCups_129 : decode cX6_layCups 129 = .ok (.getfield 32, 3) := by decide +kernel
theorem dX6_layCups_132 : decode cX6_layCups 132 = .ok (.iconst 2, 1) := by decide +kernel
theorem dX6_layCups_133 : decode cX6_layCups 133 = .ok (.iload 4, 2) := by decide +kernel
theorem dX6_layCups_135 : decode cX6_layCups 135 = .ok (.imul, 1) := by decide +kernel
theorem dX6_layCups_136 : decode cX6_layCups 136 = .ok (.iaload, 1) := by decide +kernel
theorem dX6_layCups_137 : decode cX6_layCups 137 = .ok (.iload_n 1, 1) := by decide +kernel
theorem dX6_layCups_138 : decode cX6_layCups 138 = .ok (.if_icmp .ge 35, 3) := by decide +kernel
theorem dX6_layCups_141 : decode cX6_layCups 141 = .ok (.aload_n 0, 1) := by decide +kernel
theorem dX6_layCups_142 : decode cX6_layCups 142 = .ok (.getfield 50, 3) := by decide +kernel
theorem dX6_layCups_145 : decode cX6_layCups 145 = .ok (.aload_n 0, 1) := by decide +kernel
theorem dX6_layCups_146 : decode cX6_layCups 146 = .ok (.getfield 32, 3) := by decide +kernel
theorem dX6_layCups_149 : decode cX6_layCups 149 = .ok (.iconst 2, 1) := by decide +kernel
theorem dX6_layCups_150 : decode cX6_layCups 150 = .ok (.iload 4, 2) := by decide +kernel
theorem dX6_layCups_152 : decode cX6_layCups 152 = .ok (.imul, 1) := by decide +kernel
theorem dX6_layCups_153 : decode cX6_layCups 153 = .ok (.iaload, 1) := by decide +kernel
theorem dX6_layCups_154 : decode cX6_layCups 154 = .ok (.iaload, 1) := by decide +kernel
theorem dX6_layCups_155 : decode cX6_layCups 155 = .ok (.aload_n 0, 1) := by decide +kernel
theorem dX6_layCups_156 : decode cX6_layCups 156 = .ok (.getfield 32, 3) := by decide +kernel
theorem dX6_layCups_159 : decode cX6_layCups 159 = .ok (.iconst 2, 1) := by decide +kernel
theorem dX6_layCups_160 : decode cX6_layCups 160 = .ok (.iload 4, 2) := by decide +kernel
theorem dX6_layCups_162 : decode cX6_layCups 162 = .ok (.imul, 1) := by decide +kernel
theorem dX6_layCups_163 : decode cX6_layCups 163 = .ok (.iconst 1, 1) := by decide +kernel
theorem dX6_layCups_164 : decode cX6_layCups 164 = .ok (.iadd, 1) := by decide +kernel
theorem dX6_layCups_165 : decode cX6_layCups 165 = .ok (.iaload, 1) := by decide +kernel
theorem dX6_layCups_166 : decode cX6_layCups 166 = .ok (.if_icmp .ne 7, 3) := by decide +kernel
theorem dX6_layCups_169 : decode cX6_layCups 169 = .ok (.iconst 1, 1) := by decide +kernel
theorem dX6_layCups_170 : decode cX6_layCups 170 = .ok (.goto 4, 3) := by decide +kernel
theorem dX6_layCups_173 : decode cX6_layCups 173 = .ok (.iconst 0, 1) := by decide +kernel
theorem dX6_layCups_174 : decode cX6_layCups 174 = .ok (.istore_n 3, 1) := by decide +kernel
theorem dX6_layCups_175 : decode cX6_layCups 175 = .ok (.iinc 4 1, 3) := by decide +kernel
theorem dX6_layCups_178 : decode cX6_layCups 178 = .ok (.goto (-63), 3) := by decide +kernel
theorem dX6_layCups_181 : decode cX6_layCups 181 = .ok (.iload_n 3, 1) := by decide +kernel
theorem dX6_layCups_182 : decode cX6_layCups 182 = .ok (.ireturn, 1) := by decide +kernel
set_option maxRecDepth 20000 in
theorem ggX6_layRows_X6_layCups : GoodIn wsX6_layRows wsX6_layCups := goodIn_r _ [9, 3, 2, 10, 11, 12, 13, 14, 8, 15, 16, 17, 18, 19, 20, 21, 22, 23, 24, 25, 26, 27, 28, 29, 30, 31, 32, 33, 34, 35, 36, 37, 38, 39, 40, 41, 42, 43, 44] (by decide +kernel) (by decide +kernel)
set_option maxRecDepth 20000 in
theorem gX6_layRows_X6_layCups : GoodIn wsX6_layRows (wsV RX6 267 RX6 yX6_layCups wsX6_layCups) := goodIn_app (goodIn_of _ (by decide +kernel)) ggX6_layRows_X6_layCups
theorem dX6_layRows_0 : decode cX6_layRows 0 = .ok (.aload_n 0, 1) := by decide +kernel
theorem dX6_layRows_1 : decode cX6_layRows 1 = .ok (.iconst 0, 1) := by decide +kernel
theorem dX6_layRows_2 : decode cX6_layRows 2 = .ok (.putfield 264, 3) := by decide +kernel
theorem dX6_layRows_5 : decode cX6_layRows 5 = .ok (.iconst 0, 1) := by decide +kernel
theorem dX6_layRows_6 : decode cX6_layRows 6 = .ok (.istore_n 2, 1) := by decide +kernel
theorem dX6_layRows_7 : decode cX6_layRows 7 = .ok (.iload_n 2, 1) := by decide +kernel
theorem dX6_layRows_8 : decode cX6_layRows 8 = .ok (.iconst 1, 1) := by decide +kernel
theorem dX6_layRows_9 : decode cX6_layRows 9 = .ok (.aload_n 0, 1) := by decide +kernel
theorem dX6_layRows_10 : decode cX6_layRows 10 = .ok (.getfield 145, 3) := by decide +kernel
theorem dX6_layRows_13 : decode cX6_layRows 13 = .ok (.ishl, 1) := by decide +kernel
theorem dX6_layRows_14 : decode cX6_layRows 14 = .ok (.if_icmp .ge 135, 3) := by decide +kernel
theorem dX6_layRows_17 : decode cX6_layRows 17 = .ok (.aload_n 0, 1) := by decide +kernel
theorem dX6_layRows_18 : decode cX6_layRows 18 = .ok (.iload_n 1, 1) := by decide +kernel
theorem dX6_layRows_19 : decode cX6_layRows 19 = .ok (.iload_n 2, 1) := by decide +kernel
theorem dX6_layRows_20 : decode cX6_layRows 20 = .ok (.invokevirtual 267, 3) := by decide +kernel
theorem dX6_layRows_23 : decode cX6_layRows 23 = .ok (.istore_n 3, 1) := by decide +kernel
theorem dX6_layRows_24 : decode cX6_layRows 24 = .ok (.iconst 0, 1) := by decide +kernel
theorem dX6_layRows_25 : decode cX6_layRows 25 = .ok (.istore 4, 2) := by decide +kernel
theorem dX6_layRows_27 : decode cX6_layRows 27 = .ok (.iload_n 1, 1) := by decide +kernel
theorem dX6_layRows_28 : decode cX6_layRows 28 = .ok (.iconst 1, 1) := by decide +kernel
theorem dX6_layRows_29 : decode cX6_layRows 29 = .ok (.isub, 1) := by decide +kernel
theorem dX6_layRows_30 : decode cX6_layRows 30 = .ok (.istore 5, 2) := by decide +kernel
theorem dX6_layRows_32 : decode cX6_layRows 32 = .ok (.iload 5, 2) := by decide +kernel
theorem dX6_layRows_34 : decode cX6_layRows 34 = .ok (.ifCond .lt 24, 3) := by decide +kernel
theorem dX6_layRows_37 : decode cX6_layRows 37 = .ok (.bipush 8, 2) := by decide +kernel
theorem dX6_layRows_39 : decode cX6_layRows 39 = .ok (.iload 4, 2) := by decide +kernel
theorem dX6_layRows_41 : decode cX6_layRows 41 = .ok (.imul, 1) := by decide +kernel
theorem dX6_layRows_42 : decode cX6_layRows 42 = .ok (.aload_n 0, 1) := by decide +kernel
theorem dX6_layRows_43 : decode cX6_layRows 43 = .ok (.getfield 50, 3) := by decide +kernel
theorem dX6_layRows_46 : decode cX6_layRows 46 = .ok (.iload 5, 2) := by decide +kernel
theorem dX6_layRows_48 : decode cX6_layRows 48 = .ok (.iaload, 1) := by decide +kernel
theorem dX6_layRows_49 : decode cX6_layRows 49 = .ok (.iadd, 1) := by decide +kernel
theorem dX6_layRows_50 : decode cX6_layRows 50 = .ok (.istore 4, 2) := by decide +kernel
theorem dX6_layRows_52 : decode cX6_layRows 52 = .ok (.iinc 5 (-1), 3) := by decide +kernel
theorem dX6_layRows_55 : decode cX6_layRows 55 = .ok (.goto (-23), 3) := by decide +kernel
theorem dX6_layRows_58 : decode cX6_layRows 58 = .ok (.iconst 0, 1) := by decide +kernel
theorem dX6_layRows_59 : decode cX6_layRows 59 = .ok (.istore 5, 2) := by decide +kernel
theorem dX6_layRows_61 : decode cX6_layRows 61 = .ok (.iload 5, 2) := by decide +kernel
theorem dX6_layRows_63 : decode cX6_layRows 63 = .ok (.aload_n 0, 1) := by decide +kernel
theorem dX6_layRows_64 : decode cX6_layRows 64 = .ok (.getfield 264, 3) := by decide +kernel
theorem dX6_layRows_67 : decode cX6_layRows 67 = .ok (.if_icmp .ge 31, 3) := by decide +kernel
theorem dX6_layRows_70 : decode cX6_layRows 70 = .ok (.iload_n 3, 1) := by decide +kernel
theorem dX6_layRows_71 : decode cX6_layRows 71 = .ok (.ifCond .eq 19, 3) := by decide +kernel
theorem dX6_layRows_74 : decode cX6_layRows 74 = .ok (.aload_n 0, 1) := by decide +kernel
theorem dX6_layRows_75 : decode cX6_layRows 75 = .ok (.getfield 53, 3) := by decide +kernel
theorem dX6_layRows_78 : decode cX6_layRows 78 = .ok (.iload 5, 2) := by decide +kernel
theorem dX6_layRows_80 : decode cX6_layRows 80 = .ok (.iaload, 1) := by decide +kernel
theorem dX6_layRows_81 : decode cX6_layRows 81 = .ok (.iload 4, 2) := by decide +kernel
theorem dX6_layRows_83 : decode cX6_layRows 83 = .ok (.if_icmp .eq 7, 3) := by decide +kernel
theorem dX6_layRows_86 : decode cX6_layRows 86 = .ok (.iconst 1, 1) := by decide +kernel
theorem dX6_layRows_87 : decode cX6_layRows 87 = .ok (.goto 4, 3) := by decide +kernel
theorem dX6_layRows_90 : decode cX6_layRows 90 = .ok (.iconst 0, 1) := by decide +kernel
theorem dX6_layRows_91 : decode cX6_layRows 91 = .ok (.istore_n 3, 1) := by decide +kernel
theorem dX6_layRows_92 : decode cX6_layRows 92 = .ok (.iinc 5 1, 3) := by decide +kernel
theorem dX6_layRows_95 : decode cX6_layRows 95 = .ok (.goto (-34), 3) := by decide +kernel
theorem dX6_layRows_98 : decode cX6_layRows 98 = .ok (.aload_n 0, 1) := by decide +kernel
theorem dX6_layRows_99 : decode cX6_layRows 99 = .ok (.getfield 53, 3) := by decide +kernel
theorem dX6_layRows_102 : decode cX6_layRows 102 = .ok (.aload_n 0, 1) := by decide +kernel
theorem dX6_layRows_103 : decode cX6_layRows 103 = .ok (.getfield 264, 3) := by decide +kernel
theorem dX6_layRows_106 : decode cX6_layRows 106 = .ok (.iload_n 3, 1) := by decide +kernel
theorem dX6_layRows_107 : decode cX6_layRows 107 = .ok (.ifCond .eq 8, 3) := by decide +kernel
theorem dX6_layRows_110 : decode cX6_layRows 110 = .ok (.iload 4, 2) := by decide +kernel
theorem dX6_layRows_112 : decode cX6_layRows 112 = .ok (.goto 12, 3) := by decide +kernel
theorem dX6_layRows_115 : decode cX6_layRows 115 = .ok (.aload_n 0, 1) := by decide +kernel
theorem dX6_layRows_116 : decode cX6_layRows 116 = .ok (.getfield 53, 3) := by decide +kernel
theorem dX6_layRows_119 : decode cX6_layRows 119 = .ok (.aload_n 0, 1) := by decide +kernel
theorem dX6_layRows_120 : decode cX6_layRows 120 = .ok (.getfield 264, 3) := by decide +kernel
theorem dX6_layRows_123 : decode cX6_layRows 123 = .ok (.iaload, 1) := by decide +kernel
theorem dX6_layRows_124 : decode cX6_layRows 124 = .ok (.iastore, 1) := by decide +kernel
theorem dX6_layRows_125 : decode cX6_layRows 125 = .ok (.aload_n 0, 1) := by decide +kernel
theorem dX6_layRows_126 : decode cX6_layRows 126 = .ok (.dup, 1) := by decide +kernel
theorem dX6_layRows_127 : decode cX6_layRows 127 = .ok (.getfield 264, 3) := by decide +kernel
theorem dX6_layRows_130 : decode cX6_layRows 130 = .ok (.iload_n 3, 1) := by decide +kernel
theorem dX6_layRows_131 : decode cX6_layRows 131 = .ok (.ifCond .eq 7, 3) := by decide +kernel
theorem dX6_layRows_134 : decode cX6_layRows 134 = .ok (.iconst 1, 1) := by decide +kernel
theorem dX6_layRows_135 : decode cX6_layRows 135 = .ok (.goto 4, 3) := by decide +kernel
theorem dX6_layRows_138 : decode cX6_layRows 138 = .ok (.iconst 0, 1) := by decide +kernel
theorem dX6_layRows_139 : decode cX6_layRows 139 = .ok (.iadd, 1) := by decide +kernel
theorem dX6_layRows_140 : decode cX6_layRows 140 = .ok (.putfield 264, 3) := by decide +kernel
theorem dX6_layRows_143 : decode cX6_layRows 143 = .ok (.iinc 2 1, 3) := by decide +kernel
theorem dX6_layRows_146 : decode cX6_layRows 146 = .ok (.goto (-139), 3) := by decide +kernel
theorem dX6_layRows_149 : decode cX6_layRows 149 = .ok (.return_, 1) := by decide +kernel
theorem dX6_cupsAt_0 : decode cX6_cupsAt 0 = .ok (.iconst 0, 1) := by decide +kernel
theorem dX6_cupsAt_1 : decode cX6_cupsAt 1 = .ok (.istore_n 2, 1) := by decide +kernel
theorem dX6_cupsAt_2 : decode cX6_cupsAt 2 = .ok (.iconst 0, 1) := by decide +kernel
theorem dX6_cupsAt_3 : decode cX6_cupsAt 3 = .ok (.istore_n 3, 1) := by decide +kernel
theorem dX6_cupsAt_4 : decode cX6_cupsAt 4 = .ok (.iload_n 3, 1) := by decide +kernel
theorem dX6_cupsAt_5 : decode cX6_cupsAt 5 = .ok (.aload_n 0, 1) := by decide +kernel
theorem dX6_cupsAt_6 : decode cX6_cupsAt 6 = .ok (.getfield 264, 3) := by decide +kernel
theorem dX6_cupsAt_9 : decode cX6_cupsAt 9 = .ok (.if_icmp .ge 27, 3) := by decide +kernel
theorem dX6_cupsAt_12 : decode cX6_cupsAt 12 = .ok (.iload_n 2, 1) := by decide +kernel
theorem dX6_cupsAt_13 : decode cX6_cupsAt 13 = .ok (.iconst 1, 1) := by decide +kernel
theorem dX6_cupsAt_14 : decode cX6_cupsAt 14 = .ok (.aload_n 0, 1) := by decide +kernel
theorem dX6_cupsAt_15 : decode cX6_cupsAt 15 = .ok (.getfield 53, 3) := by decide +kernel
theorem dX6_cupsAt_18 : decode cX6_cupsAt 18 = .ok (.iload_n 3, 1) := by decide +kernel
theorem dX6_cupsAt_19 : decode cX6_cupsAt 19 = .ok (.iaload, 1) := by decide +kernel
theorem dX6_cupsAt_20 : decode cX6_cupsAt 20 = .ok (.iconst 3, 1) := by decide +kernel
theorem dX6_cupsAt_21 : decode cX6_cupsAt 21 = .ok (.iload_n 1, 1) := by decide +kernel
theorem dX6_cupsAt_22 : decode cX6_cupsAt 22 = .ok (.imul, 1) := by decide +kernel
theorem dX6_cupsAt_23 : decode cX6_cupsAt 23 = .ok (.ishr, 1) := by decide +kernel
theorem dX6_cupsAt_24 : decode cX6_cupsAt 24 = .ok (.bipush 7, 2) := by decide +kernel
theorem dX6_cupsAt_26 : decode cX6_cupsAt 26 = .ok (.iand, 1) := by decide +kernel
theorem dX6_cupsAt_27 : decode cX6_cupsAt 27 = .ok (.ishl, 1) := by decide +kernel
theorem dX6_cupsAt_28 : decode cX6_cupsAt 28 = .ok (.ior, 1) := by decide +kernel
theorem dX6_cupsAt_29 : decode cX6_cupsAt 29 = .ok (.istore_n 2, 1) := by decide +kernel
theorem dX6_cupsAt_30 : decode cX6_cupsAt 30 = .ok (.iinc 3 1, 3) := by decide +kernel
theorem dX6_cupsAt_33 : decode cX6_cupsAt 33 = .ok (.goto (-29), 3) := by decide +kernel
theorem dX6_cupsAt_36 : decode cX6_cupsAt 36 = .ok (.iload_n 2, 1) := by decide +kernel
theorem dX6_cupsAt_37 : decode cX6_cupsAt 37 = .ok (.ireturn, 1) := by decide +kernel
set_option maxRecDepth 20000 in
theorem ggX6_lie_X6_in : GoodIn wsX6_lie wsX6_in := goodIn_r _ [8] (by decide +kernel) (by decide +kernel)
set_option maxRecDepth 20000 in
theorem gX6_lie_X6_in : GoodIn wsX6_lie (va_wsS RX6 60 yX6_in wsX6_in) := goodIn_app (goodIn_of _ (by decide +kernel)) ggX6_lie_X6_in
set_option maxRecDepth 20000 in
theorem ggX6_lie_X6_layRows : GoodIn wsX6_lie wsX6_layRows := goodIn_r _ [12, 4, 13, 14, 15, 16, 17, 18, 7, 19, 20, 21, 22, 23, 24, 25, 33, 34, 35, 36, 37, 38, 39, 40, 41, 42, 43, 44, 45, 46, 47, 48, 49, 50, 51, 52, 53, 54, 55, 56, 57, 58, 59, 60, 61] (by decide +kernel) (by decide +kernel)
set_option maxRecDepth 20000 in
theorem gX6_lie_X6_layRows : GoodIn wsX6_lie (wsV RX6 272 RX6 yX6_layRows wsX6_layRows) := goodIn_app (goodIn_of _ (by decide +kernel)) ggX6_lie_X6_layRows
set_option maxRecDepth 20000 in
theorem ggX6_lie_X6_cupsAt : GoodIn wsX6_lie wsX6_cupsAt := goodIn_r _ [29, 4, 15, 33, 34, 35, 36, 37, 38, 39, 40, 41, 42, 43, 44, 45, 46, 47, 48, 49, 50, 51, 52, 53, 54, 55, 56, 57, 58, 59, 60, 61] (by decide +kernel) (by decide +kernel)
set_option maxRecDepth 20000 in
theorem gX6_lie_X6_cupsAt : GoodIn wsX6_lie (wsV RX6 275 RX6 yX6_cupsAt wsX6_cupsAt) := goodIn_app (goodIn_of _ (by decide +kernel)) ggX6_lie_X6_cupsAt
set_option maxRecDepth 20000 in
theorem ggX6_lie_X6_bits : GoodIn wsX6_lie wsX6_bits := goodIn_r _ [32] (by decide +kernel) (by decide +kernel)
set_option maxRecDepth 20000 in
theorem gX6_lie_X6_bits : GoodIn wsX6_lie (va_wsS RX6 278 yX6_bits wsX6_bits) := goodIn_app (goodIn_of _ (by decide +kernel)) ggX6_lie_X6_bits
theorem dX6_lie_0 : decode cX6_lie 0 = .ok (.iload_n 1, 1) := by decide +kernel
theorem dX6_lie_1 : decode cX6_lie 1 = .ok (.i2l, 1) := by decide +kernel
theorem dX6_lie_2 : decode cX6_lie 2 = .ok (.ldc2_w 156, 3) := by decide +kernel
theorem dX6_lie_5 : decode cX6_lie 5 = .ok (.ldc2_w 116, 3) := by decide +kernel
theorem dX6_lie_8 : decode cX6_lie 8 = .ok (.invokestatic 60, 3) := by decide +kernel
theorem dX6_lie_11 : decode cX6_lie 11 = .ok (.ifCond .eq 18, 3) := by decide +kernel
theorem dX6_lie_14 : decode cX6_lie 14 = .ok (.iload_n 2, 1) := by decide +kernel
theorem dX6_lie_15 : decode cX6_lie 15 = .ok (.i2l, 1) := by decide +kernel
theorem dX6_lie_16 : decode cX6_lie 16 = .ok (.ldc2_w 270, 3) := by decide +kernel
theorem dX6_lie_19 : decode cX6_lie 19 = .ok (.iload_n 1, 1) := by decide +kernel
theorem dX6_lie_20 : decode cX6_lie 20 = .ok (.iconst 1, 1) := by decide +kernel
theorem dX6_lie_21 : decode cX6_lie 21 = .ok (.isub, 1) := by decide +kernel
theorem dX6_lie_22 : decode cX6_lie 22 = .ok (.i2l, 1) := by decide +kernel
theorem dX6_lie_23 : decode cX6_lie 23 = .ok (.invokestatic 60, 3) := by decide +kernel
theorem dX6_lie_26 : decode cX6_lie 26 = .ok (.ifCond .ne 5, 3) := by decide +kernel
theorem dX6_lie_29 : decode cX6_lie 29 = .ok (.iconst (-1), 1) := by decide +kernel
theorem dX6_lie_30 : decode cX6_lie 30 = .ok (.ireturn, 1) := by decide +kernel
theorem dX6_lie_31 : decode cX6_lie 31 = .ok (.aload_n 0, 1) := by decide +kernel
theorem dX6_lie_32 : decode cX6_lie 32 = .ok (.iload_n 1, 1) := by decide +kernel
theorem dX6_lie_33 : decode cX6_lie 33 = .ok (.invokevirtual 272, 3) := by decide +kernel
theorem dX6_lie_36 : decode cX6_lie 36 = .ok (.iload_n 2, 1) := by decide +kernel
theorem dX6_lie_37 : decode cX6_lie 37 = .ok (.iconst (-1), 1) := by decide +kernel
theorem dX6_lie_38 : decode cX6_lie 38 = .ok (.if_icmp .ne 8, 3) := by decide +kernel
theorem dX6_lie_41 : decode cX6_lie 41 = .ok (.aload_n 0, 1) := by decide +kernel
theorem dX6_lie_42 : decode cX6_lie 42 = .ok (.getfield 264, 3) := by decide +kernel
theorem dX6_lie_45 : decode cX6_lie 45 = .ok (.ireturn, 1) := by decide +kernel
theorem dX6_lie_46 : decode cX6_lie 46 = .ok (.iload_n 2, 1) := by decide +kernel
theorem dX6_lie_47 : decode cX6_lie 47 = .ok (.bipush (-2), 2) := by decide +kernel
theorem dX6_lie_49 : decode cX6_lie 49 = .ok (.if_icmp .ne 67, 3) := by decide +kernel
theorem dX6_lie_52 : decode cX6_lie 52 = .ok (.bipush (-9), 2) := by decide +kernel
theorem dX6_lie_54 : decode cX6_lie 54 = .ok (.istore_n 3, 1) := by decide +kernel
theorem dX6_lie_55 : decode cX6_lie 55 = .ok (.iconst 1, 1) := by decide +kernel
theorem dX6_lie_56 : decode cX6_lie 56 = .ok (.istore 4, 2) := by decide +kernel
theorem dX6_lie_58 : decode cX6_lie 58 = .ok (.iconst 0, 1) := by decide +kernel
theorem dX6_lie_59 : decode cX6_lie 59 = .ok (.istore 5, 2) := by decide +kernel
theorem dX6_lie_61 : decode cX6_lie 61 = .ok (.iload 5, 2) := by decide +kernel
theorem dX6_lie_63 : decode cX6_lie 63 = .ok (.iload_n 1, 1) := by decide +kernel
theorem dX6_lie_64 : decode cX6_lie 64 = .ok (.if_icmp .ge 50, 3) := by decide +kernel
theorem dX6_lie_67 : decode cX6_lie 67 = .ok (.aload_n 0, 1) := by decide +kernel
theorem dX6_lie_68 : decode cX6_lie 68 = .ok (.iload 5, 2) := by decide +kernel
theorem dX6_lie_70 : decode cX6_lie 70 = .ok (.invokevirtual 275, 3) := by decide +kernel
theorem dX6_lie_73 : decode cX6_lie 73 = .ok (.invokestatic 278, 3) := by decide +kernel
theorem dX6_lie_76 : decode cX6_lie 76 = .ok (.istore 6, 2) := by decide +kernel
theorem dX6_lie_78 : decode cX6_lie 78 = .ok (.iload 6, 2) := by decide +kernel
theorem dX6_lie_80 : decode cX6_lie 80 = .ok (.iload 4, 2) := by decide +kernel
theorem dX6_lie_82 : decode cX6_lie 82 = .ok (.if_icmp .le 8, 3) := by decide +kernel
theorem dX6_lie_85 : decode cX6_lie 85 = .ok (.iload 5, 2) := by decide +kernel
theorem dX6_lie_87 : decode cX6_lie 87 = .ok (.goto 4, 3) := by decide +kernel
theorem dX6_lie_90 : decode cX6_lie 90 = .ok (.iload_n 3, 1) := by decide +kernel
theorem dX6_lie_91 : decode cX6_lie 91 = .ok (.istore_n 3, 1) := by decide +kernel
theorem dX6_lie_92 : decode cX6_lie 92 = .ok (.iload 6, 2) := by decide +kernel
theorem dX6_lie_94 : decode cX6_lie 94 = .ok (.iload 4, 2) := by decide +kernel
theorem dX6_lie_96 : decode cX6_lie 96 = .ok (.if_icmp .le 8, 3) := by decide +kernel
theorem dX6_lie_99 : decode cX6_lie 99 = .ok (.iload 6, 2) := by decide +kernel
theorem dX6_lie_101 : decode cX6_lie 101 = .ok (.goto 5, 3) := by decide +kernel
theorem dX6_lie_104 : decode cX6_lie 104 = .ok (.iload 4, 2) := by decide +kernel
theorem dX6_lie_106 : decode cX6_lie 106 = .ok (.istore 4, 2) := by decide +kernel
theorem dX6_lie_108 : decode cX6_lie 108 = .ok (.iinc 5 1, 3) := by decide +kernel
theorem dX6_lie_111 : decode cX6_lie 111 = .ok (.goto (-50), 3) := by decide +kernel
theorem dX6_lie_114 : decode cX6_lie 114 = .ok (.iload_n 3, 1) := by decide +kernel
theorem dX6_lie_115 : decode cX6_lie 115 = .ok (.ireturn, 1) := by decide +kernel
theorem dX6_lie_116 : decode cX6_lie 116 = .ok (.aload_n 0, 1) := by decide +kernel
theorem dX6_lie_117 : decode cX6_lie 117 = .ok (.iload_n 2, 1) := by decide +kernel
theorem dX6_lie_118 : decode cX6_lie 118 = .ok (.invokevirtual 275, 3) := by decide +kernel
theorem dX6_lie_121 : decode cX6_lie 121 = .ok (.istore_n 3, 1) := by decide +kernel
theorem dX6_lie_122 : decode cX6_lie 122 = .ok (.bipush (-9), 2) := by decide +kernel
theorem dX6_lie_124 : decode cX6_lie 124 = .ok (.istore 4, 2) := by decide +kernel
theorem dX6_lie_126 : decode cX6_lie 126 = .ok (.iconst 0, 1) := by decide +kernel
theorem dX6_lie_127 : decode cX6_lie 127 = .ok (.istore 5, 2) := by decide +kernel
theorem dX6_lie_129 : decode cX6_lie 129 = .ok (.iload 5, 2) := by decide +kernel
theorem dX6_lie_131 : decode cX6_lie 131 = .ok (.iconst 5, 1) := by decide +kernel
theorem dX6_lie_132 : decode cX6_lie 132 = .ok (.if_icmp .ge 26, 3) := by decide +kernel
theorem dX6_lie_135 : decode cX6_lie 135 = .ok (.iload_n 3, 1) := by decide +kernel
theorem dX6_lie_136 : decode cX6_lie 136 = .ok (.iconst 1, 1) := by decide +kernel
theorem dX6_lie_137 : decode cX6_lie 137 = .ok (.iload 5, 2) := by decide +kernel
theorem dX6_lie_139 : decode cX6_lie 139 = .ok (.ishl, 1) := by decide +kernel
theorem dX6_lie_140 : decode cX6_lie 140 = .ok (.if_icmp .ne 8, 3) := by decide +kernel
theorem dX6_lie_143 : decode cX6_lie 143 = .ok (.iload 5, 2) := by decide +kernel
theorem dX6_lie_145 : decode cX6_lie 145 = .ok (.goto 5, 3) := by decide +kernel
theorem dX6_lie_148 : decode cX6_lie 148 = .ok (.iload 4, 2) := by decide +kernel
theorem dX6_lie_150 : decode cX6_lie 150 = .ok (.istore 4, 2) := by decide +kernel
theorem dX6_lie_152 : decode cX6_lie 152 = .ok (.iinc 5 1, 3) := by decide +kernel
theorem dX6_lie_155 : decode cX6_lie 155 = .ok (.goto (-26), 3) := by decide +kernel
theorem dX6_lie_158 : decode cX6_lie 158 = .ok (.iload_n 3, 1) := by decide +kernel
theorem dX6_lie_159 : decode cX6_lie 159 = .ok (.invokestatic 278, 3) := by decide +kernel
theorem dX6_lie_162 : decode cX6_lie 162 = .ok (.iconst 1, 1) := by decide +kernel
theorem dX6_lie_163 : decode cX6_lie 163 = .ok (.if_icmp .le 8, 3) := by decide +kernel
theorem dX6_lie_166 : decode cX6_lie 166 = .ok (.bipush (-5), 2) := by decide +kernel
theorem dX6_lie_168 : decode cX6_lie 168 = .ok (.goto 5, 3) := by decide +kernel
theorem dX6_lie_171 : decode cX6_lie 171 = .ok (.iload 4, 2) := by decide +kernel
theorem dX6_lie_173 : decode cX6_lie 173 = .ok (.ireturn, 1) := by decide +kernel
set_option maxRecDepth 20000 in
theorem ggX6_mark_X6_in : GoodIn wsX6_mark wsX6_in := goodIn_r _ [14] (by decide +kernel) (by decide +kernel)
set_option maxRecDepth 20000 in
theorem gX6_mark_X6_in : GoodIn wsX6_mark (va_wsS RX6 60 yX6_in wsX6_in) := goodIn_app (goodIn_of _ (by decide +kernel)) ggX6_mark_X6_in
set_option maxRecDepth 20000 in
theorem ggX6_mark_X6_isHost : GoodIn wsX6_mark wsX6_isHost := goodIn_r _ [18, 3, 11, 12, 13, 14, 22, 23, 24, 25, 26, 27, 28, 29, 30, 31, 32, 33, 34, 35, 36, 37, 38, 39, 40, 41, 42, 43, 44, 45, 46, 47, 48, 49, 50] (by decide +kernel) (by decide +kernel)
set_option maxRecDepth 20000 in
theorem gX6_mark_X6_isHost : GoodIn wsX6_mark (wsV RX6 161 RX6 yX6_isHost wsX6_isHost) := goodIn_app (goodIn_of _ (by decide +kernel)) ggX6_mark_X6_isHost
set_option maxRecDepth 20000 in
theorem ggX6_mark_X6_bits : GoodIn wsX6_mark wsX6_bits := goodIn_r _ [21] (by decide +kernel) (by decide +kernel)
set_option maxRecDepth 20000 in
theorem gX6_mark_X6_bits : GoodIn wsX6_mark (va_wsS RX6 278 yX6_bits wsX6_bits) := goodIn_app (goodIn_of _ (by decide +kernel)) ggX6_mark_X6_bits
theorem dX6_mark_0 : decode cX6_mark 0 = .ok (.iload_n 1, 1) := by decide +kernel
theorem dX6_mark_1 : decode cX6_mark 1 = .ok (.i2l, 1) := by decide +kernel
theorem dX6_mark_2 : decode cX6_mark 2 = .ok (.lconst 0, 1) := by decide +kernel
theorem dX6_mark_3 : decode cX6_mark 3 = .ok (.ldc2_w 116, 3) := by decide +kernel
theorem dX6_mark_6 : decode cX6_mark 6 = .ok (.invokestatic 60, 3) := by decide +kernel
theorem dX6_mark_9 : decode cX6_mark 9 = .ok (.ifCond .eq 11, 3) := by decide +kernel
theorem dX6_mark_12 : decode cX6_mark 12 = .ok (.aload_n 0, 1) := by decide +kernel
theorem dX6_mark_13 : decode cX6_mark 13 = .ok (.iload_n 2, 1) := by decide +kernel
theorem dX6_mark_14 : decode cX6_mark 14 = .ok (.invokevirtual 161, 3) := by decide +kernel
theorem dX6_mark_17 : decode cX6_mark 17 = .ok (.ifCond .ne 7, 3) := by decide +kernel
theorem dX6_mark_20 : decode cX6_mark 20 = .ok (.ldc_w 281, 3) := by decide +kernel
theorem dX6_mark_23 : decode cX6_mark 23 = .ok (.ireturn, 1) := by decide +kernel
theorem dX6_mark_24 : decode cX6_mark 24 = .ok (.aload_n 0, 1) := by decide +kernel
theorem dX6_mark_25 : decode cX6_mark 25 = .ok (.getfield 7, 3) := by decide +kernel
theorem dX6_mark_28 : decode cX6_mark 28 = .ok (.bipush 58, 2) := by decide +kernel
theorem dX6_mark_30 : decode cX6_mark 30 = .ok (.iload_n 2, 1) := by decide +kernel
theorem dX6_mark_31 : decode cX6_mark 31 = .ok (.iadd, 1) := by decide +kernel
theorem dX6_mark_32 : decode cX6_mark 32 = .ok (.iaload, 1) := by decide +kernel
theorem dX6_mark_33 : decode cX6_mark 33 = .ok (.istore_n 3, 1) := by decide +kernel
theorem dX6_mark_34 : decode cX6_mark 34 = .ok (.aload_n 0, 1) := by decide +kernel
theorem dX6_mark_35 : decode cX6_mark 35 = .ok (.getfield 7, 3) := by decide +kernel
theorem dX6_mark_38 : decode cX6_mark 38 = .ok (.bipush 64, 2) := by decide +kernel
theorem dX6_mark_40 : decode cX6_mark 40 = .ok (.iload_n 2, 1) := by decide +kernel
theorem dX6_mark_41 : decode cX6_mark 41 = .ok (.iadd, 1) := by decide +kernel
theorem dX6_mark_42 : decode cX6_mark 42 = .ok (.iaload, 1) := by decide +kernel
theorem dX6_mark_43 : decode cX6_mark 43 = .ok (.bipush 9, 2) := by decide +kernel
theorem dX6_mark_45 : decode cX6_mark 45 = .ok (.if_icmp .ne 8, 3) := by decide +kernel
theorem dX6_mark_48 : decode cX6_mark 48 = .ok (.bipush 9, 2) := by decide +kernel
theorem dX6_mark_50 : decode cX6_mark 50 = .ok (.goto 12, 3) := by decide +kernel
theorem dX6_mark_53 : decode cX6_mark 53 = .ok (.aload_n 0, 1) := by decide +kernel
theorem dX6_mark_54 : decode cX6_mark 54 = .ok (.getfield 7, 3) := by decide +kernel
theorem dX6_mark_57 : decode cX6_mark 57 = .ok (.bipush 64, 2) := by decide +kernel
theorem dX6_mark_59 : decode cX6_mark 59 = .ok (.iload_n 2, 1) := by decide +kernel
theorem dX6_mark_60 : decode cX6_mark 60 = .ok (.iadd, 1) := by decide +kernel
theorem dX6_mark_61 : decode cX6_mark 61 = .ok (.iaload, 1) := by decide +kernel
theorem dX6_mark_62 : decode cX6_mark 62 = .ok (.istore 4, 2) := by decide +kernel
theorem dX6_mark_64 : decode cX6_mark 64 = .ok (.aload_n 0, 1) := by decide +kernel
theorem dX6_mark_65 : decode cX6_mark 65 = .ok (.dup, 1) := by decide +kernel
theorem dX6_mark_66 : decode cX6_mark 66 = .ok (.getfield 282, 3) := by decide +kernel
theorem dX6_mark_69 : decode cX6_mark 69 = .ok (.lconst 1, 1) := by decide +kernel
theorem dX6_mark_70 : decode cX6_mark 70 = .ok (.ladd, 1) := by decide +kernel
theorem dX6_mark_71 : decode cX6_mark 71 = .ok (.putfield 282, 3) := by decide +kernel
theorem dX6_mark_74 : decode cX6_mark 74 = .ok (.iload_n 1, 1) := by decide +kernel
theorem dX6_mark_75 : decode cX6_mark 75 = .ok (.tableswitch 151 1 5 #[33, 57, 74, 100, 127], 33) := by decide +kernel
theorem dX6_mark_108 : decode cX6_mark 108 = .ok (.aload_n 0, 1) := by decide +kernel
theorem dX6_mark_109 : decode cX6_mark 109 = .ok (.dup, 1) := by decide +kernel
theorem dX6_mark_110 : decode cX6_mark 110 = .ok (.getfield 282, 3) := by decide +kernel
theorem dX6_mark_113 : decode cX6_mark 113 = .ok (.ldc2_w 286, 3) := by decide +kernel
theorem dX6_mark_116 : decode cX6_mark 116 = .ok (.ladd, 1) := by decide +kernel
theorem dX6_mark_117 : decode cX6_mark 117 = .ok (.putfield 282, 3) := by decide +kernel
theorem dX6_mark_120 : decode cX6_mark 120 = .ok (.iload_n 3, 1) := by decide +kernel
theorem dX6_mark_121 : decode cX6_mark 121 = .ok (.aload_n 0, 1) := by decide +kernel
theorem dX6_mark_122 : decode cX6_mark 122 = .ok (.getfield 7, 3) := by decide +kernel
theorem dX6_mark_125 : decode cX6_mark 125 = .ok (.bipush 52, 2) := by decide +kernel
theorem dX6_mark_127 : decode cX6_mark 127 = .ok (.iload_n 2, 1) := by decide +kernel
theorem dX6_mark_128 : decode cX6_mark 128 = .ok (.iadd, 1) := by decide +kernel
theorem dX6_mark_129 : decode cX6_mark 129 = .ok (.iaload, 1) := by decide +kernel
theorem dX6_mark_130 : decode cX6_mark 130 = .ok (.iadd, 1) := by decide +kernel
theorem dX6_mark_131 : decode cX6_mark 131 = .ok (.ireturn, 1) := by decide +kernel
theorem dX6_mark_132 : decode cX6_mark 132 = .ok (.aload_n 0, 1) := by decide +kernel
theorem dX6_mark_133 : decode cX6_mark 133 = .ok (.dup, 1) := by decide +kernel
theorem dX6_mark_134 : decode cX6_mark 134 = .ok (.getfield 282, 3) := by decide +kernel
theorem dX6_mark_137 : decode cX6_mark 137 = .ok (.ldc2_w 288, 3) := by decide +kernel
theorem dX6_mark_140 : decode cX6_mark 140 = .ok (.ladd, 1) := by decide +kernel
theorem dX6_mark_141 : decode cX6_mark 141 = .ok (.putfield 282, 3) := by decide +kernel
theorem dX6_mark_144 : decode cX6_mark 144 = .ok (.iload_n 3, 1) := by decide +kernel
theorem dX6_mark_145 : decode cX6_mark 145 = .ok (.iload 4, 2) := by decide +kernel
theorem dX6_mark_147 : decode cX6_mark 147 = .ok (.isub, 1) := by decide +kernel
theorem dX6_mark_148 : decode cX6_mark 148 = .ok (.ireturn, 1) := by decide +kernel
theorem dX6_mark_149 : decode cX6_mark 149 = .ok (.aload_n 0, 1) := by decide +kernel
theorem dX6_mark_150 : decode cX6_mark 150 = .ok (.dup, 1) := by decide +kernel
theorem dX6_mark_151 : decode cX6_mark 151 = .ok (.getfield 282, 3) := by decide +kernel
theorem dX6_mark_154 : decode cX6_mark 154 = .ok (.ldc2_w 290, 3) := by decide +kernel
theorem dX6_mark_157 : decode cX6_mark 157 = .ok (.ladd, 1) := by decide +kernel
theorem dX6_mark_158 : decode cX6_mark 158 = .ok (.putfield 282, 3) := by decide +kernel
theorem dX6_mark_161 : decode cX6_mark 161 = .ok (.iconst 2, 1) := by decide +kernel
theorem dX6_mark_162 : decode cX6_mark 162 = .ok (.iload_n 3, 1) := by decide +kernel
theorem dX6_mark_163 : decode cX6_mark 163 = .ok (.aload_n 0, 1) := by decide +kernel
theorem dX6_mark_164 : decode cX6_mark 164 = .ok (.getfield 7, 3) := by decide +kernel
theorem dX6_mark_167 : decode cX6_mark 167 = .ok (.bipush 52, 2) := by decide +kernel
theorem dX6_mark_169 : decode cX6_mark 169 = .ok (.iload_n 2, 1) := by decide +kernel
theorem dX6_mark_170 : decode cX6_mark 170 = .ok (.iadd, 1) := by decide +kernel
theorem dX6_mark_171 : decode cX6_mark 171 = .ok (.iaload, 1) := by decide +kernel
theorem dX6_mark_172 : decode cX6_mark 172 = .ok (.iadd, 1) := by decide +kernel
theorem dX6_mark_173 : decode cX6_mark 173 = .ok (.imul, 1) := by decide +kernel
theorem dX6_mark_174 : decode cX6_mark 174 = .ok (.ireturn, 1) := by decide +kernel
theorem dX6_mark_175 : decode cX6_mark 175 = .ok (.aload_n 0, 1) := by decide +kernel
theorem dX6_mark_176 : decode cX6_mark 176 = .ok (.dup, 1) := by decide +kernel
theorem dX6_mark_177 : decode cX6_mark 177 = .ok (.getfield 282, 3) := by decide +kernel
theorem dX6_mark_180 : decode cX6_mark 180 = .ok (.ldc2_w 292, 3) := by decide +kernel
theorem dX6_mark_183 : decode cX6_mark 183 = .ok (.ladd, 1) := by decide +kernel
theorem dX6_mark_184 : decode cX6_mark 184 = .ok (.putfield 282, 3) := by decide +kernel
theorem dX6_mark_187 : decode cX6_mark 187 = .ok (.iload_n 3, 1) := by decide +kernel
theorem dX6_mark_188 : decode cX6_mark 188 = .ok (.iload 4, 2) := by decide +kernel
theorem dX6_mark_190 : decode cX6_mark 190 = .ok (.isub, 1) := by decide +kernel
theorem dX6_mark_191 : decode cX6_mark 191 = .ok (.aload_n 0, 1) := by decide +kernel
theorem dX6_mark_192 : decode cX6_mark 192 = .ok (.getfield 16, 3) := by decide +kernel
theorem dX6_mark_195 : decode cX6_mark 195 = .ok (.iconst 2, 1) := by decide +kernel
theorem dX6_mark_196 : decode cX6_mark 196 = .ok (.iaload, 1) := by decide +kernel
theorem dX6_mark_197 : decode cX6_mark 197 = .ok (.invokestatic 278, 3) := by decide +kernel
theorem dX6_mark_200 : decode cX6_mark 200 = .ok (.iadd, 1) := by decide +kernel
theorem dX6_mark_201 : decode cX6_mark 201 = .ok (.ireturn, 1) := by decide +kernel
theorem dX6_mark_202 : decode cX6_mark 202 = .ok (.aload_n 0, 1) := by decide +kernel
theorem dX6_mark_203 : decode cX6_mark 203 = .ok (.dup, 1) := by decide +kernel
theorem dX6_mark_204 : decode cX6_mark 204 = .ok (.getfield 282, 3) := by decide +kernel
theorem dX6_mark_207 : decode cX6_mark 207 = .ok (.ldc2_w 294, 3) := by decide +kernel
theorem dX6_mark_210 : decode cX6_mark 210 = .ok (.ladd, 1) := by decide +kernel
theorem dX6_mark_211 : decode cX6_mark 211 = .ok (.putfield 282, 3) := by decide +kernel
theorem dX6_mark_214 : decode cX6_mark 214 = .ok (.iload_n 3, 1) := by decide +kernel
theorem dX6_mark_215 : decode cX6_mark 215 = .ok (.aload_n 0, 1) := by decide +kernel
theorem dX6_mark_216 : decode cX6_mark 216 = .ok (.getfield 16, 3) := by decide +kernel
theorem dX6_mark_219 : decode cX6_mark 219 = .ok (.iconst 1, 1) := by decide +kernel
theorem dX6_mark_220 : decode cX6_mark 220 = .ok (.iaload, 1) := by decide +kernel
theorem dX6_mark_221 : decode cX6_mark 221 = .ok (.bipush 24, 2) := by decide +kernel
theorem dX6_mark_223 : decode cX6_mark 223 = .ok (.irem, 1) := by decide +kernel
theorem dX6_mark_224 : decode cX6_mark 224 = .ok (.iadd, 1) := by decide +kernel
theorem dX6_mark_225 : decode cX6_mark 225 = .ok (.ireturn, 1) := by decide +kernel
theorem dX6_mark_226 : decode cX6_mark 226 = .ok (.iload_n 3, 1) := by decide +kernel
theorem dX6_mark_227 : decode cX6_mark 227 = .ok (.ireturn, 1) := by decide +kernel
set_option maxRecDepth 20000 in
theorem ggX6_keep_X6_isTwo : GoodIn wsX6_keep wsX6_isTwo := goodIn_r _ [7, 8, 9, 6, 10] (by decide +kernel) (by decide +kernel)
set_option maxRecDepth 20000 in
theorem gX6_keep_X6_isTwo : GoodIn wsX6_keep (va_wsS RX6 249 yX6_isTwo wsX6_isTwo) := goodIn_app (goodIn_of _ (by decide +kernel)) ggX6_keep_X6_isTwo
theorem dX6_keep_0 : decode cX6_keep 0 = .ok (.iload_n 1, 1) := by decide +kernel
theorem dX6_keep_1 : decode cX6_keep 1 = .ok (.invokestatic 249, 3) := by decide +kernel
theorem dX6_keep_4 : decode cX6_keep 4 = .ok (.ifCond .ne 5, 3) := by decide +kernel
theorem dX6_keep_7 : decode cX6_keep 7 = .ok (.iconst (-1), 1) := by decide +kernel
theorem dX6_keep_8 : decode cX6_keep 8 = .ok (.ireturn, 1) := by decide +kernel
theorem dX6_keep_9 : decode cX6_keep 9 = .ok (.iconst 0, 1) := by decide +kernel
theorem dX6_keep_10 : decode cX6_keep 10 = .ok (.istore_n 2, 1) := by decide +kernel
theorem dX6_keep_11 : decode cX6_keep 11 = .ok (.iload_n 2, 1) := by decide +kernel
theorem dX6_keep_12 : decode cX6_keep 12 = .ok (.bipush 40, 2) := by decide +kernel
theorem dX6_keep_14 : decode cX6_keep 14 = .ok (.if_icmp .ge 26, 3) := by decide +kernel
theorem dX6_keep_17 : decode cX6_keep 17 = .ok (.aload_n 0, 1) := by decide +kernel
theorem dX6_keep_18 : decode cX6_keep 18 = .ok (.getfield 19, 3) := by decide +kernel
theorem dX6_keep_21 : decode cX6_keep 21 = .ok (.bipush 40, 2) := by decide +kernel
theorem dX6_keep_23 : decode cX6_keep 23 = .ok (.iload_n 1, 1) := by decide +kernel
theorem dX6_keep_24 : decode cX6_keep 24 = .ok (.imul, 1) := by decide +kernel
theorem dX6_keep_25 : decode cX6_keep 25 = .ok (.iload_n 2, 1) := by decide +kernel
theorem dX6_keep_26 : decode cX6_keep 26 = .ok (.iadd, 1) := by decide +kernel
theorem dX6_keep_27 : decode cX6_keep 27 = .ok (.aload_n 0, 1) := by decide +kernel
theorem dX6_keep_28 : decode cX6_keep 28 = .ok (.getfield 16, 3) := by decide +kernel
theorem dX6_keep_31 : decode cX6_keep 31 = .ok (.iload_n 2, 1) := by decide +kernel
theorem dX6_keep_32 : decode cX6_keep 32 = .ok (.iaload, 1) := by decide +kernel
theorem dX6_keep_33 : decode cX6_keep 33 = .ok (.iastore, 1) := by decide +kernel
theorem dX6_keep_34 : decode cX6_keep 34 = .ok (.iinc 2 1, 3) := by decide +kernel
theorem dX6_keep_37 : decode cX6_keep 37 = .ok (.goto (-26), 3) := by decide +kernel
theorem dX6_keep_40 : decode cX6_keep 40 = .ok (.aload_n 0, 1) := by decide +kernel
theorem dX6_keep_41 : decode cX6_keep 41 = .ok (.getfield 22, 3) := by decide +kernel
theorem dX6_keep_44 : decode cX6_keep 44 = .ok (.iload_n 1, 1) := by decide +kernel
theorem dX6_keep_45 : decode cX6_keep 45 = .ok (.iconst 1, 1) := by decide +kernel
theorem dX6_keep_46 : decode cX6_keep 46 = .ok (.bastore, 1) := by decide +kernel
theorem dX6_keep_47 : decode cX6_keep 47 = .ok (.aload_n 0, 1) := by decide +kernel
theorem dX6_keep_48 : decode cX6_keep 48 = .ok (.getfield 16, 3) := by decide +kernel
theorem dX6_keep_51 : decode cX6_keep 51 = .ok (.iconst 1, 1) := by decide +kernel
theorem dX6_keep_52 : decode cX6_keep 52 = .ok (.iaload, 1) := by decide +kernel
theorem dX6_keep_53 : decode cX6_keep 53 = .ok (.ireturn, 1) := by decide +kernel
set_option maxRecDepth 20000 in
theorem ggX6_back_X6_isTwo : GoodIn wsX6_back wsX6_isTwo := goodIn_r _ [7, 8, 9, 6, 10] (by decide +kernel) (by decide +kernel)
set_option maxRecDepth 20000 in
theorem gX6_back_X6_isTwo : GoodIn wsX6_back (va_wsS RX6 249 yX6_isTwo wsX6_isTwo) := goodIn_app (goodIn_of _ (by decide +kernel)) ggX6_back_X6_isTwo
theorem dX6_back_0 : decode cX6_back 0 = .ok (.iload_n 1, 1) := by decide +kernel
theorem dX6_back_1 : decode cX6_back 1 = .ok (.invokestatic 249, 3) := by decide +kernel
theorem dX6_back_4 : decode cX6_back 4 = .ok (.ifCond .ne 5, 3) := by decide +kernel
theorem dX6_back_7 : decode cX6_back 7 = .ok (.iconst (-1), 1) := by decide +kernel
theorem dX6_back_8 : decode cX6_back 8 = .ok (.ireturn, 1) := by decide +kernel
theorem dX6_back_9 : decode cX6_back 9 = .ok (.aload_n 0, 1) := by decide +kernel
theorem dX6_back_10 : decode cX6_back 10 = .ok (.getfield 22, 3) := by decide +kernel
theorem dX6_back_13 : decode cX6_back 13 = .ok (.iload_n 1, 1) := by decide +kernel
theorem dX6_back_14 : decode cX6_back 14 = .ok (.baload, 1) := by decide +kernel
theorem dX6_back_15 : decode cX6_back 15 = .ok (.ifCond .ne 6, 3) := by decide +kernel
theorem dX6_back_18 : decode cX6_back 18 = .ok (.bipush (-2), 2) := by decide +kernel
theorem dX6_back_20 : decode cX6_back 20 = .ok (.ireturn, 1) := by decide +kernel
theorem dX6_back_21 : decode cX6_back 21 = .ok (.iconst 0, 1) := by decide +kernel
theorem dX6_back_22 : decode cX6_back 22 = .ok (.istore_n 2, 1) := by decide +kernel
theorem dX6_back_23 : decode cX6_back 23 = .ok (.iload_n 2, 1) := by decide +kernel
theorem dX6_back_24 : decode cX6_back 24 = .ok (.bipush 40, 2) := by decide +kernel
theorem dX6_back_26 : decode cX6_back 26 = .ok (.if_icmp .ge 26, 3) := by decide +kernel
theorem dX6_back_29 : decode cX6_back 29 = .ok (.aload_n 0, 1) := by decide +kernel
theorem dX6_back_30 : decode cX6_back 30 = .ok (.getfield 16, 3) := by decide +kernel
theorem dX6_back_33 : decode cX6_back 33 = .ok (.iload_n 2, 1) := by decide +kernel
theorem dX6_back_34 : decode cX6_back 34 = .ok (.aload_n 0, 1) := by decide +kernel
theorem dX6_back_35 : decode cX6_back 35 = .ok (.getfield 19, 3) := by decide +kernel
theorem dX6_back_38 : decode cX6_back 38 = .ok (.bipush 40, 2) := by decide +kernel
theorem dX6_back_40 : decode cX6_back 40 = .ok (.iload_n 1, 1) := by decide +kernel
theorem dX6_back_41 : decode cX6_back 41 = .ok (.imul, 1) := by decide +kernel
theorem dX6_back_42 : decode cX6_back 42 = .ok (.iload_n 2, 1) := by decide +kernel
theorem dX6_back_43 : decode cX6_back 43 = .ok (.iadd, 1) := by decide +kernel
theorem dX6_back_44 : decode cX6_back 44 = .ok (.iaload, 1) := by decide +kernel
theorem dX6_back_45 : decode cX6_back 45 = .ok (.iastore, 1) := by decide +kernel
theorem dX6_back_46 : decode cX6_back 46 = .ok (.iinc 2 1, 3) := by decide +kernel
theorem dX6_back_49 : decode cX6_back 49 = .ok (.goto (-26), 3) := by decide +kernel
theorem dX6_back_52 : decode cX6_back 52 = .ok (.aload_n 0, 1) := by decide +kernel
theorem dX6_back_53 : decode cX6_back 53 = .ok (.getfield 16, 3) := by decide +kernel
theorem dX6_back_56 : decode cX6_back 56 = .ok (.iconst 1, 1) := by decide +kernel
theorem dX6_back_57 : decode cX6_back 57 = .ok (.iaload, 1) := by decide +kernel
theorem dX6_back_58 : decode cX6_back 58 = .ok (.ireturn, 1) := by decide +kernel
theorem dX6_count_0 : decode cX6_count 0 = .ok (.iload_n 1, 1) := by decide +kernel
theorem dX6_count_1 : decode cX6_count 1 = .ok (.tableswitch 76 0 7 #[47, 47, 47, 47, 54, 59, 64, 71], 47) := by decide +kernel
theorem dX6_count_48 : decode cX6_count 48 = .ok (.aload_n 0, 1) := by decide +kernel
theorem dX6_count_49 : decode cX6_count 49 = .ok (.getfield 7, 3) := by decide +kernel
theorem dX6_count_52 : decode cX6_count 52 = .ok (.iload_n 1, 1) := by decide +kernel
theorem dX6_count_53 : decode cX6_count 53 = .ok (.iaload, 1) := by decide +kernel
theorem dX6_count_54 : decode cX6_count 54 = .ok (.ireturn, 1) := by decide +kernel
theorem dX6_count_55 : decode cX6_count 55 = .ok (.aload_n 0, 1) := by decide +kernel
theorem dX6_count_56 : decode cX6_count 56 = .ok (.getfield 145, 3) := by decide +kernel
theorem dX6_count_59 : decode cX6_count 59 = .ok (.ireturn, 1) := by decide +kernel
theorem dX6_count_60 : decode cX6_count 60 = .ok (.aload_n 0, 1) := by decide +kernel
theorem dX6_count_61 : decode cX6_count 61 = .ok (.getfield 148, 3) := by decide +kernel
theorem dX6_count_64 : decode cX6_count 64 = .ok (.ireturn, 1) := by decide +kernel
theorem dX6_count_65 : decode cX6_count 65 = .ok (.aload_n 0, 1) := by decide +kernel
theorem dX6_count_66 : decode cX6_count 66 = .ok (.getfield 16, 3) := by decide +kernel
theorem dX6_count_69 : decode cX6_count 69 = .ok (.iconst 3, 1) := by decide +kernel
theorem dX6_count_70 : decode cX6_count 70 = .ok (.iaload, 1) := by decide +kernel
theorem dX6_count_71 : decode cX6_count 71 = .ok (.ireturn, 1) := by decide +kernel
theorem dX6_count_72 : decode cX6_count 72 = .ok (.aload_n 0, 1) := by decide +kernel
theorem dX6_count_73 : decode cX6_count 73 = .ok (.getfield 66, 3) := by decide +kernel
theorem dX6_count_76 : decode cX6_count 76 = .ok (.ireturn, 1) := by decide +kernel
theorem dX6_count_77 : decode cX6_count 77 = .ok (.iconst (-1), 1) := by decide +kernel
theorem dX6_count_78 : decode cX6_count 78 = .ok (.ireturn, 1) := by decide +kernel
theorem dX6_trace_0 : decode cX6_trace 0 = .ok (.aload_n 0, 1) := by decide +kernel
theorem dX6_trace_1 : decode cX6_trace 1 = .ok (.getfield 282, 3) := by decide +kernel
theorem dX6_trace_4 : decode cX6_trace 4 = .ok (.lreturn, 1) := by decide +kernel
