theorem dX0_init_0 : decode cX0_init 0 = .ok (.aload_n 0, 1) := by decide +kernel
theorem dX0_init_1 : decode cX0_init 1 = .ok (.invokespecial 3, 3) := by decide +kernel
theorem dX0_init_4 : decode cX0_init 4 = .ok (.aload_n 0, 1) := by decide +kernel
theorem dX0_init_5 : decode cX0_init 5 = .ok (.bipush 6, 2) := by decide +kernel
theorem dX0_init_7 : decode cX0_init 7 = .ok (.newarray .int, 2) := by decide +kernel
theorem dX0_init_9 : decode cX0_init 9 = .ok (.putfield 9, 3) := by decide +kernel
theorem dX0_init_12 : decode cX0_init 12 = .ok (.aload_n 0, 1) := by decide +kernel
theorem dX0_init_13 : decode cX0_init 13 = .ok (.bipush 6, 2) := by decide +kernel
theorem dX0_init_15 : decode cX0_init 15 = .ok (.newarray .int, 2) := by decide +kernel
theorem dX0_init_17 : decode cX0_init 17 = .ok (.putfield 15, 3) := by decide +kernel
theorem dX0_init_20 : decode cX0_init 20 = .ok (.aload_n 0, 1) := by decide +kernel
theorem dX0_init_21 : decode cX0_init 21 = .ok (.bipush 6, 2) := by decide +kernel
theorem dX0_init_23 : decode cX0_init 23 = .ok (.newarray .int, 2) := by decide +kernel
theorem dX0_init_25 : decode cX0_init 25 = .ok (.putfield 18, 3) := by decide +kernel
theorem dX0_init_28 : decode cX0_init 28 = .ok (.aload_n 0, 1) := by decide +kernel
theorem dX0_init_29 : decode cX0_init 29 = .ok (.bipush 6, 2) := by decide +kernel
theorem dX0_init_31 : decode cX0_init 31 = .ok (.newarray .int, 2) := by decide +kernel
theorem dX0_init_33 : decode cX0_init 33 = .ok (.putfield 21, 3) := by decide +kernel
theorem dX0_init_36 : decode cX0_init 36 = .ok (.aload_n 0, 1) := by decide +kernel
theorem dX0_init_37 : decode cX0_init 37 = .ok (.bipush 64, 2) := by decide +kernel
theorem dX0_init_39 : decode cX0_init 39 = .ok (.newarray .int, 2) := by decide +kernel
theorem dX0_init_41 : decode cX0_init 41 = .ok (.putfield 24, 3) := by decide +kernel
theorem dX0_init_44 : decode cX0_init 44 = .ok (.return_, 1) := by decide +kernel
theorem dX0_forgetAll_0 : decode cX0_forgetAll 0 = .ok (.aload_n 0, 1) := by decide +kernel
theorem dX0_forgetAll_1 : decode cX0_forgetAll 1 = .ok (.iconst 0, 1) := by decide +kernel
theorem dX0_forgetAll_2 : decode cX0_forgetAll 2 = .ok (.putfield 27, 3) := by decide +kernel
theorem dX0_forgetAll_5 : decode cX0_forgetAll 5 = .ok (.aload_n 0, 1) := by decide +kernel
theorem dX0_forgetAll_6 : decode cX0_forgetAll 6 = .ok (.iconst 0, 1) := by decide +kernel
theorem dX0_forgetAll_7 : decode cX0_forgetAll 7 = .ok (.putfield 31, 3) := by decide +kernel
theorem dX0_forgetAll_10 : decode cX0_forgetAll 10 = .ok (.return_, 1) := by decide +kernel
set_option maxRecDepth 20000 in
theorem ggX0_addSwap_X5_isWithin : GoodIn wsX0_addSwap wsX5_isWithin := goodIn_r _ [6] (by decide +kernel) (by decide +kernel)
set_option maxRecDepth 20000 in
theorem gX0_addSwap_X5_isWithin_n34 : GoodIn wsX0_addSwap (wsX5_isWithin) := ggX0_addSwap_X5_isWithin
theorem dX0_addSwap_0 : decode cX0_addSwap 0 = .ok (.aload_n 0, 1) := by decide +kernel
theorem dX0_addSwap_1 : decode cX0_addSwap 1 = .ok (.getfield 27, 3) := by decide +kernel
theorem dX0_addSwap_4 : decode cX0_addSwap 4 = .ok (.iconst 0, 1) := by decide +kernel
theorem dX0_addSwap_5 : decode cX0_addSwap 5 = .ok (.iconst 5, 1) := by decide +kernel
theorem dX0_addSwap_6 : decode cX0_addSwap 6 = .ok (.invokestatic 34, 3) := by decide +kernel
theorem dX0_addSwap_9 : decode cX0_addSwap 9 = .ok (.ifCond .ne 5, 3) := by decide +kernel
theorem dX0_addSwap_12 : decode cX0_addSwap 12 = .ok (.iconst 0, 1) := by decide +kernel
theorem dX0_addSwap_13 : decode cX0_addSwap 13 = .ok (.ireturn, 1) := by decide +kernel
theorem dX0_addSwap_14 : decode cX0_addSwap 14 = .ok (.aload_n 0, 1) := by decide +kernel
theorem dX0_addSwap_15 : decode cX0_addSwap 15 = .ok (.getfield 9, 3) := by decide +kernel
theorem dX0_addSwap_18 : decode cX0_addSwap 18 = .ok (.aload_n 0, 1) := by decide +kernel
theorem dX0_addSwap_19 : decode cX0_addSwap 19 = .ok (.getfield 27, 3) := by decide +kernel
theorem dX0_addSwap_22 : decode cX0_addSwap 22 = .ok (.iload_n 1, 1) := by decide +kernel
theorem dX0_addSwap_23 : decode cX0_addSwap 23 = .ok (.iastore, 1) := by decide +kernel
theorem dX0_addSwap_24 : decode cX0_addSwap 24 = .ok (.aload_n 0, 1) := by decide +kernel
theorem dX0_addSwap_25 : decode cX0_addSwap 25 = .ok (.getfield 15, 3) := by decide +kernel
theorem dX0_addSwap_28 : decode cX0_addSwap 28 = .ok (.aload_n 0, 1) := by decide +kernel
theorem dX0_addSwap_29 : decode cX0_addSwap 29 = .ok (.getfield 27, 3) := by decide +kernel
theorem dX0_addSwap_32 : decode cX0_addSwap 32 = .ok (.iload_n 2, 1) := by decide +kernel
theorem dX0_addSwap_33 : decode cX0_addSwap 33 = .ok (.iastore, 1) := by decide +kernel
theorem dX0_addSwap_34 : decode cX0_addSwap 34 = .ok (.aload_n 0, 1) := by decide +kernel
theorem dX0_addSwap_35 : decode cX0_addSwap 35 = .ok (.dup, 1) := by decide +kernel
theorem dX0_addSwap_36 : decode cX0_addSwap 36 = .ok (.getfield 27, 3) := by decide +kernel
theorem dX0_addSwap_39 : decode cX0_addSwap 39 = .ok (.iconst 1, 1) := by decide +kernel
theorem dX0_addSwap_40 : decode cX0_addSwap 40 = .ok (.iadd, 1) := by decide +kernel
theorem dX0_addSwap_41 : decode cX0_addSwap 41 = .ok (.putfield 27, 3) := by decide +kernel
theorem dX0_addSwap_44 : decode cX0_addSwap 44 = .ok (.iconst 1, 1) := by decide +kernel
theorem dX0_addSwap_45 : decode cX0_addSwap 45 = .ok (.ireturn, 1) := by decide +kernel
set_option maxRecDepth 20000 in
theorem ggX0_addTaste_X5_isWithin : GoodIn wsX0_addTaste wsX5_isWithin := goodIn_r _ [6] (by decide +kernel) (by decide +kernel)
set_option maxRecDepth 20000 in
theorem gX0_addTaste_X5_isWithin_n34 : GoodIn wsX0_addTaste (wsX5_isWithin) := ggX0_addTaste_X5_isWithin
theorem dX0_addTaste_0 : decode cX0_addTaste 0 = .ok (.aload_n 0, 1) := by decide +kernel
theorem dX0_addTaste_1 : decode cX0_addTaste 1 = .ok (.getfield 31, 3) := by decide +kernel
theorem dX0_addTaste_4 : decode cX0_addTaste 4 = .ok (.iconst 0, 1) := by decide +kernel
theorem dX0_addTaste_5 : decode cX0_addTaste 5 = .ok (.iconst 5, 1) := by decide +kernel
theorem dX0_addTaste_6 : decode cX0_addTaste 6 = .ok (.invokestatic 34, 3) := by decide +kernel
theorem dX0_addTaste_9 : decode cX0_addTaste 9 = .ok (.ifCond .ne 5, 3) := by decide +kernel
theorem dX0_addTaste_12 : decode cX0_addTaste 12 = .ok (.iconst 0, 1) := by decide +kernel
theorem dX0_addTaste_13 : decode cX0_addTaste 13 = .ok (.ireturn, 1) := by decide +kernel
theorem dX0_addTaste_14 : decode cX0_addTaste 14 = .ok (.aload_n 0, 1) := by decide +kernel
theorem dX0_addTaste_15 : decode cX0_addTaste 15 = .ok (.getfield 18, 3) := by decide +kernel
theorem dX0_addTaste_18 : decode cX0_addTaste 18 = .ok (.aload_n 0, 1) := by decide +kernel
theorem dX0_addTaste_19 : decode cX0_addTaste 19 = .ok (.getfield 31, 3) := by decide +kernel
theorem dX0_addTaste_22 : decode cX0_addTaste 22 = .ok (.iload_n 1, 1) := by decide +kernel
theorem dX0_addTaste_23 : decode cX0_addTaste 23 = .ok (.iastore, 1) := by decide +kernel
theorem dX0_addTaste_24 : decode cX0_addTaste 24 = .ok (.aload_n 0, 1) := by decide +kernel
theorem dX0_addTaste_25 : decode cX0_addTaste 25 = .ok (.getfield 21, 3) := by decide +kernel
theorem dX0_addTaste_28 : decode cX0_addTaste 28 = .ok (.aload_n 0, 1) := by decide +kernel
theorem dX0_addTaste_29 : decode cX0_addTaste 29 = .ok (.getfield 31, 3) := by decide +kernel
theorem dX0_addTaste_32 : decode cX0_addTaste 32 = .ok (.iload_n 2, 1) := by decide +kernel
theorem dX0_addTaste_33 : decode cX0_addTaste 33 = .ok (.iastore, 1) := by decide +kernel
theorem dX0_addTaste_34 : decode cX0_addTaste 34 = .ok (.aload_n 0, 1) := by decide +kernel
theorem dX0_addTaste_35 : decode cX0_addTaste 35 = .ok (.dup, 1) := by decide +kernel
theorem dX0_addTaste_36 : decode cX0_addTaste 36 = .ok (.getfield 31, 3) := by decide +kernel
theorem dX0_addTaste_39 : decode cX0_addTaste 39 = .ok (.iconst 1, 1) := by decide +kernel
theorem dX0_addTaste_40 : decode cX0_addTaste 40 = .ok (.iadd, 1) := by decide +kernel
theorem dX0_addTaste_41 : decode cX0_addTaste 41 = .ok (.putfield 31, 3) := by decide +kernel
theorem dX0_addTaste_44 : decode cX0_addTaste 44 = .ok (.iconst 1, 1) := by decide +kernel
theorem dX0_addTaste_45 : decode cX0_addTaste 45 = .ok (.ireturn, 1) := by decide +kernel
set_option maxRecDepth 20000 in
theorem ggX0_gatherRows_X0_rowAtFirst : GoodIn wsX0_gatherRows wsX0_rowAtFirst := goodIn_r _ [8] (by decide +kernel) (by decide +kernel)
set_option maxRecDepth 20000 in
theorem gX0_gatherRows_X0_rowAtFirst : GoodIn wsX0_gatherRows (va_wsS RX0 41 yX0_rowAtFirst wsX0_rowAtFirst) := goodIn_app (goodIn_of _ (by decide +kernel)) ggX0_gatherRows_X0_rowAtFirst
set_option maxRecDepth 20000 in
theorem ggX0_gatherRows_X0_addRow : GoodIn wsX0_gatherRows wsX0_addRow := goodIn_r _ [12, 1, 13, 14, 15, 16, 39, 40, 41, 42, 43, 44, 45, 46] (by decide +kernel) (by decide +kernel)
set_option maxRecDepth 20000 in
theorem gX0_gatherRows_X0_addRow : GoodIn wsX0_gatherRows (wsV RX0 45 RX0 yX0_addRow wsX0_addRow) := goodIn_app (goodIn_of _ (by decide +kernel)) ggX0_gatherRows_X0_addRow
set_option maxRecDepth 20000 in
theorem ggX0_gatherRows_X0_addSwappedRows : GoodIn wsX0_gatherRows wsX0_addSwappedRows := goodIn_r _ [20, 1, 21, 22, 23, 24, 13, 25, 26, 7, 27, 9, 10, 11, 12, 14, 15, 16, 39, 40, 41, 42, 43, 44, 45, 46] (by decide +kernel) (by decide +kernel)
set_option maxRecDepth 20000 in
theorem gX0_gatherRows_X0_addSwappedRows : GoodIn wsX0_gatherRows (wsV RX0 49 RX0 yX0_addSwappedRows wsX0_addSwappedRows) := goodIn_app (goodIn_of _ (by decide +kernel)) ggX0_gatherRows_X0_addSwappedRows
set_option maxRecDepth 20000 in
theorem ggX0_gatherRows_X0_dropUntasted : GoodIn wsX0_gatherRows wsX0_dropUntasted := goodIn_r _ [31, 1, 13, 32, 33, 34, 7, 35, 36, 37, 38, 25, 26, 27, 39, 40, 41, 42, 43, 44, 45, 46] (by decide +kernel) (by decide +kernel)
set_option maxRecDepth 20000 in
theorem gX0_gatherRows_X0_dropUntasted : GoodIn wsX0_gatherRows (wsV RX0 53 RX0 yX0_dropUntasted wsX0_dropUntasted) := goodIn_app (goodIn_of _ (by decide +kernel)) ggX0_gatherRows_X0_dropUntasted
theorem dX0_gatherRows_0 : decode cX0_gatherRows 0 = .ok (.aload_n 0, 1) := by decide +kernel
theorem dX0_gatherRows_1 : decode cX0_gatherRows 1 = .ok (.iconst 0, 1) := by decide +kernel
theorem dX0_gatherRows_2 : decode cX0_gatherRows 2 = .ok (.putfield 38, 3) := by decide +kernel
theorem dX0_gatherRows_5 : decode cX0_gatherRows 5 = .ok (.aload_n 0, 1) := by decide +kernel
theorem dX0_gatherRows_6 : decode cX0_gatherRows 6 = .ok (.iload_n 1, 1) := by decide +kernel
theorem dX0_gatherRows_7 : decode cX0_gatherRows 7 = .ok (.invokestatic 41, 3) := by decide +kernel
theorem dX0_gatherRows_10 : decode cX0_gatherRows 10 = .ok (.invokevirtual 45, 3) := by decide +kernel
theorem dX0_gatherRows_13 : decode cX0_gatherRows 13 = .ok (.iconst 0, 1) := by decide +kernel
theorem dX0_gatherRows_14 : decode cX0_gatherRows 14 = .ok (.istore_n 2, 1) := by decide +kernel
theorem dX0_gatherRows_15 : decode cX0_gatherRows 15 = .ok (.iload_n 2, 1) := by decide +kernel
theorem dX0_gatherRows_16 : decode cX0_gatherRows 16 = .ok (.aload_n 0, 1) := by decide +kernel
theorem dX0_gatherRows_17 : decode cX0_gatherRows 17 = .ok (.getfield 27, 3) := by decide +kernel
theorem dX0_gatherRows_20 : decode cX0_gatherRows 20 = .ok (.if_icmp .ge 51, 3) := by decide +kernel
theorem dX0_gatherRows_23 : decode cX0_gatherRows 23 = .ok (.iload_n 2, 1) := by decide +kernel
theorem dX0_gatherRows_24 : decode cX0_gatherRows 24 = .ok (.bipush 6, 2) := by decide +kernel
theorem dX0_gatherRows_26 : decode cX0_gatherRows 26 = .ok (.if_icmp .ge 45, 3) := by decide +kernel
theorem dX0_gatherRows_29 : decode cX0_gatherRows 29 = .ok (.aload_n 0, 1) := by decide +kernel
theorem dX0_gatherRows_30 : decode cX0_gatherRows 30 = .ok (.getfield 9, 3) := by decide +kernel
theorem dX0_gatherRows_33 : decode cX0_gatherRows 33 = .ok (.iload_n 2, 1) := by decide +kernel
theorem dX0_gatherRows_34 : decode cX0_gatherRows 34 = .ok (.iaload, 1) := by decide +kernel
theorem dX0_gatherRows_35 : decode cX0_gatherRows 35 = .ok (.iload_n 1, 1) := by decide +kernel
theorem dX0_gatherRows_36 : decode cX0_gatherRows 36 = .ok (.if_icmp .ge 29, 3) := by decide +kernel
theorem dX0_gatherRows_39 : decode cX0_gatherRows 39 = .ok (.aload_n 0, 1) := by decide +kernel
theorem dX0_gatherRows_40 : decode cX0_gatherRows 40 = .ok (.getfield 15, 3) := by decide +kernel
theorem dX0_gatherRows_43 : decode cX0_gatherRows 43 = .ok (.iload_n 2, 1) := by decide +kernel
theorem dX0_gatherRows_44 : decode cX0_gatherRows 44 = .ok (.iaload, 1) := by decide +kernel
theorem dX0_gatherRows_45 : decode cX0_gatherRows 45 = .ok (.iload_n 1, 1) := by decide +kernel
theorem dX0_gatherRows_46 : decode cX0_gatherRows 46 = .ok (.if_icmp .ge 19, 3) := by decide +kernel
theorem dX0_gatherRows_49 : decode cX0_gatherRows 49 = .ok (.aload_n 0, 1) := by decide +kernel
theorem dX0_gatherRows_50 : decode cX0_gatherRows 50 = .ok (.aload_n 0, 1) := by decide +kernel
theorem dX0_gatherRows_51 : decode cX0_gatherRows 51 = .ok (.getfield 9, 3) := by decide +kernel
theorem dX0_gatherRows_54 : decode cX0_gatherRows 54 = .ok (.iload_n 2, 1) := by decide +kernel
theorem dX0_gatherRows_55 : decode cX0_gatherRows 55 = .ok (.iaload, 1) := by decide +kernel
theorem dX0_gatherRows_56 : decode cX0_gatherRows 56 = .ok (.aload_n 0, 1) := by decide +kernel
theorem dX0_gatherRows_57 : decode cX0_gatherRows 57 = .ok (.getfield 15, 3) := by decide +kernel
theorem dX0_gatherRows_60 : decode cX0_gatherRows 60 = .ok (.iload_n 2, 1) := by decide +kernel
theorem dX0_gatherRows_61 : decode cX0_gatherRows 61 = .ok (.iaload, 1) := by decide +kernel
theorem dX0_gatherRows_62 : decode cX0_gatherRows 62 = .ok (.invokevirtual 49, 3) := by decide +kernel
theorem dX0_gatherRows_65 : decode cX0_gatherRows 65 = .ok (.iinc 2 1, 3) := by decide +kernel
theorem dX0_gatherRows_68 : decode cX0_gatherRows 68 = .ok (.goto (-53), 3) := by decide +kernel
theorem dX0_gatherRows_71 : decode cX0_gatherRows 71 = .ok (.aload_n 0, 1) := by decide +kernel
theorem dX0_gatherRows_72 : decode cX0_gatherRows 72 = .ok (.iload_n 1, 1) := by decide +kernel
theorem dX0_gatherRows_73 : decode cX0_gatherRows 73 = .ok (.invokevirtual 53, 3) := by decide +kernel
theorem dX0_gatherRows_76 : decode cX0_gatherRows 76 = .ok (.return_, 1) := by decide +kernel
theorem dX0_rowAtFirst_0 : decode cX0_rowAtFirst 0 = .ok (.iconst 0, 1) := by decide +kernel
theorem dX0_rowAtFirst_1 : decode cX0_rowAtFirst 1 = .ok (.istore_n 1, 1) := by decide +kernel
theorem dX0_rowAtFirst_2 : decode cX0_rowAtFirst 2 = .ok (.iconst 0, 1) := by decide +kernel
theorem dX0_rowAtFirst_3 : decode cX0_rowAtFirst 3 = .ok (.istore_n 2, 1) := by decide +kernel
theorem dX0_rowAtFirst_4 : decode cX0_rowAtFirst 4 = .ok (.iload_n 2, 1) := by decide +kernel
theorem dX0_rowAtFirst_5 : decode cX0_rowAtFirst 5 = .ok (.iload_n 0, 1) := by decide +kernel
theorem dX0_rowAtFirst_6 : decode cX0_rowAtFirst 6 = .ok (.if_icmp .ge 17, 3) := by decide +kernel
theorem dX0_rowAtFirst_9 : decode cX0_rowAtFirst 9 = .ok (.iload_n 1, 1) := by decide +kernel
theorem dX0_rowAtFirst_10 : decode cX0_rowAtFirst 10 = .ok (.iload_n 2, 1) := by decide +kernel
theorem dX0_rowAtFirst_11 : decode cX0_rowAtFirst 11 = .ok (.iconst 3, 1) := by decide +kernel
theorem dX0_rowAtFirst_12 : decode cX0_rowAtFirst 12 = .ok (.iload_n 2, 1) := by decide +kernel
theorem dX0_rowAtFirst_13 : decode cX0_rowAtFirst 13 = .ok (.imul, 1) := by decide +kernel
theorem dX0_rowAtFirst_14 : decode cX0_rowAtFirst 14 = .ok (.ishl, 1) := by decide +kernel
theorem dX0_rowAtFirst_15 : decode cX0_rowAtFirst 15 = .ok (.ior, 1) := by decide +kernel
theorem dX0_rowAtFirst_16 : decode cX0_rowAtFirst 16 = .ok (.istore_n 1, 1) := by decide +kernel
theorem dX0_rowAtFirst_17 : decode cX0_rowAtFirst 17 = .ok (.iinc 2 1, 3) := by decide +kernel
theorem dX0_rowAtFirst_20 : decode cX0_rowAtFirst 20 = .ok (.goto (-16), 3) := by decide +kernel
theorem dX0_rowAtFirst_23 : decode cX0_rowAtFirst 23 = .ok (.iload_n 1, 1) := by decide +kernel
theorem dX0_rowAtFirst_24 : decode cX0_rowAtFirst 24 = .ok (.ireturn, 1) := by decide +kernel
set_option maxRecDepth 20000 in
theorem ggX0_addSwappedRows_X0_cupOn : GoodIn wsX0_addSwappedRows wsX0_cupOn := goodIn_r _ [10] (by decide +kernel) (by decide +kernel)
set_option maxRecDepth 20000 in
theorem gX0_addSwappedRows_X0_cupOn : GoodIn wsX0_addSwappedRows (va_wsS RX0 62 yX0_cupOn wsX0_cupOn) := goodIn_app (goodIn_of _ (by decide +kernel)) ggX0_addSwappedRows_X0_cupOn
set_option maxRecDepth 20000 in
theorem ggX0_addSwappedRows_X0_addRow : GoodIn wsX0_addSwappedRows wsX0_addRow := goodIn_r _ [14, 1, 6, 15, 16, 17, 18, 19, 20, 21, 22, 23, 24, 25] (by decide +kernel) (by decide +kernel)
set_option maxRecDepth 20000 in
theorem gX0_addSwappedRows_X0_addRow : GoodIn wsX0_addSwappedRows (wsV RX0 45 RX0 yX0_addRow wsX0_addRow) := goodIn_app (goodIn_of _ (by decide +kernel)) ggX0_addSwappedRows_X0_addRow
theorem dX0_addSwappedRows_0 : decode cX0_addSwappedRows 0 = .ok (.aload_n 0, 1) := by decide +kernel
theorem dX0_addSwappedRows_1 : decode cX0_addSwappedRows 1 = .ok (.getfield 38, 3) := by decide +kernel
theorem dX0_addSwappedRows_4 : decode cX0_addSwappedRows 4 = .ok (.bipush 64, 2) := by decide +kernel
theorem dX0_addSwappedRows_6 : decode cX0_addSwappedRows 6 = .ok (.invokestatic 56, 3) := by decide +kernel
theorem dX0_addSwappedRows_9 : decode cX0_addSwappedRows 9 = .ok (.istore_n 3, 1) := by decide +kernel
theorem dX0_addSwappedRows_10 : decode cX0_addSwappedRows 10 = .ok (.iconst 0, 1) := by decide +kernel
theorem dX0_addSwappedRows_11 : decode cX0_addSwappedRows 11 = .ok (.istore 4, 2) := by decide +kernel
theorem dX0_addSwappedRows_13 : decode cX0_addSwappedRows 13 = .ok (.iload 4, 2) := by decide +kernel
theorem dX0_addSwappedRows_15 : decode cX0_addSwappedRows 15 = .ok (.iload_n 3, 1) := by decide +kernel
theorem dX0_addSwappedRows_16 : decode cX0_addSwappedRows 16 = .ok (.if_icmp .ge 59, 3) := by decide +kernel
theorem dX0_addSwappedRows_19 : decode cX0_addSwappedRows 19 = .ok (.aload_n 0, 1) := by decide +kernel
theorem dX0_addSwappedRows_20 : decode cX0_addSwappedRows 20 = .ok (.getfield 24, 3) := by decide +kernel
theorem dX0_addSwappedRows_23 : decode cX0_addSwappedRows 23 = .ok (.iload 4, 2) := by decide +kernel
theorem dX0_addSwappedRows_25 : decode cX0_addSwappedRows 25 = .ok (.iaload, 1) := by decide +kernel
theorem dX0_addSwappedRows_26 : decode cX0_addSwappedRows 26 = .ok (.iload_n 1, 1) := by decide +kernel
theorem dX0_addSwappedRows_27 : decode cX0_addSwappedRows 27 = .ok (.invokestatic 62, 3) := by decide +kernel
theorem dX0_addSwappedRows_30 : decode cX0_addSwappedRows 30 = .ok (.aload_n 0, 1) := by decide +kernel
theorem dX0_addSwappedRows_31 : decode cX0_addSwappedRows 31 = .ok (.getfield 24, 3) := by decide +kernel
theorem dX0_addSwappedRows_34 : decode cX0_addSwappedRows 34 = .ok (.iload 4, 2) := by decide +kernel
theorem dX0_addSwappedRows_36 : decode cX0_addSwappedRows 36 = .ok (.iaload, 1) := by decide +kernel
theorem dX0_addSwappedRows_37 : decode cX0_addSwappedRows 37 = .ok (.iload_n 2, 1) := by decide +kernel
theorem dX0_addSwappedRows_38 : decode cX0_addSwappedRows 38 = .ok (.invokestatic 62, 3) := by decide +kernel
theorem dX0_addSwappedRows_41 : decode cX0_addSwappedRows 41 = .ok (.ixor, 1) := by decide +kernel
theorem dX0_addSwappedRows_42 : decode cX0_addSwappedRows 42 = .ok (.istore 5, 2) := by decide +kernel
theorem dX0_addSwappedRows_44 : decode cX0_addSwappedRows 44 = .ok (.aload_n 0, 1) := by decide +kernel
theorem dX0_addSwappedRows_45 : decode cX0_addSwappedRows 45 = .ok (.aload_n 0, 1) := by decide +kernel
theorem dX0_addSwappedRows_46 : decode cX0_addSwappedRows 46 = .ok (.getfield 24, 3) := by decide +kernel
theorem dX0_addSwappedRows_49 : decode cX0_addSwappedRows 49 = .ok (.iload 4, 2) := by decide +kernel
theorem dX0_addSwappedRows_51 : decode cX0_addSwappedRows 51 = .ok (.iaload, 1) := by decide +kernel
theorem dX0_addSwappedRows_52 : decode cX0_addSwappedRows 52 = .ok (.iload 5, 2) := by decide +kernel
theorem dX0_addSwappedRows_54 : decode cX0_addSwappedRows 54 = .ok (.iconst 3, 1) := by decide +kernel
theorem dX0_addSwappedRows_55 : decode cX0_addSwappedRows 55 = .ok (.iload_n 1, 1) := by decide +kernel
theorem dX0_addSwappedRows_56 : decode cX0_addSwappedRows 56 = .ok (.imul, 1) := by decide +kernel
theorem dX0_addSwappedRows_57 : decode cX0_addSwappedRows 57 = .ok (.ishl, 1) := by decide +kernel
theorem dX0_addSwappedRows_58 : decode cX0_addSwappedRows 58 = .ok (.ixor, 1) := by decide +kernel
theorem dX0_addSwappedRows_59 : decode cX0_addSwappedRows 59 = .ok (.iload 5, 2) := by decide +kernel
theorem dX0_addSwappedRows_61 : decode cX0_addSwappedRows 61 = .ok (.iconst 3, 1) := by decide +kernel
theorem dX0_addSwappedRows_62 : decode cX0_addSwappedRows 62 = .ok (.iload_n 2, 1) := by decide +kernel
theorem dX0_addSwappedRows_63 : decode cX0_addSwappedRows 63 = .ok (.imul, 1) := by decide +kernel
theorem dX0_addSwappedRows_64 : decode cX0_addSwappedRows 64 = .ok (.ishl, 1) := by decide +kernel
theorem dX0_addSwappedRows_65 : decode cX0_addSwappedRows 65 = .ok (.ixor, 1) := by decide +kernel
theorem dX0_addSwappedRows_66 : decode cX0_addSwappedRows 66 = .ok (.invokevirtual 45, 3) := by decide +kernel
theorem dX0_addSwappedRows_69 : decode cX0_addSwappedRows 69 = .ok (.iinc 4 1, 3) := by decide +kernel
theorem dX0_addSwappedRows_72 : decode cX0_addSwappedRows 72 = .ok (.goto (-59), 3) := by decide +kernel
theorem dX0_addSwappedRows_75 : decode cX0_addSwappedRows 75 = .ok (.return_, 1) := by decide +kernel
set_option maxRecDepth 20000 in
theorem ggX0_addRow_X5_isWithin : GoodIn wsX0_addRow wsX5_isWithin := goodIn_r _ [5] (by decide +kernel) (by decide +kernel)
set_option maxRecDepth 20000 in
theorem gX0_addRow_X5_isWithin_n34 : GoodIn wsX0_addRow (wsX5_isWithin) := ggX0_addRow_X5_isWithin
theorem dX0_addRow_0 : decode cX0_addRow 0 = .ok (.iconst 0, 1) := by decide +kernel
theorem dX0_addRow_1 : decode cX0_addRow 1 = .ok (.istore_n 2, 1) := by decide +kernel
theorem dX0_addRow_2 : decode cX0_addRow 2 = .ok (.iload_n 2, 1) := by decide +kernel
theorem dX0_addRow_3 : decode cX0_addRow 3 = .ok (.aload_n 0, 1) := by decide +kernel
theorem dX0_addRow_4 : decode cX0_addRow 4 = .ok (.getfield 38, 3) := by decide +kernel
theorem dX0_addRow_7 : decode cX0_addRow 7 = .ok (.if_icmp .ge 26, 3) := by decide +kernel
theorem dX0_addRow_10 : decode cX0_addRow 10 = .ok (.iload_n 2, 1) := by decide +kernel
theorem dX0_addRow_11 : decode cX0_addRow 11 = .ok (.bipush 64, 2) := by decide +kernel
theorem dX0_addRow_13 : decode cX0_addRow 13 = .ok (.if_icmp .ge 20, 3) := by decide +kernel
theorem dX0_addRow_16 : decode cX0_addRow 16 = .ok (.aload_n 0, 1) := by decide +kernel
theorem dX0_addRow_17 : decode cX0_addRow 17 = .ok (.getfield 24, 3) := by decide +kernel
theorem dX0_addRow_20 : decode cX0_addRow 20 = .ok (.iload_n 2, 1) := by decide +kernel
theorem dX0_addRow_21 : decode cX0_addRow 21 = .ok (.iaload, 1) := by decide +kernel
theorem dX0_addRow_22 : decode cX0_addRow 22 = .ok (.iload_n 1, 1) := by decide +kernel
theorem dX0_addRow_23 : decode cX0_addRow 23 = .ok (.if_icmp .ne 4, 3) := by decide +kernel
theorem dX0_addRow_26 : decode cX0_addRow 26 = .ok (.return_, 1) := by decide +kernel
theorem dX0_addRow_27 : decode cX0_addRow 27 = .ok (.iinc 2 1, 3) := by decide +kernel
theorem dX0_addRow_30 : decode cX0_addRow 30 = .ok (.goto (-28), 3) := by decide +kernel
theorem dX0_addRow_33 : decode cX0_addRow 33 = .ok (.aload_n 0, 1) := by decide +kernel
theorem dX0_addRow_34 : decode cX0_addRow 34 = .ok (.getfield 38, 3) := by decide +kernel
theorem dX0_addRow_37 : decode cX0_addRow 37 = .ok (.iconst 0, 1) := by decide +kernel
theorem dX0_addRow_38 : decode cX0_addRow 38 = .ok (.bipush 63, 2) := by decide +kernel
theorem dX0_addRow_40 : decode cX0_addRow 40 = .ok (.invokestatic 34, 3) := by decide +kernel
theorem dX0_addRow_43 : decode cX0_addRow 43 = .ok (.ifCond .ne 4, 3) := by decide +kernel
theorem dX0_addRow_46 : decode cX0_addRow 46 = .ok (.return_, 1) := by decide +kernel
theorem dX0_addRow_47 : decode cX0_addRow 47 = .ok (.aload_n 0, 1) := by decide +kernel
theorem dX0_addRow_48 : decode cX0_addRow 48 = .ok (.getfield 24, 3) := by decide +kernel
theorem dX0_addRow_51 : decode cX0_addRow 51 = .ok (.aload_n 0, 1) := by decide +kernel
theorem dX0_addRow_52 : decode cX0_addRow 52 = .ok (.getfield 38, 3) := by decide +kernel
theorem dX0_addRow_55 : decode cX0_addRow 55 = .ok (.iload_n 1, 1) := by decide +kernel
theorem dX0_addRow_56 : decode cX0_addRow 56 = .ok (.iastore, 1) := by decide +kernel
theorem dX0_addRow_57 : decode cX0_addRow 57 = .ok (.aload_n 0, 1) := by decide +kernel
theorem dX0_addRow_58 : decode cX0_addRow 58 = .ok (.dup, 1) := by decide +kernel
theorem dX0_addRow_59 : decode cX0_addRow 59 = .ok (.getfield 38, 3) := by decide +kernel
theorem dX0_addRow_62 : decode cX0_addRow 62 = .ok (.iconst 1, 1) := by decide +kernel
theorem dX0_addRow_63 : decode cX0_addRow 63 = .ok (.iadd, 1) := by decide +kernel
theorem dX0_addRow_64 : decode cX0_addRow 64 = .ok (.putfield 38, 3) := by decide +kernel
theorem dX0_addRow_67 : decode cX0_addRow 67 = .ok (.return_, 1) := by decide +kernel
set_option maxRecDepth 20000 in
theorem ggX0_dropUntasted_X0_isAsTasted : GoodIn wsX0_dropUntasted wsX0_isAsTasted := goodIn_r _ [7, 8, 9, 10, 11, 12, 6, 13, 14, 15, 16, 17, 18, 19, 20, 21] (by decide +kernel) (by decide +kernel)
set_option maxRecDepth 20000 in
theorem gX0_dropUntasted_X0_isAsTasted : GoodIn wsX0_dropUntasted (wsV RX0 65 RX0 yX0_isAsTasted wsX0_isAsTasted) := goodIn_app (goodIn_of _ (by decide +kernel)) ggX0_dropUntasted_X0_isAsTasted
theorem dX0_dropUntasted_0 : decode cX0_dropUntasted 0 = .ok (.iconst 0, 1) := by decide +kernel
theorem dX0_dropUntasted_1 : decode cX0_dropUntasted 1 = .ok (.istore_n 2, 1) := by decide +kernel
theorem dX0_dropUntasted_2 : decode cX0_dropUntasted 2 = .ok (.iconst 0, 1) := by decide +kernel
theorem dX0_dropUntasted_3 : decode cX0_dropUntasted 3 = .ok (.istore_n 3, 1) := by decide +kernel
theorem dX0_dropUntasted_4 : decode cX0_dropUntasted 4 = .ok (.iload_n 3, 1) := by decide +kernel
theorem dX0_dropUntasted_5 : decode cX0_dropUntasted 5 = .ok (.aload_n 0, 1) := by decide +kernel
theorem dX0_dropUntasted_6 : decode cX0_dropUntasted 6 = .ok (.getfield 38, 3) := by decide +kernel
theorem dX0_dropUntasted_9 : decode cX0_dropUntasted 9 = .ok (.if_icmp .ge 47, 3) := by decide +kernel
theorem dX0_dropUntasted_12 : decode cX0_dropUntasted 12 = .ok (.iload_n 3, 1) := by decide +kernel
theorem dX0_dropUntasted_13 : decode cX0_dropUntasted 13 = .ok (.bipush 64, 2) := by decide +kernel
theorem dX0_dropUntasted_15 : decode cX0_dropUntasted 15 = .ok (.if_icmp .ge 41, 3) := by decide +kernel
theorem dX0_dropUntasted_18 : decode cX0_dropUntasted 18 = .ok (.aload_n 0, 1) := by decide +kernel
theorem dX0_dropUntasted_19 : decode cX0_dropUntasted 19 = .ok (.aload_n 0, 1) := by decide +kernel
theorem dX0_dropUntasted_20 : decode cX0_dropUntasted 20 = .ok (.getfield 24, 3) := by decide +kernel
theorem dX0_dropUntasted_23 : decode cX0_dropUntasted 23 = .ok (.iload_n 3, 1) := by decide +kernel
theorem dX0_dropUntasted_24 : decode cX0_dropUntasted 24 = .ok (.iaload, 1) := by decide +kernel
theorem dX0_dropUntasted_25 : decode cX0_dropUntasted 25 = .ok (.iload_n 1, 1) := by decide +kernel
theorem dX0_dropUntasted_26 : decode cX0_dropUntasted 26 = .ok (.invokevirtual 65, 3) := by decide +kernel
theorem dX0_dropUntasted_29 : decode cX0_dropUntasted 29 = .ok (.ifCond .ne 6, 3) := by decide +kernel
theorem dX0_dropUntasted_32 : decode cX0_dropUntasted 32 = .ok (.goto 18, 3) := by decide +kernel
theorem dX0_dropUntasted_35 : decode cX0_dropUntasted 35 = .ok (.aload_n 0, 1) := by decide +kernel
theorem dX0_dropUntasted_36 : decode cX0_dropUntasted 36 = .ok (.getfield 24, 3) := by decide +kernel
theorem dX0_dropUntasted_39 : decode cX0_dropUntasted 39 = .ok (.iload_n 2, 1) := by decide +kernel
theorem dX0_dropUntasted_40 : decode cX0_dropUntasted 40 = .ok (.aload_n 0, 1) := by decide +kernel
theorem dX0_dropUntasted_41 : decode cX0_dropUntasted 41 = .ok (.getfield 24, 3) := by decide +kernel
theorem dX0_dropUntasted_44 : decode cX0_dropUntasted 44 = .ok (.iload_n 3, 1) := by decide +kernel
theorem dX0_dropUntasted_45 : decode cX0_dropUntasted 45 = .ok (.iaload, 1) := by decide +kernel
theorem dX0_dropUntasted_46 : decode cX0_dropUntasted 46 = .ok (.iastore, 1) := by decide +kernel
theorem dX0_dropUntasted_47 : decode cX0_dropUntasted 47 = .ok (.iinc 2 1, 3) := by decide +kernel
theorem dX0_dropUntasted_50 : decode cX0_dropUntasted 50 = .ok (.iinc 3 1, 3) := by decide +kernel
theorem dX0_dropUntasted_53 : decode cX0_dropUntasted 53 = .ok (.goto (-49), 3) := by decide +kernel
theorem dX0_dropUntasted_56 : decode cX0_dropUntasted 56 = .ok (.aload_n 0, 1) := by decide +kernel
theorem dX0_dropUntasted_57 : decode cX0_dropUntasted 57 = .ok (.iload_n 2, 1) := by decide +kernel
theorem dX0_dropUntasted_58 : decode cX0_dropUntasted 58 = .ok (.putfield 38, 3) := by decide +kernel
theorem dX0_dropUntasted_61 : decode cX0_dropUntasted 61 = .ok (.return_, 1) := by decide +kernel
set_option maxRecDepth 20000 in
theorem ggX0_isAsTasted_X0_cupOn : GoodIn wsX0_isAsTasted wsX0_cupOn := goodIn_r _ [7] (by decide +kernel) (by decide +kernel)
set_option maxRecDepth 20000 in
theorem gX0_isAsTasted_X0_cupOn : GoodIn wsX0_isAsTasted (va_wsS RX0 62 yX0_cupOn wsX0_cupOn) := goodIn_app (goodIn_of _ (by decide +kernel)) ggX0_isAsTasted_X0_cupOn
theorem dX0_isAsTasted_0 : decode cX0_isAsTasted 0 = .ok (.iconst 0, 1) := by decide +kernel
theorem dX0_isAsTasted_1 : decode cX0_isAsTasted 1 = .ok (.istore_n 3, 1) := by decide +kernel
theorem dX0_isAsTasted_2 : decode cX0_isAsTasted 2 = .ok (.iload_n 3, 1) := by decide +kernel
theorem dX0_isAsTasted_3 : decode cX0_isAsTasted 3 = .ok (.aload_n 0, 1) := by decide +kernel
theorem dX0_isAsTasted_4 : decode cX0_isAsTasted 4 = .ok (.getfield 31, 3) := by decide +kernel
theorem dX0_isAsTasted_7 : decode cX0_isAsTasted 7 = .ok (.if_icmp .ge 46, 3) := by decide +kernel
theorem dX0_isAsTasted_10 : decode cX0_isAsTasted 10 = .ok (.iload_n 3, 1) := by decide +kernel
theorem dX0_isAsTasted_11 : decode cX0_isAsTasted 11 = .ok (.bipush 6, 2) := by decide +kernel
theorem dX0_isAsTasted_13 : decode cX0_isAsTasted 13 = .ok (.if_icmp .ge 40, 3) := by decide +kernel
theorem dX0_isAsTasted_16 : decode cX0_isAsTasted 16 = .ok (.aload_n 0, 1) := by decide +kernel
theorem dX0_isAsTasted_17 : decode cX0_isAsTasted 17 = .ok (.getfield 18, 3) := by decide +kernel
theorem dX0_isAsTasted_20 : decode cX0_isAsTasted 20 = .ok (.iload_n 3, 1) := by decide +kernel
theorem dX0_isAsTasted_21 : decode cX0_isAsTasted 21 = .ok (.iaload, 1) := by decide +kernel
theorem dX0_isAsTasted_22 : decode cX0_isAsTasted 22 = .ok (.iload_n 2, 1) := by decide +kernel
theorem dX0_isAsTasted_23 : decode cX0_isAsTasted 23 = .ok (.if_icmp .ge 22, 3) := by decide +kernel
theorem dX0_isAsTasted_26 : decode cX0_isAsTasted 26 = .ok (.iload_n 1, 1) := by decide +kernel
theorem dX0_isAsTasted_27 : decode cX0_isAsTasted 27 = .ok (.aload_n 0, 1) := by decide +kernel
theorem dX0_isAsTasted_28 : decode cX0_isAsTasted 28 = .ok (.getfield 18, 3) := by decide +kernel
theorem dX0_isAsTasted_31 : decode cX0_isAsTasted 31 = .ok (.iload_n 3, 1) := by decide +kernel
theorem dX0_isAsTasted_32 : decode cX0_isAsTasted 32 = .ok (.iaload, 1) := by decide +kernel
theorem dX0_isAsTasted_33 : decode cX0_isAsTasted 33 = .ok (.invokestatic 62, 3) := by decide +kernel
theorem dX0_isAsTasted_36 : decode cX0_isAsTasted 36 = .ok (.aload_n 0, 1) := by decide +kernel
theorem dX0_isAsTasted_37 : decode cX0_isAsTasted 37 = .ok (.getfield 21, 3) := by decide +kernel
theorem dX0_isAsTasted_40 : decode cX0_isAsTasted 40 = .ok (.iload_n 3, 1) := by decide +kernel
theorem dX0_isAsTasted_41 : decode cX0_isAsTasted 41 = .ok (.iaload, 1) := by decide +kernel
theorem dX0_isAsTasted_42 : decode cX0_isAsTasted 42 = .ok (.if_icmp .eq 5, 3) := by decide +kernel
theorem dX0_isAsTasted_45 : decode cX0_isAsTasted 45 = .ok (.iconst 0, 1) := by decide +kernel
theorem dX0_isAsTasted_46 : decode cX0_isAsTasted 46 = .ok (.ireturn, 1) := by decide +kernel
theorem dX0_isAsTasted_47 : decode cX0_isAsTasted 47 = .ok (.iinc 3 1, 3) := by decide +kernel
theorem dX0_isAsTasted_50 : decode cX0_isAsTasted 50 = .ok (.goto (-48), 3) := by decide +kernel
theorem dX0_isAsTasted_53 : decode cX0_isAsTasted 53 = .ok (.iconst 1, 1) := by decide +kernel
theorem dX0_isAsTasted_54 : decode cX0_isAsTasted 54 = .ok (.ireturn, 1) := by decide +kernel
set_option maxRecDepth 20000 in
theorem ggX0_surelyOn_X0_cupsOn : GoodIn wsX0_surelyOn wsX0_cupsOn := goodIn_r _ [7, 1, 2, 8, 9, 6, 10, 18, 19, 20, 21, 22, 23, 24, 25] (by decide +kernel) (by decide +kernel)
set_option maxRecDepth 20000 in
theorem gX0_surelyOn_X0_cupsOn : GoodIn wsX0_surelyOn (wsV RX0 69 RX0 yX0_cupsOn wsX0_cupsOn) := goodIn_app (goodIn_of _ (by decide +kernel)) ggX0_surelyOn_X0_cupsOn
set_option maxRecDepth 20000 in
theorem ggX0_surelyOn_J6_bitCount_0f7a4 : GoodIn wsX0_surelyOn wsJ6_bitCount_0f7a4 := goodIn_r _ [14, 15, 16, 17] (by decide +kernel) (by decide +kernel)
set_option maxRecDepth 20000 in
theorem gX0_surelyOn_J6_bitCount_0f7a4 : GoodIn wsX0_surelyOn (va_wsS RX0 72 yJ6_bitCount_0f7a4 wsJ6_bitCount_0f7a4) := goodIn_app (goodIn_of _ (by decide +kernel)) ggX0_surelyOn_J6_bitCount_0f7a4
set_option maxRecDepth 20000 in
theorem ggX0_surelyOn_X0_cupOn : GoodIn wsX0_surelyOn wsX0_cupOn := goodIn_r _ [10] (by decide +kernel) (by decide +kernel)
set_option maxRecDepth 20000 in
theorem gX0_surelyOn_X0_cupOn : GoodIn wsX0_surelyOn (va_wsS RX0 62 yX0_cupOn wsX0_cupOn) := goodIn_app (goodIn_of _ (by decide +kernel)) ggX0_surelyOn_X0_cupOn
theorem dX0_surelyOn_0 : decode cX0_surelyOn 0 = .ok (.aload_n 0, 1) := by decide +kernel
theorem dX0_surelyOn_1 : decode cX0_surelyOn 1 = .ok (.getfield 38, 3) := by decide +kernel
theorem dX0_surelyOn_4 : decode cX0_surelyOn 4 = .ok (.ifCond .ne 6, 3) := by decide +kernel
theorem dX0_surelyOn_7 : decode cX0_surelyOn 7 = .ok (.bipush (-9), 2) := by decide +kernel
theorem dX0_surelyOn_9 : decode cX0_surelyOn 9 = .ok (.ireturn, 1) := by decide +kernel
theorem dX0_surelyOn_10 : decode cX0_surelyOn 10 = .ok (.aload_n 0, 1) := by decide +kernel
theorem dX0_surelyOn_11 : decode cX0_surelyOn 11 = .ok (.iload_n 1, 1) := by decide +kernel
theorem dX0_surelyOn_12 : decode cX0_surelyOn 12 = .ok (.invokevirtual 69, 3) := by decide +kernel
theorem dX0_surelyOn_15 : decode cX0_surelyOn 15 = .ok (.invokestatic 72, 3) := by decide +kernel
theorem dX0_surelyOn_18 : decode cX0_surelyOn 18 = .ok (.iconst 1, 1) := by decide +kernel
theorem dX0_surelyOn_19 : decode cX0_surelyOn 19 = .ok (.if_icmp .ne 16, 3) := by decide +kernel
theorem dX0_surelyOn_22 : decode cX0_surelyOn 22 = .ok (.aload_n 0, 1) := by decide +kernel
theorem dX0_surelyOn_23 : decode cX0_surelyOn 23 = .ok (.getfield 24, 3) := by decide +kernel
theorem dX0_surelyOn_26 : decode cX0_surelyOn 26 = .ok (.iconst 0, 1) := by decide +kernel
theorem dX0_surelyOn_27 : decode cX0_surelyOn 27 = .ok (.iaload, 1) := by decide +kernel
theorem dX0_surelyOn_28 : decode cX0_surelyOn 28 = .ok (.iload_n 1, 1) := by decide +kernel
theorem dX0_surelyOn_29 : decode cX0_surelyOn 29 = .ok (.invokestatic 62, 3) := by decide +kernel
theorem dX0_surelyOn_32 : decode cX0_surelyOn 32 = .ok (.goto 5, 3) := by decide +kernel
theorem dX0_surelyOn_35 : decode cX0_surelyOn 35 = .ok (.bipush (-5), 2) := by decide +kernel
theorem dX0_surelyOn_37 : decode cX0_surelyOn 37 = .ok (.ireturn, 1) := by decide +kernel
set_option maxRecDepth 20000 in
theorem ggX0_bestTaste_X0_cupsOn : GoodIn wsX0_bestTaste wsX0_cupsOn := goodIn_r _ [5, 6, 7, 8, 9, 4, 10, 18, 19, 20, 21, 22, 23, 24, 25] (by decide +kernel) (by decide +kernel)
set_option maxRecDepth 20000 in
theorem gX0_bestTaste_X0_cupsOn : GoodIn wsX0_bestTaste (wsV RX0 69 RX0 yX0_cupsOn wsX0_cupsOn) := goodIn_app (goodIn_of _ (by decide +kernel)) ggX0_bestTaste_X0_cupsOn
set_option maxRecDepth 20000 in
theorem ggX0_bestTaste_J6_bitCount_0f7a4 : GoodIn wsX0_bestTaste wsJ6_bitCount_0f7a4 := goodIn_r _ [14, 15, 16, 17] (by decide +kernel) (by decide +kernel)
set_option maxRecDepth 20000 in
theorem gX0_bestTaste_J6_bitCount_0f7a4 : GoodIn wsX0_bestTaste (va_wsS RX0 72 yJ6_bitCount_0f7a4 wsJ6_bitCount_0f7a4) := goodIn_app (goodIn_of _ (by decide +kernel)) ggX0_bestTaste_J6_bitCount_0f7a4
theorem dX0_bestTaste_0 : decode cX0_bestTaste 0 = .ok (.bipush (-9), 2) := by decide +kernel
theorem dX0_bestTaste_2 : decode cX0_bestTaste 2 = .ok (.istore_n 2, 1) := by decide +kernel
theorem dX0_bestTaste_3 : decode cX0_bestTaste 3 = .ok (.iconst 1, 1) := by decide +kernel
theorem dX0_bestTaste_4 : decode cX0_bestTaste 4 = .ok (.istore_n 3, 1) := by decide +kernel
theorem dX0_bestTaste_5 : decode cX0_bestTaste 5 = .ok (.iconst 0, 1) := by decide +kernel
theorem dX0_bestTaste_6 : decode cX0_bestTaste 6 = .ok (.istore 4, 2) := by decide +kernel
theorem dX0_bestTaste_8 : decode cX0_bestTaste 8 = .ok (.iload 4, 2) := by decide +kernel
theorem dX0_bestTaste_10 : decode cX0_bestTaste 10 = .ok (.iload_n 1, 1) := by decide +kernel
theorem dX0_bestTaste_11 : decode cX0_bestTaste 11 = .ok (.if_icmp .ge 32, 3) := by decide +kernel
theorem dX0_bestTaste_14 : decode cX0_bestTaste 14 = .ok (.aload_n 0, 1) := by decide +kernel
theorem dX0_bestTaste_15 : decode cX0_bestTaste 15 = .ok (.iload 4, 2) := by decide +kernel
theorem dX0_bestTaste_17 : decode cX0_bestTaste 17 = .ok (.invokevirtual 69, 3) := by decide +kernel
theorem dX0_bestTaste_20 : decode cX0_bestTaste 20 = .ok (.invokestatic 72, 3) := by decide +kernel
theorem dX0_bestTaste_23 : decode cX0_bestTaste 23 = .ok (.istore 5, 2) := by decide +kernel
theorem dX0_bestTaste_25 : decode cX0_bestTaste 25 = .ok (.iload 5, 2) := by decide +kernel
theorem dX0_bestTaste_27 : decode cX0_bestTaste 27 = .ok (.iload_n 3, 1) := by decide +kernel
theorem dX0_bestTaste_28 : decode cX0_bestTaste 28 = .ok (.if_icmp .le 9, 3) := by decide +kernel
theorem dX0_bestTaste_31 : decode cX0_bestTaste 31 = .ok (.iload 5, 2) := by decide +kernel
theorem dX0_bestTaste_33 : decode cX0_bestTaste 33 = .ok (.istore_n 3, 1) := by decide +kernel
theorem dX0_bestTaste_34 : decode cX0_bestTaste 34 = .ok (.iload 4, 2) := by decide +kernel
theorem dX0_bestTaste_36 : decode cX0_bestTaste 36 = .ok (.istore_n 2, 1) := by decide +kernel
theorem dX0_bestTaste_37 : decode cX0_bestTaste 37 = .ok (.iinc 4 1, 3) := by decide +kernel
theorem dX0_bestTaste_40 : decode cX0_bestTaste 40 = .ok (.goto (-32), 3) := by decide +kernel
theorem dX0_bestTaste_43 : decode cX0_bestTaste 43 = .ok (.iload_n 2, 1) := by decide +kernel
theorem dX0_bestTaste_44 : decode cX0_bestTaste 44 = .ok (.ireturn, 1) := by decide +kernel
set_option maxRecDepth 20000 in
theorem ggX0_cupsOn_X0_cupOn : GoodIn wsX0_cupsOn wsX0_cupOn := goodIn_r _ [6] (by decide +kernel) (by decide +kernel)
set_option maxRecDepth 20000 in
theorem gX0_cupsOn_X0_cupOn : GoodIn wsX0_cupsOn (va_wsS RX0 62 yX0_cupOn wsX0_cupOn) := goodIn_app (goodIn_of _ (by decide +kernel)) ggX0_cupsOn_X0_cupOn
theorem dX0_cupsOn_0 : decode cX0_cupsOn 0 = .ok (.iconst 0, 1) := by decide +kernel
theorem dX0_cupsOn_1 : decode cX0_cupsOn 1 = .ok (.istore_n 2, 1) := by decide +kernel
theorem dX0_cupsOn_2 : decode cX0_cupsOn 2 = .ok (.iconst 0, 1) := by decide +kernel
theorem dX0_cupsOn_3 : decode cX0_cupsOn 3 = .ok (.istore_n 3, 1) := by decide +kernel
theorem dX0_cupsOn_4 : decode cX0_cupsOn 4 = .ok (.iload_n 3, 1) := by decide +kernel
theorem dX0_cupsOn_5 : decode cX0_cupsOn 5 = .ok (.aload_n 0, 1) := by decide +kernel
theorem dX0_cupsOn_6 : decode cX0_cupsOn 6 = .ok (.getfield 38, 3) := by decide +kernel
theorem dX0_cupsOn_9 : decode cX0_cupsOn 9 = .ok (.if_icmp .ge 30, 3) := by decide +kernel
theorem dX0_cupsOn_12 : decode cX0_cupsOn 12 = .ok (.iload_n 3, 1) := by decide +kernel
theorem dX0_cupsOn_13 : decode cX0_cupsOn 13 = .ok (.bipush 64, 2) := by decide +kernel
theorem dX0_cupsOn_15 : decode cX0_cupsOn 15 = .ok (.if_icmp .ge 24, 3) := by decide +kernel
theorem dX0_cupsOn_18 : decode cX0_cupsOn 18 = .ok (.iload_n 2, 1) := by decide +kernel
theorem dX0_cupsOn_19 : decode cX0_cupsOn 19 = .ok (.iconst 1, 1) := by decide +kernel
theorem dX0_cupsOn_20 : decode cX0_cupsOn 20 = .ok (.aload_n 0, 1) := by decide +kernel
theorem dX0_cupsOn_21 : decode cX0_cupsOn 21 = .ok (.getfield 24, 3) := by decide +kernel
theorem dX0_cupsOn_24 : decode cX0_cupsOn 24 = .ok (.iload_n 3, 1) := by decide +kernel
theorem dX0_cupsOn_25 : decode cX0_cupsOn 25 = .ok (.iaload, 1) := by decide +kernel
theorem dX0_cupsOn_26 : decode cX0_cupsOn 26 = .ok (.iload_n 1, 1) := by decide +kernel
theorem dX0_cupsOn_27 : decode cX0_cupsOn 27 = .ok (.invokestatic 62, 3) := by decide +kernel
theorem dX0_cupsOn_30 : decode cX0_cupsOn 30 = .ok (.ishl, 1) := by decide +kernel
theorem dX0_cupsOn_31 : decode cX0_cupsOn 31 = .ok (.ior, 1) := by decide +kernel
theorem dX0_cupsOn_32 : decode cX0_cupsOn 32 = .ok (.istore_n 2, 1) := by decide +kernel
theorem dX0_cupsOn_33 : decode cX0_cupsOn 33 = .ok (.iinc 3 1, 3) := by decide +kernel
theorem dX0_cupsOn_36 : decode cX0_cupsOn 36 = .ok (.goto (-32), 3) := by decide +kernel
theorem dX0_cupsOn_39 : decode cX0_cupsOn 39 = .ok (.iload_n 2, 1) := by decide +kernel
theorem dX0_cupsOn_40 : decode cX0_cupsOn 40 = .ok (.ireturn, 1) := by decide +kernel
theorem dX0_cupOn_0 : decode cX0_cupOn 0 = .ok (.iload_n 0, 1) := by decide +kernel
theorem dX0_cupOn_1 : decode cX0_cupOn 1 = .ok (.iconst 3, 1) := by decide +kernel
theorem dX0_cupOn_2 : decode cX0_cupOn 2 = .ok (.iload_n 1, 1) := by decide +kernel
theorem dX0_cupOn_3 : decode cX0_cupOn 3 = .ok (.imul, 1) := by decide +kernel
theorem dX0_cupOn_4 : decode cX0_cupOn 4 = .ok (.ishr, 1) := by decide +kernel
theorem dX0_cupOn_5 : decode cX0_cupOn 5 = .ok (.bipush 7, 2) := by decide +kernel
theorem dX0_cupOn_7 : decode cX0_cupOn 7 = .ok (.iand, 1) := by decide +kernel
theorem dX0_cupOn_8 : decode cX0_cupOn 8 = .ok (.ireturn, 1) := by decide +kernel
theorem dX1_init_0 : decode cX1_init 0 = .ok (.aload_n 0, 1) := by decide +kernel
theorem dX1_init_1 : decode cX1_init 1 = .ok (.invokespecial 3, 3) := by decide +kernel
theorem dX1_init_4 : decode cX1_init 4 = .ok (.aload_n 0, 1) := by decide +kernel
theorem dX1_init_5 : decode cX1_init 5 = .ok (.aload_n 1, 1) := by decide +kernel
theorem dX1_init_6 : decode cX1_init 6 = .ok (.putfield 9, 3) := by decide +kernel
theorem dX1_init_9 : decode cX1_init 9 = .ok (.aload_n 0, 1) := by decide +kernel
theorem dX1_init_10 : decode cX1_init 10 = .ok (.aload_n 2, 1) := by decide +kernel
theorem dX1_init_11 : decode cX1_init 11 = .ok (.putfield 15, 3) := by decide +kernel
theorem dX1_init_14 : decode cX1_init 14 = .ok (.return_, 1) := by decide +kernel
set_option maxRecDepth 20000 in
theorem ggX1_readTale_X4_forgetAll : GoodIn wsX1_readTale wsX4_forgetAll := goodIn_r _ [16, 17, 18, 19, 20, 127, 128, 129, 130, 131, 132, 133, 134, 135, 136, 137, 138, 139] (by decide +kernel) (by decide +kernel)
set_option maxRecDepth 20000 in
theorem gX1_readTale_X4_forgetAll : GoodIn wsX1_readTale (wsV RX1 19 RX4 yX4_forgetAll wsX4_forgetAll) := goodIn_app (goodIn_of _ (by decide +kernel)) ggX1_readTale_X4_forgetAll
set_option maxRecDepth 20000 in
theorem ggX1_readTale_X1_readToken : GoodIn wsX1_readTale wsX1_readToken := goodIn_r _ [25, 8, 7, 2, 11, 10, 26, 27, 28, 24, 29, 30, 31, 32, 119, 120, 121, 122, 123, 124, 125, 126] (by decide +kernel) (by decide +kernel)
set_option maxRecDepth 20000 in
theorem gX1_readTale_X1_readToken : GoodIn wsX1_readTale (wsV RX1 41 RX1 yX1_readToken wsX1_readToken) := goodIn_app (goodIn_of _ (by decide +kernel)) ggX1_readTale_X1_readToken
set_option maxRecDepth 20000 in
theorem ggX1_readTale_X1_readsItem : GoodIn wsX1_readTale wsX1_readsItem := goodIn_r _ [36, 10, 26, 1, 37, 38, 39, 15, 40, 17, 41, 42, 43, 44, 45, 46, 47, 48, 49, 24, 50, 51, 52, 53, 54, 55, 21, 22, 23, 25, 8, 7, 2, 11, 27, 28, 29, 30, 31, 32, 56, 57, 58, 59, 60, 61, 62, 63, 64, 65, 66, 67, 18, 68, 69, 70, 71, 72, 73, 74, 75, 76, 77, 78, 79, 80, 81, 19, 82, 83, 84, 85, 86, 87, 88, 89, 90, 91, 92, 93, 94, 95, 96, 97, 98, 99, 100, 101, 102, 103, 104, 105, 106, 107, 108, 109, 110, 111, 112, 113, 9, 114, 119, 120, 121, 122, 123, 124, 125, 126, 127, 128, 129, 130, 131, 132, 133, 134, 135, 136, 137, 138, 139] (by decide +kernel) (by decide +kernel)
set_option maxRecDepth 20000 in
theorem gX1_readTale_X1_readsItem : GoodIn wsX1_readTale (wsV RX1 47 RX1 yX1_readsItem wsX1_readsItem) := goodIn_app (goodIn_of _ (by decide +kernel)) ggX1_readTale_X1_readsItem
set_option maxRecDepth 20000 in
theorem ggX1_readTale_X1_readsStop : GoodIn wsX1_readTale wsX1_readsStop := goodIn_r _ [118, 10, 21, 22, 23, 24, 25, 8, 7, 2, 11, 26, 27, 28, 29, 30, 31, 32, 119, 120, 121, 122, 123, 124, 125, 126] (by decide +kernel) (by decide +kernel)
set_option maxRecDepth 20000 in
theorem gX1_readTale_X1_readsStop : GoodIn wsX1_readTale (wsV RX1 51 RX1 yX1_readsStop wsX1_readsStop) := goodIn_app (goodIn_of _ (by decide +kernel)) ggX1_readTale_X1_readsStop
theorem dX1_readTale_0 : decode cX1_readTale 0 = .ok (.aload_n 0, 1) := by decide +kernel
theorem dX1_readTale_1 : decode cX1_readTale 1 = .ok (.getfield 15, 3) := by decide +kernel
theorem dX1_readTale_4 : decode cX1_readTale 4 = .ok (.invokevirtual 19, 3) := by decide +kernel
theorem dX1_readTale_7 : decode cX1_readTale 7 = .ok (.aload_n 0, 1) := by decide +kernel
theorem dX1_readTale_8 : decode cX1_readTale 8 = .ok (.iload_n 1, 1) := by decide +kernel
theorem dX1_readTale_9 : decode cX1_readTale 9 = .ok (.aload_n 0, 1) := by decide +kernel
theorem dX1_readTale_10 : decode cX1_readTale 10 = .ok (.getfield 9, 3) := by decide +kernel
theorem dX1_readTale_13 : decode cX1_readTale 13 = .ok (.arraylength, 1) := by decide +kernel
theorem dX1_readTale_14 : decode cX1_readTale 14 = .ok (.invokestatic 24, 3) := by decide +kernel
theorem dX1_readTale_17 : decode cX1_readTale 17 = .ok (.putfield 30, 3) := by decide +kernel
theorem dX1_readTale_20 : decode cX1_readTale 20 = .ok (.aload_n 0, 1) := by decide +kernel
theorem dX1_readTale_21 : decode cX1_readTale 21 = .ok (.iconst 0, 1) := by decide +kernel
theorem dX1_readTale_22 : decode cX1_readTale 22 = .ok (.putfield 34, 3) := by decide +kernel
theorem dX1_readTale_25 : decode cX1_readTale 25 = .ok (.aload_n 0, 1) := by decide +kernel
theorem dX1_readTale_26 : decode cX1_readTale 26 = .ok (.iconst 0, 1) := by decide +kernel
theorem dX1_readTale_27 : decode cX1_readTale 27 = .ok (.putfield 37, 3) := by decide +kernel
theorem dX1_readTale_30 : decode cX1_readTale 30 = .ok (.iconst 0, 1) := by decide +kernel
theorem dX1_readTale_31 : decode cX1_readTale 31 = .ok (.istore_n 2, 1) := by decide +kernel
theorem dX1_readTale_32 : decode cX1_readTale 32 = .ok (.iload_n 2, 1) := by decide +kernel
theorem dX1_readTale_33 : decode cX1_readTale 33 = .ok (.sipush 200, 3) := by decide +kernel
theorem dX1_readTale_36 : decode cX1_readTale 36 = .ok (.if_icmp .gt 44, 3) := by decide +kernel
theorem dX1_readTale_39 : decode cX1_readTale 39 = .ok (.aload_n 0, 1) := by decide +kernel
theorem dX1_readTale_40 : decode cX1_readTale 40 = .ok (.invokevirtual 41, 3) := by decide +kernel
theorem dX1_readTale_43 : decode cX1_readTale 43 = .ok (.aload_n 0, 1) := by decide +kernel
theorem dX1_readTale_44 : decode cX1_readTale 44 = .ok (.getfield 44, 3) := by decide +kernel
theorem dX1_readTale_47 : decode cX1_readTale 47 = .ok (.ifCond .ne 5, 3) := by decide +kernel
theorem dX1_readTale_50 : decode cX1_readTale 50 = .ok (.iload_n 2, 1) := by decide +kernel
theorem dX1_readTale_51 : decode cX1_readTale 51 = .ok (.ireturn, 1) := by decide +kernel
theorem dX1_readTale_52 : decode cX1_readTale 52 = .ok (.aload_n 0, 1) := by decide +kernel
theorem dX1_readTale_53 : decode cX1_readTale 53 = .ok (.invokevirtual 47, 3) := by decide +kernel
theorem dX1_readTale_56 : decode cX1_readTale 56 = .ok (.ifCond .eq 10, 3) := by decide +kernel
theorem dX1_readTale_59 : decode cX1_readTale 59 = .ok (.aload_n 0, 1) := by decide +kernel
theorem dX1_readTale_60 : decode cX1_readTale 60 = .ok (.invokevirtual 51, 3) := by decide +kernel
theorem dX1_readTale_63 : decode cX1_readTale 63 = .ok (.ifCond .ne 11, 3) := by decide +kernel
theorem dX1_readTale_66 : decode cX1_readTale 66 = .ok (.bipush (-10), 2) := by decide +kernel
theorem dX1_readTale_68 : decode cX1_readTale 68 = .ok (.aload_n 0, 1) := by decide +kernel
theorem dX1_readTale_69 : decode cX1_readTale 69 = .ok (.getfield 54, 3) := by decide +kernel
theorem dX1_readTale_72 : decode cX1_readTale 72 = .ok (.isub, 1) := by decide +kernel
theorem dX1_readTale_73 : decode cX1_readTale 73 = .ok (.ireturn, 1) := by decide +kernel
theorem dX1_readTale_74 : decode cX1_readTale 74 = .ok (.iinc 2 1, 3) := by decide +kernel
theorem dX1_readTale_77 : decode cX1_readTale 77 = .ok (.goto (-45), 3) := by decide +kernel
theorem dX1_readTale_80 : decode cX1_readTale 80 = .ok (.bipush (-10), 2) := by decide +kernel
theorem dX1_readTale_82 : decode cX1_readTale 82 = .ok (.aload_n 0, 1) := by decide +kernel
theorem dX1_readTale_83 : decode cX1_readTale 83 = .ok (.getfield 30, 3) := by decide +kernel
theorem dX1_readTale_86 : decode cX1_readTale 86 = .ok (.isub, 1) := by decide +kernel
theorem dX1_readTale_87 : decode cX1_readTale 87 = .ok (.ireturn, 1) := by decide +kernel
set_option maxRecDepth 20000 in
theorem ggX1_readsItem_X4_addPlace : GoodIn wsX1_readsItem wsX4_addPlace := goodIn_r _ [8, 9, 10, 11, 12, 13, 14, 15, 110, 111, 112, 113, 114, 115, 116, 117, 118, 119, 120, 121, 122] (by decide +kernel) (by decide +kernel)
set_option maxRecDepth 20000 in
theorem gX1_readsItem_X4_addPlace : GoodIn wsX1_readsItem (wsV RX1 60 RX4 yX4_addPlace wsX4_addPlace) := goodIn_app (goodIn_of _ (by decide +kernel)) ggX1_readsItem_X4_addPlace
set_option maxRecDepth 20000 in
theorem ggX1_readsItem_X1_readsRoad : GoodIn wsX1_readsItem wsX1_readsRoad := goodIn_r _ [20, 3, 21, 2, 22, 23, 24, 19, 25, 1, 26, 27, 28, 29, 30, 31, 32, 33, 34, 35, 36, 37, 38, 39, 40, 41, 42, 7, 43, 9, 44, 45, 46, 47, 13, 14, 15, 48, 49, 50, 51, 52, 53, 54, 55, 102, 103, 104, 105, 106, 107, 108, 109, 110, 111, 112, 113, 114, 115, 116, 117, 118, 119, 120, 121, 122] (by decide +kernel) (by decide +kernel)
set_option maxRecDepth 20000 in
theorem gX1_readsItem_X1_readsRoad : GoodIn wsX1_readsItem (wsV RX1 63 RX1 yX1_readsRoad wsX1_readsRoad) := goodIn_app (goodIn_of _ (by decide +kernel)) ggX1_readsItem_X1_readsRoad
set_option maxRecDepth 20000 in
theorem ggX1_readsItem_X1_readsHost : GoodIn wsX1_readsItem wsX1_readsHost := goodIn_r _ [59, 3, 60, 2, 22, 23, 24, 19, 25, 1, 26, 27, 28, 29, 30, 31, 32, 33, 34, 35, 36, 37, 38, 39, 40, 41, 42, 7, 43, 9, 44, 45, 46, 47, 13, 14, 15, 61, 62, 63, 64, 65, 66, 67, 68, 69, 70, 102, 103, 104, 105, 106, 107, 108, 109, 110, 111, 112, 113, 114, 115, 116, 117, 118, 119, 120, 121, 122] (by decide +kernel) (by decide +kernel)
set_option maxRecDepth 20000 in
theorem gX1_readsItem_X1_readsHost : GoodIn wsX1_readsItem (wsV RX1 66 RX1 yX1_readsHost wsX1_readsHost) := goodIn_app (goodIn_of _ (by decide +kernel)) ggX1_readsItem_X1_readsHost
set_option maxRecDepth 20000 in
theorem ggX1_readsItem_X1_readsLion : GoodIn wsX1_readsItem wsX1_readsLion := goodIn_r _ [74, 2, 3, 22, 23, 24, 19, 25, 1, 26, 27, 28, 29, 30, 31, 32, 33, 34, 35, 36, 37, 38, 39, 40, 41, 42, 7, 43, 9, 75, 76, 77, 78, 10, 79, 44, 45, 46, 47, 13, 14, 15, 80, 81, 82, 83, 102, 103, 104, 105, 106, 107, 108, 109, 110, 111, 112, 113, 114, 115, 116, 117, 118, 119, 120, 121, 122] (by decide +kernel) (by decide +kernel)
set_option maxRecDepth 20000 in
theorem gX1_readsItem_X1_readsLion : GoodIn wsX1_readsItem (wsV RX1 69 RX1 yX1_readsLion wsX1_readsLion) := goodIn_app (goodIn_of _ (by decide +kernel)) ggX1_readsItem_X1_readsLion
set_option maxRecDepth 20000 in
theorem ggX1_readsItem_X1_readsGate : GoodIn wsX1_readsItem wsX1_readsGate := goodIn_r _ [87, 2, 3, 22, 23, 24, 19, 25, 1, 26, 27, 28, 29, 30, 31, 32, 33, 34, 35, 36, 37, 38, 39, 40, 41, 42, 7, 43, 9, 88, 89, 90, 91, 11, 79, 44, 45, 46, 47, 13, 14, 15, 92, 93, 94, 95, 12, 102, 103, 104, 105, 106, 107, 108, 109, 110, 111, 112, 113, 114, 115, 116, 117, 118, 119, 120, 121, 122] (by decide +kernel) (by decide +kernel)
set_option maxRecDepth 20000 in
theorem gX1_readsItem_X1_readsGate : GoodIn wsX1_readsItem (wsV RX1 72 RX1 yX1_readsGate wsX1_readsGate) := goodIn_app (goodIn_of _ (by decide +kernel)) ggX1_readsItem_X1_readsGate
set_option maxRecDepth 20000 in
theorem ggX1_readsItem_X1_readsOff : GoodIn wsX1_readsItem wsX1_readsOff := goodIn_r _ [99, 100, 3, 2, 101, 44, 45, 46, 19, 47, 1, 26, 27, 28, 29, 30, 31, 32, 33, 34, 35, 36, 37, 38, 39, 13, 14, 15, 102, 103, 104, 105, 106, 107, 108, 109, 110, 111, 112, 113, 114, 115, 116, 117, 118, 119, 120, 121, 122] (by decide +kernel) (by decide +kernel)
set_option maxRecDepth 20000 in
theorem gX1_readsItem_X1_readsOff : GoodIn wsX1_readsItem (wsV RX1 75 RX1 yX1_readsOff wsX1_readsOff) := goodIn_app (goodIn_of _ (by decide +kernel)) ggX1_readsItem_X1_readsOff
theorem dX1_readsItem_0 : decode cX1_readsItem 0 = .ok (.aload_n 0, 1) := by decide +kernel
theorem dX1_readsItem_1 : decode cX1_readsItem 1 = .ok (.getfield 44, 3) := by decide +kernel
theorem dX1_readsItem_4 : decode cX1_readsItem 4 = .ok (.iconst 1, 1) := by decide +kernel
theorem dX1_readsItem_5 : decode cX1_readsItem 5 = .ok (.if_icmp .eq 5, 3) := by decide +kernel
theorem dX1_readsItem_8 : decode cX1_readsItem 8 = .ok (.iconst 0, 1) := by decide +kernel
theorem dX1_readsItem_9 : decode cX1_readsItem 9 = .ok (.ireturn, 1) := by decide +kernel
theorem dX1_readsItem_10 : decode cX1_readsItem 10 = .ok (.aload_n 0, 1) := by decide +kernel
theorem dX1_readsItem_11 : decode cX1_readsItem 11 = .ok (.getfield 57, 3) := by decide +kernel
theorem dX1_readsItem_14 : decode cX1_readsItem 14 = .ok (.tableswitch 95 103 114 #[85, 75, 95, 95, 95, 80, 95, 95, 90, 62, 95, 70], 62) := by decide +kernel
theorem dX1_readsItem_76 : decode cX1_readsItem 76 = .ok (.aload_n 0, 1) := by decide +kernel
theorem dX1_readsItem_77 : decode cX1_readsItem 77 = .ok (.getfield 15, 3) := by decide +kernel
theorem dX1_readsItem_80 : decode cX1_readsItem 80 = .ok (.invokevirtual 60, 3) := by decide +kernel
theorem dX1_readsItem_83 : decode cX1_readsItem 83 = .ok (.ireturn, 1) := by decide +kernel
theorem dX1_readsItem_84 : decode cX1_readsItem 84 = .ok (.aload_n 0, 1) := by decide +kernel
theorem dX1_readsItem_85 : decode cX1_readsItem 85 = .ok (.invokevirtual 63, 3) := by decide +kernel
theorem dX1_readsItem_88 : decode cX1_readsItem 88 = .ok (.ireturn, 1) := by decide +kernel
theorem dX1_readsItem_89 : decode cX1_readsItem 89 = .ok (.aload_n 0, 1) := by decide +kernel
theorem dX1_readsItem_90 : decode cX1_readsItem 90 = .ok (.invokevirtual 66, 3) := by decide +kernel
theorem dX1_readsItem_93 : decode cX1_readsItem 93 = .ok (.ireturn, 1) := by decide +kernel
theorem dX1_readsItem_94 : decode cX1_readsItem 94 = .ok (.aload_n 0, 1) := by decide +kernel
theorem dX1_readsItem_95 : decode cX1_readsItem 95 = .ok (.invokevirtual 69, 3) := by decide +kernel
theorem dX1_readsItem_98 : decode cX1_readsItem 98 = .ok (.ireturn, 1) := by decide +kernel
theorem dX1_readsItem_99 : decode cX1_readsItem 99 = .ok (.aload_n 0, 1) := by decide +kernel
theorem dX1_readsItem_100 : decode cX1_readsItem 100 = .ok (.invokevirtual 72, 3) := by decide +kernel
theorem dX1_readsItem_103 : decode cX1_readsItem 103 = .ok (.ireturn, 1) := by decide +kernel
theorem dX1_readsItem_104 : decode cX1_readsItem 104 = .ok (.aload_n 0, 1) := by decide +kernel
theorem dX1_readsItem_105 : decode cX1_readsItem 105 = .ok (.invokevirtual 75, 3) := by decide +kernel
theorem dX1_readsItem_108 : decode cX1_readsItem 108 = .ok (.ireturn, 1) := by decide +kernel
theorem dX1_readsItem_109 : decode cX1_readsItem 109 = .ok (.iconst 0, 1) := by decide +kernel
theorem dX1_readsItem_110 : decode cX1_readsItem 110 = .ok (.ireturn, 1) := by decide +kernel
set_option maxRecDepth 20000 in
theorem ggX1_readsRoad_X1_readsPlace : GoodIn wsX1_readsRoad wsX1_readsPlace := goodIn_r _ [8, 9, 1, 3, 10, 11, 12, 7, 13, 14, 15, 16, 17, 18, 19, 20, 21, 22, 23, 24, 25, 26, 27, 28, 29, 45, 46, 47, 48, 49, 50, 51, 52, 53, 54, 55, 56, 57, 58, 59, 60, 61, 62, 63, 64, 65] (by decide +kernel) (by decide +kernel)
set_option maxRecDepth 20000 in
theorem gX1_readsRoad_X1_readsPlace : GoodIn wsX1_readsRoad (wsV RX1 81 RX1 yX1_readsPlace wsX1_readsPlace) := goodIn_app (goodIn_of _ (by decide +kernel)) ggX1_readsRoad_X1_readsPlace
set_option maxRecDepth 20000 in
theorem ggX1_readsRoad_X1_readsNumber : GoodIn wsX1_readsRoad wsX1_readsNumber := goodIn_r _ [33, 9, 3, 10, 11, 12, 7, 13, 14, 15, 16, 17, 18, 19, 20, 21, 22, 23, 34, 35, 36, 45, 46, 47, 48, 49, 50, 51, 52] (by decide +kernel) (by decide +kernel)
set_option maxRecDepth 20000 in
theorem gX1_readsRoad_X1_readsNumber : GoodIn wsX1_readsRoad (wsV RX1 84 RX1 yX1_readsNumber wsX1_readsNumber) := goodIn_app (goodIn_of _ (by decide +kernel)) ggX1_readsRoad_X1_readsNumber
set_option maxRecDepth 20000 in
theorem ggX1_readsRoad_X4_addRoad : GoodIn wsX1_readsRoad wsX4_addRoad := goodIn_r _ [40, 41, 42, 43, 44, 34, 35, 36, 53, 54, 55, 56, 57, 58, 59, 60, 61, 62, 63, 64, 65] (by decide +kernel) (by decide +kernel)
set_option maxRecDepth 20000 in
theorem gX1_readsRoad_X4_addRoad : GoodIn wsX1_readsRoad (wsV RX1 88 RX4 yX4_addRoad wsX4_addRoad) := goodIn_app (goodIn_of _ (by decide +kernel)) ggX1_readsRoad_X4_addRoad
theorem dX1_readsRoad_0 : decode cX1_readsRoad 0 = .ok (.aload_n 0, 1) := by decide +kernel
theorem dX1_readsRoad_1 : decode cX1_readsRoad 1 = .ok (.getfield 15, 3) := by decide +kernel
theorem dX1_readsRoad_4 : decode cX1_readsRoad 4 = .ok (.getfield 78, 3) := by decide +kernel
theorem dX1_readsRoad_7 : decode cX1_readsRoad 7 = .ok (.bipush 9, 2) := by decide +kernel
theorem dX1_readsRoad_9 : decode cX1_readsRoad 9 = .ok (.if_icmp .ge 10, 3) := by decide +kernel
theorem dX1_readsRoad_12 : decode cX1_readsRoad 12 = .ok (.aload_n 0, 1) := by decide +kernel
theorem dX1_readsRoad_13 : decode cX1_readsRoad 13 = .ok (.invokevirtual 81, 3) := by decide +kernel
theorem dX1_readsRoad_16 : decode cX1_readsRoad 16 = .ok (.ifCond .ne 5, 3) := by decide +kernel
theorem dX1_readsRoad_19 : decode cX1_readsRoad 19 = .ok (.iconst 0, 1) := by decide +kernel
theorem dX1_readsRoad_20 : decode cX1_readsRoad 20 = .ok (.ireturn, 1) := by decide +kernel
theorem dX1_readsRoad_21 : decode cX1_readsRoad 21 = .ok (.aload_n 0, 1) := by decide +kernel
theorem dX1_readsRoad_22 : decode cX1_readsRoad 22 = .ok (.getfield 57, 3) := by decide +kernel
theorem dX1_readsRoad_25 : decode cX1_readsRoad 25 = .ok (.istore_n 1, 1) := by decide +kernel
theorem dX1_readsRoad_26 : decode cX1_readsRoad 26 = .ok (.aload_n 0, 1) := by decide +kernel
theorem dX1_readsRoad_27 : decode cX1_readsRoad 27 = .ok (.invokevirtual 81, 3) := by decide +kernel
theorem dX1_readsRoad_30 : decode cX1_readsRoad 30 = .ok (.ifCond .eq 11, 3) := by decide +kernel
theorem dX1_readsRoad_33 : decode cX1_readsRoad 33 = .ok (.aload_n 0, 1) := by decide +kernel
theorem dX1_readsRoad_34 : decode cX1_readsRoad 34 = .ok (.getfield 57, 3) := by decide +kernel
theorem dX1_readsRoad_37 : decode cX1_readsRoad 37 = .ok (.iload_n 1, 1) := by decide +kernel
theorem dX1_readsRoad_38 : decode cX1_readsRoad 38 = .ok (.if_icmp .ne 5, 3) := by decide +kernel
theorem dX1_readsRoad_41 : decode cX1_readsRoad 41 = .ok (.iconst 0, 1) := by decide +kernel
theorem dX1_readsRoad_42 : decode cX1_readsRoad 42 = .ok (.ireturn, 1) := by decide +kernel
theorem dX1_readsRoad_43 : decode cX1_readsRoad 43 = .ok (.aload_n 0, 1) := by decide +kernel
theorem dX1_readsRoad_44 : decode cX1_readsRoad 44 = .ok (.getfield 57, 3) := by decide +kernel
theorem dX1_readsRoad_47 : decode cX1_readsRoad 47 = .ok (.istore_n 2, 1) := by decide +kernel
theorem dX1_readsRoad_48 : decode cX1_readsRoad 48 = .ok (.aload_n 0, 1) := by decide +kernel
theorem dX1_readsRoad_49 : decode cX1_readsRoad 49 = .ok (.iconst 1, 1) := by decide +kernel
theorem dX1_readsRoad_50 : decode cX1_readsRoad 50 = .ok (.bipush 9, 2) := by decide +kernel
theorem dX1_readsRoad_52 : decode cX1_readsRoad 52 = .ok (.invokevirtual 84, 3) := by decide +kernel
theorem dX1_readsRoad_55 : decode cX1_readsRoad 55 = .ok (.ifCond .eq 23, 3) := by decide +kernel
theorem dX1_readsRoad_58 : decode cX1_readsRoad 58 = .ok (.aload_n 0, 1) := by decide +kernel
theorem dX1_readsRoad_59 : decode cX1_readsRoad 59 = .ok (.getfield 15, 3) := by decide +kernel
theorem dX1_readsRoad_62 : decode cX1_readsRoad 62 = .ok (.iload_n 1, 1) := by decide +kernel
theorem dX1_readsRoad_63 : decode cX1_readsRoad 63 = .ok (.iload_n 2, 1) := by decide +kernel
theorem dX1_readsRoad_64 : decode cX1_readsRoad 64 = .ok (.aload_n 0, 1) := by decide +kernel
theorem dX1_readsRoad_65 : decode cX1_readsRoad 65 = .ok (.getfield 57, 3) := by decide +kernel
theorem dX1_readsRoad_68 : decode cX1_readsRoad 68 = .ok (.invokevirtual 88, 3) := by decide +kernel
theorem dX1_readsRoad_71 : decode cX1_readsRoad 71 = .ok (.ifCond .eq 7, 3) := by decide +kernel
theorem dX1_readsRoad_74 : decode cX1_readsRoad 74 = .ok (.iconst 1, 1) := by decide +kernel
theorem dX1_readsRoad_75 : decode cX1_readsRoad 75 = .ok (.goto 4, 3) := by decide +kernel
theorem dX1_readsRoad_78 : decode cX1_readsRoad 78 = .ok (.iconst 0, 1) := by decide +kernel
theorem dX1_readsRoad_79 : decode cX1_readsRoad 79 = .ok (.ireturn, 1) := by decide +kernel
set_option maxRecDepth 20000 in
theorem ggX1_readsHost_X1_readsPlace : GoodIn wsX1_readsHost wsX1_readsPlace := goodIn_r _ [8, 9, 1, 3, 10, 11, 12, 7, 13, 14, 15, 16, 17, 18, 19, 20, 21, 22, 23, 24, 25, 26, 27, 28, 29, 47, 48, 49, 50, 51, 52, 53, 54, 55, 56, 57, 58, 59, 60, 61, 62, 63, 64, 65, 66, 67] (by decide +kernel) (by decide +kernel)
set_option maxRecDepth 20000 in
theorem gX1_readsHost_X1_readsPlace : GoodIn wsX1_readsHost (wsV RX1 81 RX1 yX1_readsPlace wsX1_readsPlace) := goodIn_app (goodIn_of _ (by decide +kernel)) ggX1_readsHost_X1_readsPlace
set_option maxRecDepth 20000 in
theorem ggX1_readsHost_X1_readsNumber : GoodIn wsX1_readsHost wsX1_readsNumber := goodIn_r _ [33, 9, 3, 10, 11, 12, 7, 13, 14, 15, 16, 17, 18, 19, 20, 21, 22, 23, 34, 35, 36, 47, 48, 49, 50, 51, 52, 53, 54] (by decide +kernel) (by decide +kernel)
set_option maxRecDepth 20000 in
theorem gX1_readsHost_X1_readsNumber : GoodIn wsX1_readsHost (wsV RX1 84 RX1 yX1_readsNumber wsX1_readsNumber) := goodIn_app (goodIn_of _ (by decide +kernel)) ggX1_readsHost_X1_readsNumber
set_option maxRecDepth 20000 in
theorem ggX1_readsHost_X5_isThing : GoodIn wsX1_readsHost wsX5_isThing := goodIn_r _ [38] (by decide +kernel) (by decide +kernel)
set_option maxRecDepth 20000 in
theorem gX1_readsHost_X5_isThing_n95 : GoodIn wsX1_readsHost (wsX5_isThing) := ggX1_readsHost_X5_isThing
set_option maxRecDepth 20000 in
theorem ggX1_readsHost_X4_addHost : GoodIn wsX1_readsHost wsX4_addHost := goodIn_r _ [42, 43, 44, 45, 46, 34, 35, 36, 55, 56, 57, 58, 59, 60, 61, 62, 63, 64, 65, 66, 67] (by decide +kernel) (by decide +kernel)
set_option maxRecDepth 20000 in
theorem gX1_readsHost_X4_addHost : GoodIn wsX1_readsHost (wsV RX1 99 RX4 yX4_addHost wsX4_addHost) := goodIn_app (goodIn_of _ (by decide +kernel)) ggX1_readsHost_X4_addHost
theorem dX1_readsHost_0 : decode cX1_readsHost 0 = .ok (.aload_n 0, 1) := by decide +kernel
theorem dX1_readsHost_1 : decode cX1_readsHost 1 = .ok (.getfield 15, 3) := by decide +kernel
theorem dX1_readsHost_4 : decode cX1_readsHost 4 = .ok (.getfield 92, 3) := by decide +kernel
theorem dX1_readsHost_7 : decode cX1_readsHost 7 = .ok (.bipush 6, 2) := by decide +kernel
theorem dX1_readsHost_9 : decode cX1_readsHost 9 = .ok (.if_icmp .ge 10, 3) := by decide +kernel
theorem dX1_readsHost_12 : decode cX1_readsHost 12 = .ok (.aload_n 0, 1) := by decide +kernel
theorem dX1_readsHost_13 : decode cX1_readsHost 13 = .ok (.invokevirtual 81, 3) := by decide +kernel
theorem dX1_readsHost_16 : decode cX1_readsHost 16 = .ok (.ifCond .ne 5, 3) := by decide +kernel
theorem dX1_readsHost_19 : decode cX1_readsHost 19 = .ok (.iconst 0, 1) := by decide +kernel
theorem dX1_readsHost_20 : decode cX1_readsHost 20 = .ok (.ireturn, 1) := by decide +kernel
theorem dX1_readsHost_21 : decode cX1_readsHost 21 = .ok (.aload_n 0, 1) := by decide +kernel
theorem dX1_readsHost_22 : decode cX1_readsHost 22 = .ok (.getfield 57, 3) := by decide +kernel
theorem dX1_readsHost_25 : decode cX1_readsHost 25 = .ok (.istore_n 1, 1) := by decide +kernel
theorem dX1_readsHost_26 : decode cX1_readsHost 26 = .ok (.aload_n 0, 1) := by decide +kernel
theorem dX1_readsHost_27 : decode cX1_readsHost 27 = .ok (.iconst 0, 1) := by decide +kernel
theorem dX1_readsHost_28 : decode cX1_readsHost 28 = .ok (.iconst 4, 1) := by decide +kernel
theorem dX1_readsHost_29 : decode cX1_readsHost 29 = .ok (.invokevirtual 84, 3) := by decide +kernel
theorem dX1_readsHost_32 : decode cX1_readsHost 32 = .ok (.ifCond .ne 5, 3) := by decide +kernel
theorem dX1_readsHost_35 : decode cX1_readsHost 35 = .ok (.iconst 0, 1) := by decide +kernel
theorem dX1_readsHost_36 : decode cX1_readsHost 36 = .ok (.ireturn, 1) := by decide +kernel
theorem dX1_readsHost_37 : decode cX1_readsHost 37 = .ok (.aload_n 0, 1) := by decide +kernel
theorem dX1_readsHost_38 : decode cX1_readsHost 38 = .ok (.getfield 57, 3) := by decide +kernel
theorem dX1_readsHost_41 : decode cX1_readsHost 41 = .ok (.istore_n 2, 1) := by decide +kernel
theorem dX1_readsHost_42 : decode cX1_readsHost 42 = .ok (.aload_n 0, 1) := by decide +kernel
theorem dX1_readsHost_43 : decode cX1_readsHost 43 = .ok (.iconst 0, 1) := by decide +kernel
theorem dX1_readsHost_44 : decode cX1_readsHost 44 = .ok (.bipush 9, 2) := by decide +kernel
theorem dX1_readsHost_46 : decode cX1_readsHost 46 = .ok (.invokevirtual 84, 3) := by decide +kernel
theorem dX1_readsHost_49 : decode cX1_readsHost 49 = .ok (.ifCond .ne 5, 3) := by decide +kernel
theorem dX1_readsHost_52 : decode cX1_readsHost 52 = .ok (.iconst 0, 1) := by decide +kernel
theorem dX1_readsHost_53 : decode cX1_readsHost 53 = .ok (.ireturn, 1) := by decide +kernel
theorem dX1_readsHost_54 : decode cX1_readsHost 54 = .ok (.aload_n 0, 1) := by decide +kernel
theorem dX1_readsHost_55 : decode cX1_readsHost 55 = .ok (.getfield 57, 3) := by decide +kernel
theorem dX1_readsHost_58 : decode cX1_readsHost 58 = .ok (.invokestatic 95, 3) := by decide +kernel
theorem dX1_readsHost_61 : decode cX1_readsHost 61 = .ok (.ifCond .ne 12, 3) := by decide +kernel
theorem dX1_readsHost_64 : decode cX1_readsHost 64 = .ok (.aload_n 0, 1) := by decide +kernel
theorem dX1_readsHost_65 : decode cX1_readsHost 65 = .ok (.getfield 57, 3) := by decide +kernel
theorem dX1_readsHost_68 : decode cX1_readsHost 68 = .ok (.bipush 9, 2) := by decide +kernel
theorem dX1_readsHost_70 : decode cX1_readsHost 70 = .ok (.if_icmp .ne 23, 3) := by decide +kernel
theorem dX1_readsHost_73 : decode cX1_readsHost 73 = .ok (.aload_n 0, 1) := by decide +kernel
theorem dX1_readsHost_74 : decode cX1_readsHost 74 = .ok (.getfield 15, 3) := by decide +kernel
theorem dX1_readsHost_77 : decode cX1_readsHost 77 = .ok (.iload_n 1, 1) := by decide +kernel
theorem dX1_readsHost_78 : decode cX1_readsHost 78 = .ok (.iload_n 2, 1) := by decide +kernel
theorem dX1_readsHost_79 : decode cX1_readsHost 79 = .ok (.aload_n 0, 1) := by decide +kernel
theorem dX1_readsHost_80 : decode cX1_readsHost 80 = .ok (.getfield 57, 3) := by decide +kernel
theorem dX1_readsHost_83 : decode cX1_readsHost 83 = .ok (.invokevirtual 99, 3) := by decide +kernel
theorem dX1_readsHost_86 : decode cX1_readsHost 86 = .ok (.ifCond .eq 7, 3) := by decide +kernel
theorem dX1_readsHost_89 : decode cX1_readsHost 89 = .ok (.iconst 1, 1) := by decide +kernel
theorem dX1_readsHost_90 : decode cX1_readsHost 90 = .ok (.goto 4, 3) := by decide +kernel
theorem dX1_readsHost_93 : decode cX1_readsHost 93 = .ok (.iconst 0, 1) := by decide +kernel
theorem dX1_readsHost_94 : decode cX1_readsHost 94 = .ok (.ireturn, 1) := by decide +kernel
set_option maxRecDepth 20000 in
theorem ggX1_readsLion_X1_readsPlace : GoodIn wsX1_readsLion wsX1_readsPlace := goodIn_r _ [7, 8, 2, 1, 9, 10, 11, 6, 12, 13, 14, 15, 16, 17, 18, 19, 20, 21, 22, 23, 24, 25, 26, 27, 28, 46, 47, 48, 49, 50, 51, 52, 53, 54, 55, 56, 57, 58, 59, 60, 61, 62, 63, 64, 65, 66] (by decide +kernel) (by decide +kernel)
set_option maxRecDepth 20000 in
theorem gX1_readsLion_X1_readsPlace : GoodIn wsX1_readsLion (wsV RX1 81 RX1 yX1_readsPlace wsX1_readsPlace) := goodIn_app (goodIn_of _ (by decide +kernel)) ggX1_readsLion_X1_readsPlace
set_option maxRecDepth 20000 in
theorem ggX1_readsLion_X4_lionAt : GoodIn wsX1_readsLion wsX4_lionAt := goodIn_r _ [32, 33, 34, 24, 25, 26, 27, 28, 54, 55, 56, 57, 58, 59, 60, 61, 62, 63, 64, 65, 66] (by decide +kernel) (by decide +kernel)
set_option maxRecDepth 20000 in
theorem gX1_readsLion_X4_lionAt : GoodIn wsX1_readsLion (wsV RX1 102 RX4 yX4_lionAt wsX4_lionAt) := goodIn_app (goodIn_of _ (by decide +kernel)) ggX1_readsLion_X4_lionAt
set_option maxRecDepth 20000 in
theorem ggX1_readsLion_X1_readsNumber : GoodIn wsX1_readsLion wsX1_readsNumber := goodIn_r _ [38, 8, 1, 9, 10, 11, 6, 12, 13, 14, 15, 16, 17, 18, 19, 20, 21, 22, 39, 40, 41, 46, 47, 48, 49, 50, 51, 52, 53] (by decide +kernel) (by decide +kernel)
set_option maxRecDepth 20000 in
theorem gX1_readsLion_X1_readsNumber : GoodIn wsX1_readsLion (wsV RX1 84 RX1 yX1_readsNumber wsX1_readsNumber) := goodIn_app (goodIn_of _ (by decide +kernel)) ggX1_readsLion_X1_readsNumber
set_option maxRecDepth 20000 in
theorem ggX1_readsLion_X4_addLion : GoodIn wsX1_readsLion wsX4_addLion := goodIn_r _ [45, 33, 34, 24, 25, 26, 27, 28, 54, 55, 56, 57, 58, 59, 60, 61, 62, 63, 64, 65, 66] (by decide +kernel) (by decide +kernel)
set_option maxRecDepth 20000 in
theorem gX1_readsLion_X4_addLion : GoodIn wsX1_readsLion (wsV RX1 106 RX4 yX4_addLion wsX4_addLion) := goodIn_app (goodIn_of _ (by decide +kernel)) ggX1_readsLion_X4_addLion
theorem dX1_readsLion_0 : decode cX1_readsLion 0 = .ok (.aload_n 0, 1) := by decide +kernel
theorem dX1_readsLion_1 : decode cX1_readsLion 1 = .ok (.invokevirtual 81, 3) := by decide +kernel
theorem dX1_readsLion_4 : decode cX1_readsLion 4 = .ok (.ifCond .eq 26, 3) := by decide +kernel
theorem dX1_readsLion_7 : decode cX1_readsLion 7 = .ok (.aload_n 0, 1) := by decide +kernel
theorem dX1_readsLion_8 : decode cX1_readsLion 8 = .ok (.getfield 57, 3) := by decide +kernel
theorem dX1_readsLion_11 : decode cX1_readsLion 11 = .ok (.ifCond .eq 19, 3) := by decide +kernel
theorem dX1_readsLion_14 : decode cX1_readsLion 14 = .ok (.aload_n 0, 1) := by decide +kernel
theorem dX1_readsLion_15 : decode cX1_readsLion 15 = .ok (.getfield 15, 3) := by decide +kernel
theorem dX1_readsLion_18 : decode cX1_readsLion 18 = .ok (.aload_n 0, 1) := by decide +kernel
theorem dX1_readsLion_19 : decode cX1_readsLion 19 = .ok (.getfield 57, 3) := by decide +kernel
theorem dX1_readsLion_22 : decode cX1_readsLion 22 = .ok (.invokevirtual 102, 3) := by decide +kernel
theorem dX1_readsLion_25 : decode cX1_readsLion 25 = .ok (.bipush 9, 2) := by decide +kernel
theorem dX1_readsLion_27 : decode cX1_readsLion 27 = .ok (.if_icmp .eq 5, 3) := by decide +kernel
theorem dX1_readsLion_30 : decode cX1_readsLion 30 = .ok (.iconst 0, 1) := by decide +kernel
theorem dX1_readsLion_31 : decode cX1_readsLion 31 = .ok (.ireturn, 1) := by decide +kernel
theorem dX1_readsLion_32 : decode cX1_readsLion 32 = .ok (.aload_n 0, 1) := by decide +kernel
theorem dX1_readsLion_33 : decode cX1_readsLion 33 = .ok (.getfield 57, 3) := by decide +kernel
theorem dX1_readsLion_36 : decode cX1_readsLion 36 = .ok (.istore_n 1, 1) := by decide +kernel
theorem dX1_readsLion_37 : decode cX1_readsLion 37 = .ok (.aload_n 0, 1) := by decide +kernel
theorem dX1_readsLion_38 : decode cX1_readsLion 38 = .ok (.iconst 0, 1) := by decide +kernel
theorem dX1_readsLion_39 : decode cX1_readsLion 39 = .ok (.iconst 4, 1) := by decide +kernel
theorem dX1_readsLion_40 : decode cX1_readsLion 40 = .ok (.invokevirtual 84, 3) := by decide +kernel
theorem dX1_readsLion_43 : decode cX1_readsLion 43 = .ok (.ifCond .eq 22, 3) := by decide +kernel
theorem dX1_readsLion_46 : decode cX1_readsLion 46 = .ok (.aload_n 0, 1) := by decide +kernel
theorem dX1_readsLion_47 : decode cX1_readsLion 47 = .ok (.getfield 15, 3) := by decide +kernel
theorem dX1_readsLion_50 : decode cX1_readsLion 50 = .ok (.iload_n 1, 1) := by decide +kernel
theorem dX1_readsLion_51 : decode cX1_readsLion 51 = .ok (.aload_n 0, 1) := by decide +kernel
theorem dX1_readsLion_52 : decode cX1_readsLion 52 = .ok (.getfield 57, 3) := by decide +kernel
theorem dX1_readsLion_55 : decode cX1_readsLion 55 = .ok (.invokevirtual 106, 3) := by decide +kernel
theorem dX1_readsLion_58 : decode cX1_readsLion 58 = .ok (.ifCond .eq 7, 3) := by decide +kernel
theorem dX1_readsLion_61 : decode cX1_readsLion 61 = .ok (.iconst 1, 1) := by decide +kernel
theorem dX1_readsLion_62 : decode cX1_readsLion 62 = .ok (.goto 4, 3) := by decide +kernel
theorem dX1_readsLion_65 : decode cX1_readsLion 65 = .ok (.iconst 0, 1) := by decide +kernel
theorem dX1_readsLion_66 : decode cX1_readsLion 66 = .ok (.ireturn, 1) := by decide +kernel
set_option maxRecDepth 20000 in
theorem ggX1_readsGate_X1_readsPlace : GoodIn wsX1_readsGate wsX1_readsPlace := goodIn_r _ [7, 8, 2, 1, 9, 10, 11, 6, 12, 13, 14, 15, 16, 17, 18, 19, 20, 21, 22, 23, 24, 25, 26, 27, 28, 47, 48, 49, 50, 51, 52, 53, 54, 55, 56, 57, 58, 59, 60, 61, 62, 63, 64, 65, 66, 67] (by decide +kernel) (by decide +kernel)
set_option maxRecDepth 20000 in
theorem gX1_readsGate_X1_readsPlace : GoodIn wsX1_readsGate (wsV RX1 81 RX1 yX1_readsPlace wsX1_readsPlace) := goodIn_app (goodIn_of _ (by decide +kernel)) ggX1_readsGate_X1_readsPlace
set_option maxRecDepth 20000 in
theorem ggX1_readsGate_X4_gateFromAt : GoodIn wsX1_readsGate wsX4_gateFromAt := goodIn_r _ [32, 33, 34, 24, 25, 26, 27, 28, 55, 56, 57, 58, 59, 60, 61, 62, 63, 64, 65, 66, 67] (by decide +kernel) (by decide +kernel)
set_option maxRecDepth 20000 in
theorem gX1_readsGate_X4_gateFromAt : GoodIn wsX1_readsGate (wsV RX1 109 RX4 yX4_gateFromAt wsX4_gateFromAt) := goodIn_app (goodIn_of _ (by decide +kernel)) ggX1_readsGate_X4_gateFromAt
set_option maxRecDepth 20000 in
theorem ggX1_readsGate_X1_readsNumber : GoodIn wsX1_readsGate wsX1_readsNumber := goodIn_r _ [38, 8, 1, 9, 10, 11, 6, 12, 13, 14, 15, 16, 17, 18, 19, 20, 21, 22, 39, 40, 41, 47, 48, 49, 50, 51, 52, 53, 54] (by decide +kernel) (by decide +kernel)
set_option maxRecDepth 20000 in
theorem gX1_readsGate_X1_readsNumber : GoodIn wsX1_readsGate (wsV RX1 84 RX1 yX1_readsNumber wsX1_readsNumber) := goodIn_app (goodIn_of _ (by decide +kernel)) ggX1_readsGate_X1_readsNumber
set_option maxRecDepth 20000 in
theorem ggX1_readsGate_X4_addGate : GoodIn wsX1_readsGate wsX4_addGate := goodIn_r _ [45, 33, 46, 34, 24, 25, 26, 27, 28, 55, 56, 57, 58, 59, 60, 61, 62, 63, 64, 65, 66, 67] (by decide +kernel) (by decide +kernel)
set_option maxRecDepth 20000 in
theorem gX1_readsGate_X4_addGate : GoodIn wsX1_readsGate (wsV RX1 112 RX4 yX4_addGate wsX4_addGate) := goodIn_app (goodIn_of _ (by decide +kernel)) ggX1_readsGate_X4_addGate
theorem dX1_readsGate_0 : decode cX1_readsGate 0 = .ok (.aload_n 0, 1) := by decide +kernel
theorem dX1_readsGate_1 : decode cX1_readsGate 1 = .ok (.invokevirtual 81, 3) := by decide +kernel
theorem dX1_readsGate_4 : decode cX1_readsGate 4 = .ok (.ifCond .eq 26, 3) := by decide +kernel
theorem dX1_readsGate_7 : decode cX1_readsGate 7 = .ok (.aload_n 0, 1) := by decide +kernel
theorem dX1_readsGate_8 : decode cX1_readsGate 8 = .ok (.getfield 57, 3) := by decide +kernel
theorem dX1_readsGate_11 : decode cX1_readsGate 11 = .ok (.ifCond .eq 19, 3) := by decide +kernel
theorem dX1_readsGate_14 : decode cX1_readsGate 14 = .ok (.aload_n 0, 1) := by decide +kernel
theorem dX1_readsGate_15 : decode cX1_readsGate 15 = .ok (.getfield 15, 3) := by decide +kernel
theorem dX1_readsGate_18 : decode cX1_readsGate 18 = .ok (.aload_n 0, 1) := by decide +kernel
theorem dX1_readsGate_19 : decode cX1_readsGate 19 = .ok (.getfield 57, 3) := by decide +kernel
theorem dX1_readsGate_22 : decode cX1_readsGate 22 = .ok (.invokevirtual 109, 3) := by decide +kernel
theorem dX1_readsGate_25 : decode cX1_readsGate 25 = .ok (.bipush (-9), 2) := by decide +kernel
theorem dX1_readsGate_27 : decode cX1_readsGate 27 = .ok (.if_icmp .eq 5, 3) := by decide +kernel
theorem dX1_readsGate_30 : decode cX1_readsGate 30 = .ok (.iconst 0, 1) := by decide +kernel
theorem dX1_readsGate_31 : decode cX1_readsGate 31 = .ok (.ireturn, 1) := by decide +kernel
theorem dX1_readsGate_32 : decode cX1_readsGate 32 = .ok (.aload_n 0, 1) := by decide +kernel
theorem dX1_readsGate_33 : decode cX1_readsGate 33 = .ok (.getfield 57, 3) := by decide +kernel
theorem dX1_readsGate_36 : decode cX1_readsGate 36 = .ok (.istore_n 1, 1) := by decide +kernel
theorem dX1_readsGate_37 : decode cX1_readsGate 37 = .ok (.aload_n 0, 1) := by decide +kernel
theorem dX1_readsGate_38 : decode cX1_readsGate 38 = .ok (.iconst 0, 1) := by decide +kernel
theorem dX1_readsGate_39 : decode cX1_readsGate 39 = .ok (.bipush 23, 2) := by decide +kernel
theorem dX1_readsGate_41 : decode cX1_readsGate 41 = .ok (.invokevirtual 84, 3) := by decide +kernel
theorem dX1_readsGate_44 : decode cX1_readsGate 44 = .ok (.ifCond .ne 5, 3) := by decide +kernel
theorem dX1_readsGate_47 : decode cX1_readsGate 47 = .ok (.iconst 0, 1) := by decide +kernel
theorem dX1_readsGate_48 : decode cX1_readsGate 48 = .ok (.ireturn, 1) := by decide +kernel
theorem dX1_readsGate_49 : decode cX1_readsGate 49 = .ok (.aload_n 0, 1) := by decide +kernel
theorem dX1_readsGate_50 : decode cX1_readsGate 50 = .ok (.getfield 57, 3) := by decide +kernel
theorem dX1_readsGate_53 : decode cX1_readsGate 53 = .ok (.istore_n 2, 1) := by decide +kernel
theorem dX1_readsGate_54 : decode cX1_readsGate 54 = .ok (.aload_n 0, 1) := by decide +kernel
theorem dX1_readsGate_55 : decode cX1_readsGate 55 = .ok (.iconst 1, 1) := by decide +kernel
theorem dX1_readsGate_56 : decode cX1_readsGate 56 = .ok (.bipush 24, 2) := by decide +kernel
theorem dX1_readsGate_58 : decode cX1_readsGate 58 = .ok (.invokevirtual 84, 3) := by decide +kernel
theorem dX1_readsGate_61 : decode cX1_readsGate 61 = .ok (.ifCond .eq 23, 3) := by decide +kernel
theorem dX1_readsGate_64 : decode cX1_readsGate 64 = .ok (.aload_n 0, 1) := by decide +kernel
theorem dX1_readsGate_65 : decode cX1_readsGate 65 = .ok (.getfield 15, 3) := by decide +kernel
theorem dX1_readsGate_68 : decode cX1_readsGate 68 = .ok (.iload_n 1, 1) := by decide +kernel
theorem dX1_readsGate_69 : decode cX1_readsGate 69 = .ok (.iload_n 2, 1) := by decide +kernel
theorem dX1_readsGate_70 : decode cX1_readsGate 70 = .ok (.aload_n 0, 1) := by decide +kernel
theorem dX1_readsGate_71 : decode cX1_readsGate 71 = .ok (.getfield 57, 3) := by decide +kernel
theorem dX1_readsGate_74 : decode cX1_readsGate 74 = .ok (.invokevirtual 112, 3) := by decide +kernel
theorem dX1_readsGate_77 : decode cX1_readsGate 77 = .ok (.ifCond .eq 7, 3) := by decide +kernel
theorem dX1_readsGate_80 : decode cX1_readsGate 80 = .ok (.iconst 1, 1) := by decide +kernel
theorem dX1_readsGate_81 : decode cX1_readsGate 81 = .ok (.goto 4, 3) := by decide +kernel
theorem dX1_readsGate_84 : decode cX1_readsGate 84 = .ok (.iconst 0, 1) := by decide +kernel
theorem dX1_readsGate_85 : decode cX1_readsGate 85 = .ok (.ireturn, 1) := by decide +kernel
set_option maxRecDepth 20000 in
theorem ggX1_readsOff_X1_readsNumber : GoodIn wsX1_readsOff wsX1_readsNumber := goodIn_r _ [9, 10, 3, 11, 12, 13, 8, 14, 15, 16, 17, 18, 19, 20, 21, 22, 23, 24, 25, 26, 27, 28, 29, 30, 31, 32, 33, 34, 35] (by decide +kernel) (by decide +kernel)
set_option maxRecDepth 20000 in
theorem gX1_readsOff_X1_readsNumber : GoodIn wsX1_readsOff (wsV RX1 84 RX1 yX1_readsNumber wsX1_readsNumber) := goodIn_app (goodIn_of _ (by decide +kernel)) ggX1_readsOff_X1_readsNumber
theorem dX1_readsOff_0 : decode cX1_readsOff 0 = .ok (.aload_n 0, 1) := by decide +kernel
theorem dX1_readsOff_1 : decode cX1_readsOff 1 = .ok (.getfield 37, 3) := by decide +kernel
theorem dX1_readsOff_4 : decode cX1_readsOff 4 = .ok (.ifCond .ne 13, 3) := by decide +kernel
theorem dX1_readsOff_7 : decode cX1_readsOff 7 = .ok (.aload_n 0, 1) := by decide +kernel
theorem dX1_readsOff_8 : decode cX1_readsOff 8 = .ok (.iconst 0, 1) := by decide +kernel
theorem dX1_readsOff_9 : decode cX1_readsOff 9 = .ok (.bipush 6, 2) := by decide +kernel
theorem dX1_readsOff_11 : decode cX1_readsOff 11 = .ok (.invokevirtual 84, 3) := by decide +kernel
theorem dX1_readsOff_14 : decode cX1_readsOff 14 = .ok (.ifCond .ne 5, 3) := by decide +kernel
theorem dX1_readsOff_17 : decode cX1_readsOff 17 = .ok (.iconst 0, 1) := by decide +kernel
theorem dX1_readsOff_18 : decode cX1_readsOff 18 = .ok (.ireturn, 1) := by decide +kernel
theorem dX1_readsOff_19 : decode cX1_readsOff 19 = .ok (.aload_n 0, 1) := by decide +kernel
theorem dX1_readsOff_20 : decode cX1_readsOff 20 = .ok (.getfield 15, 3) := by decide +kernel
theorem dX1_readsOff_23 : decode cX1_readsOff 23 = .ok (.aload_n 0, 1) := by decide +kernel
theorem dX1_readsOff_24 : decode cX1_readsOff 24 = .ok (.getfield 57, 3) := by decide +kernel
theorem dX1_readsOff_27 : decode cX1_readsOff 27 = .ok (.putfield 115, 3) := by decide +kernel
theorem dX1_readsOff_30 : decode cX1_readsOff 30 = .ok (.aload_n 0, 1) := by decide +kernel
theorem dX1_readsOff_31 : decode cX1_readsOff 31 = .ok (.iconst 1, 1) := by decide +kernel
theorem dX1_readsOff_32 : decode cX1_readsOff 32 = .ok (.putfield 37, 3) := by decide +kernel
theorem dX1_readsOff_35 : decode cX1_readsOff 35 = .ok (.iconst 1, 1) := by decide +kernel
theorem dX1_readsOff_36 : decode cX1_readsOff 36 = .ok (.ireturn, 1) := by decide +kernel
set_option maxRecDepth 20000 in
theorem ggX1_readsPlace_X1_readToken : GoodIn wsX1_readsPlace wsX1_readToken := goodIn_r _ [8, 9, 10, 11, 12, 1, 3, 13, 14, 7, 15, 16, 17, 18, 25, 26, 27, 28, 29, 30, 31, 32] (by decide +kernel) (by decide +kernel)
set_option maxRecDepth 20000 in
theorem gX1_readsPlace_X1_readToken : GoodIn wsX1_readsPlace (wsV RX1 41 RX1 yX1_readToken wsX1_readToken) := goodIn_app (goodIn_of _ (by decide +kernel)) ggX1_readsPlace_X1_readToken
set_option maxRecDepth 20000 in
theorem ggX1_readsPlace_X4_hasPlace : GoodIn wsX1_readsPlace wsX4_hasPlace := goodIn_r _ [23, 24, 33, 34, 35, 36, 37, 38, 39, 40, 41, 42, 43, 44, 45] (by decide +kernel) (by decide +kernel)
set_option maxRecDepth 20000 in
theorem gX1_readsPlace_X4_hasPlace : GoodIn wsX1_readsPlace (wsV RX1 118 RX4 yX4_hasPlace wsX4_hasPlace) := goodIn_app (goodIn_of _ (by decide +kernel)) ggX1_readsPlace_X4_hasPlace
theorem dX1_readsPlace_0 : decode cX1_readsPlace 0 = .ok (.aload_n 0, 1) := by decide +kernel
theorem dX1_readsPlace_1 : decode cX1_readsPlace 1 = .ok (.invokevirtual 41, 3) := by decide +kernel
theorem dX1_readsPlace_4 : decode cX1_readsPlace 4 = .ok (.aload_n 0, 1) := by decide +kernel
theorem dX1_readsPlace_5 : decode cX1_readsPlace 5 = .ok (.getfield 44, 3) := by decide +kernel
theorem dX1_readsPlace_8 : decode cX1_readsPlace 8 = .ok (.iconst 2, 1) := by decide +kernel
theorem dX1_readsPlace_9 : decode cX1_readsPlace 9 = .ok (.if_icmp .ne 21, 3) := by decide +kernel
theorem dX1_readsPlace_12 : decode cX1_readsPlace 12 = .ok (.aload_n 0, 1) := by decide +kernel
theorem dX1_readsPlace_13 : decode cX1_readsPlace 13 = .ok (.getfield 15, 3) := by decide +kernel
theorem dX1_readsPlace_16 : decode cX1_readsPlace 16 = .ok (.aload_n 0, 1) := by decide +kernel
theorem dX1_readsPlace_17 : decode cX1_readsPlace 17 = .ok (.getfield 57, 3) := by decide +kernel
theorem dX1_readsPlace_20 : decode cX1_readsPlace 20 = .ok (.invokevirtual 118, 3) := by decide +kernel
theorem dX1_readsPlace_23 : decode cX1_readsPlace 23 = .ok (.ifCond .eq 7, 3) := by decide +kernel
theorem dX1_readsPlace_26 : decode cX1_readsPlace 26 = .ok (.iconst 1, 1) := by decide +kernel
theorem dX1_readsPlace_27 : decode cX1_readsPlace 27 = .ok (.goto 4, 3) := by decide +kernel
theorem dX1_readsPlace_30 : decode cX1_readsPlace 30 = .ok (.iconst 0, 1) := by decide +kernel
theorem dX1_readsPlace_31 : decode cX1_readsPlace 31 = .ok (.ireturn, 1) := by decide +kernel
set_option maxRecDepth 20000 in
theorem ggX1_readsNumber_X1_readToken : GoodIn wsX1_readsNumber wsX1_readToken := goodIn_r _ [7, 8, 9, 10, 11, 1, 2, 12, 13, 6, 14, 15, 16, 17, 21, 22, 23, 24, 25, 26, 27, 28] (by decide +kernel) (by decide +kernel)
set_option maxRecDepth 20000 in
theorem gX1_readsNumber_X1_readToken : GoodIn wsX1_readsNumber (wsV RX1 41 RX1 yX1_readToken wsX1_readToken) := goodIn_app (goodIn_of _ (by decide +kernel)) ggX1_readsNumber_X1_readToken
set_option maxRecDepth 20000 in
theorem ggX1_readsNumber_X5_isWithin : GoodIn wsX1_readsNumber wsX5_isWithin := goodIn_r _ [20] (by decide +kernel) (by decide +kernel)
set_option maxRecDepth 20000 in
theorem gX1_readsNumber_X5_isWithin_n121 : GoodIn wsX1_readsNumber (wsX5_isWithin) := ggX1_readsNumber_X5_isWithin
theorem dX1_readsNumber_0 : decode cX1_readsNumber 0 = .ok (.aload_n 0, 1) := by decide +kernel
theorem dX1_readsNumber_1 : decode cX1_readsNumber 1 = .ok (.invokevirtual 41, 3) := by decide +kernel
theorem dX1_readsNumber_4 : decode cX1_readsNumber 4 = .ok (.aload_n 0, 1) := by decide +kernel
theorem dX1_readsNumber_5 : decode cX1_readsNumber 5 = .ok (.getfield 44, 3) := by decide +kernel
theorem dX1_readsNumber_8 : decode cX1_readsNumber 8 = .ok (.iconst 2, 1) := by decide +kernel
theorem dX1_readsNumber_9 : decode cX1_readsNumber 9 = .ok (.if_icmp .ne 19, 3) := by decide +kernel
theorem dX1_readsNumber_12 : decode cX1_readsNumber 12 = .ok (.aload_n 0, 1) := by decide +kernel
theorem dX1_readsNumber_13 : decode cX1_readsNumber 13 = .ok (.getfield 57, 3) := by decide +kernel
theorem dX1_readsNumber_16 : decode cX1_readsNumber 16 = .ok (.iload_n 1, 1) := by decide +kernel
theorem dX1_readsNumber_17 : decode cX1_readsNumber 17 = .ok (.iload_n 2, 1) := by decide +kernel
theorem dX1_readsNumber_18 : decode cX1_readsNumber 18 = .ok (.invokestatic 121, 3) := by decide +kernel
theorem dX1_readsNumber_21 : decode cX1_readsNumber 21 = .ok (.ifCond .eq 7, 3) := by decide +kernel
theorem dX1_readsNumber_24 : decode cX1_readsNumber 24 = .ok (.iconst 1, 1) := by decide +kernel
theorem dX1_readsNumber_25 : decode cX1_readsNumber 25 = .ok (.goto 4, 3) := by decide +kernel
theorem dX1_readsNumber_28 : decode cX1_readsNumber 28 = .ok (.iconst 0, 1) := by decide +kernel
theorem dX1_readsNumber_29 : decode cX1_readsNumber 29 = .ok (.ireturn, 1) := by decide +kernel
set_option maxRecDepth 20000 in
theorem ggX1_readsStop_X1_readToken : GoodIn wsX1_readsStop wsX1_readToken := goodIn_r _ [6, 7, 8, 9, 10, 1, 11, 12, 13, 5, 14, 15, 16, 17, 18, 19, 20, 21, 22, 23, 24, 25] (by decide +kernel) (by decide +kernel)
set_option maxRecDepth 20000 in
theorem gX1_readsStop_X1_readToken : GoodIn wsX1_readsStop (wsV RX1 41 RX1 yX1_readToken wsX1_readToken) := goodIn_app (goodIn_of _ (by decide +kernel)) ggX1_readsStop_X1_readToken
theorem dX1_readsStop_0 : decode cX1_readsStop 0 = .ok (.aload_n 0, 1) := by decide +kernel
theorem dX1_readsStop_1 : decode cX1_readsStop 1 = .ok (.invokevirtual 41, 3) := by decide +kernel
theorem dX1_readsStop_4 : decode cX1_readsStop 4 = .ok (.aload_n 0, 1) := by decide +kernel
theorem dX1_readsStop_5 : decode cX1_readsStop 5 = .ok (.getfield 44, 3) := by decide +kernel
theorem dX1_readsStop_8 : decode cX1_readsStop 8 = .ok (.iconst 3, 1) := by decide +kernel
theorem dX1_readsStop_9 : decode cX1_readsStop 9 = .ok (.if_icmp .ne 7, 3) := by decide +kernel
theorem dX1_readsStop_12 : decode cX1_readsStop 12 = .ok (.iconst 1, 1) := by decide +kernel
theorem dX1_readsStop_13 : decode cX1_readsStop 13 = .ok (.goto 4, 3) := by decide +kernel
theorem dX1_readsStop_16 : decode cX1_readsStop 16 = .ok (.iconst 0, 1) := by decide +kernel
theorem dX1_readsStop_17 : decode cX1_readsStop 17 = .ok (.ireturn, 1) := by decide +kernel
set_option maxRecDepth 20000 in
theorem ggX1_readToken_X1_isLetter : GoodIn wsX1_readToken wsX1_isLetter := goodIn_r _ [10] (by decide +kernel) (by decide +kernel)
set_option maxRecDepth 20000 in
theorem gX1_readToken_X1_isLetter : GoodIn wsX1_readToken (va_wsS RX1 124 yX1_isLetter wsX1_isLetter) := goodIn_app (goodIn_of _ (by decide +kernel)) ggX1_readToken_X1_isLetter
set_option maxRecDepth 20000 in
theorem ggX1_readToken_X1_isDigit : GoodIn wsX1_readToken wsX1_isDigit := goodIn_r _ [13] (by decide +kernel) (by decide +kernel)
set_option maxRecDepth 20000 in
theorem gX1_readToken_X1_isDigit : GoodIn wsX1_readToken (va_wsS RX1 127 yX1_isDigit wsX1_isDigit) := goodIn_app (goodIn_of _ (by decide +kernel)) ggX1_readToken_X1_isDigit
theorem dX1_readToken_0 : decode cX1_readToken 0 = .ok (.aload_n 0, 1) := by decide +kernel
theorem dX1_readToken_1 : decode cX1_readToken 1 = .ok (.getfield 34, 3) := by decide +kernel
theorem dX1_readToken_4 : decode cX1_readToken 4 = .ok (.aload_n 0, 1) := by decide +kernel
theorem dX1_readToken_5 : decode cX1_readToken 5 = .ok (.getfield 30, 3) := by decide +kernel
theorem dX1_readToken_8 : decode cX1_readToken 8 = .ok (.if_icmp .ge 30, 3) := by decide +kernel
theorem dX1_readToken_11 : decode cX1_readToken 11 = .ok (.aload_n 0, 1) := by decide +kernel
theorem dX1_readToken_12 : decode cX1_readToken 12 = .ok (.getfield 9, 3) := by decide +kernel
theorem dX1_readToken_15 : decode cX1_readToken 15 = .ok (.aload_n 0, 1) := by decide +kernel
theorem dX1_readToken_16 : decode cX1_readToken 16 = .ok (.getfield 34, 3) := by decide +kernel
theorem dX1_readToken_19 : decode cX1_readToken 19 = .ok (.iaload, 1) := by decide +kernel
theorem dX1_readToken_20 : decode cX1_readToken 20 = .ok (.bipush 32, 2) := by decide +kernel
theorem dX1_readToken_22 : decode cX1_readToken 22 = .ok (.if_icmp .ne 16, 3) := by decide +kernel
theorem dX1_readToken_25 : decode cX1_readToken 25 = .ok (.aload_n 0, 1) := by decide +kernel
theorem dX1_readToken_26 : decode cX1_readToken 26 = .ok (.dup, 1) := by decide +kernel
theorem dX1_readToken_27 : decode cX1_readToken 27 = .ok (.getfield 34, 3) := by decide +kernel
theorem dX1_readToken_30 : decode cX1_readToken 30 = .ok (.iconst 1, 1) := by decide +kernel
theorem dX1_readToken_31 : decode cX1_readToken 31 = .ok (.iadd, 1) := by decide +kernel
theorem dX1_readToken_32 : decode cX1_readToken 32 = .ok (.putfield 34, 3) := by decide +kernel
theorem dX1_readToken_35 : decode cX1_readToken 35 = .ok (.goto (-35), 3) := by decide +kernel
theorem dX1_readToken_38 : decode cX1_readToken 38 = .ok (.aload_n 0, 1) := by decide +kernel
theorem dX1_readToken_39 : decode cX1_readToken 39 = .ok (.aload_n 0, 1) := by decide +kernel
theorem dX1_readToken_40 : decode cX1_readToken 40 = .ok (.getfield 34, 3) := by decide +kernel
theorem dX1_readToken_43 : decode cX1_readToken 43 = .ok (.putfield 54, 3) := by decide +kernel
theorem dX1_readToken_46 : decode cX1_readToken 46 = .ok (.aload_n 0, 1) := by decide +kernel
theorem dX1_readToken_47 : decode cX1_readToken 47 = .ok (.iconst 0, 1) := by decide +kernel
theorem dX1_readToken_48 : decode cX1_readToken 48 = .ok (.putfield 44, 3) := by decide +kernel
theorem dX1_readToken_51 : decode cX1_readToken 51 = .ok (.aload_n 0, 1) := by decide +kernel
theorem dX1_readToken_52 : decode cX1_readToken 52 = .ok (.getfield 54, 3) := by decide +kernel
theorem dX1_readToken_55 : decode cX1_readToken 55 = .ok (.aload_n 0, 1) := by decide +kernel
theorem dX1_readToken_56 : decode cX1_readToken 56 = .ok (.getfield 30, 3) := by decide +kernel
theorem dX1_readToken_59 : decode cX1_readToken 59 = .ok (.if_icmp .lt 4, 3) := by decide +kernel
theorem dX1_readToken_62 : decode cX1_readToken 62 = .ok (.return_, 1) := by decide +kernel
theorem dX1_readToken_63 : decode cX1_readToken 63 = .ok (.aload_n 0, 1) := by decide +kernel
theorem dX1_readToken_64 : decode cX1_readToken 64 = .ok (.getfield 9, 3) := by decide +kernel
theorem dX1_readToken_67 : decode cX1_readToken 67 = .ok (.aload_n 0, 1) := by decide +kernel
theorem dX1_readToken_68 : decode cX1_readToken 68 = .ok (.getfield 54, 3) := by decide +kernel
theorem dX1_readToken_71 : decode cX1_readToken 71 = .ok (.iaload, 1) := by decide +kernel
theorem dX1_readToken_72 : decode cX1_readToken 72 = .ok (.istore_n 1, 1) := by decide +kernel
theorem dX1_readToken_73 : decode cX1_readToken 73 = .ok (.aload_n 0, 1) := by decide +kernel
theorem dX1_readToken_74 : decode cX1_readToken 74 = .ok (.dup, 1) := by decide +kernel
theorem dX1_readToken_75 : decode cX1_readToken 75 = .ok (.getfield 34, 3) := by decide +kernel
theorem dX1_readToken_78 : decode cX1_readToken 78 = .ok (.iconst 1, 1) := by decide +kernel
theorem dX1_readToken_79 : decode cX1_readToken 79 = .ok (.iadd, 1) := by decide +kernel
theorem dX1_readToken_80 : decode cX1_readToken 80 = .ok (.putfield 34, 3) := by decide +kernel
theorem dX1_readToken_83 : decode cX1_readToken 83 = .ok (.iload_n 1, 1) := by decide +kernel
theorem dX1_readToken_84 : decode cX1_readToken 84 = .ok (.invokestatic 124, 3) := by decide +kernel
theorem dX1_readToken_87 : decode cX1_readToken 87 = .ok (.ifCond .eq 72, 3) := by decide +kernel
theorem dX1_readToken_90 : decode cX1_readToken 90 = .ok (.aload_n 0, 1) := by decide +kernel
theorem dX1_readToken_91 : decode cX1_readToken 91 = .ok (.getfield 34, 3) := by decide +kernel
theorem dX1_readToken_94 : decode cX1_readToken 94 = .ok (.aload_n 0, 1) := by decide +kernel
theorem dX1_readToken_95 : decode cX1_readToken 95 = .ok (.getfield 30, 3) := by decide +kernel
theorem dX1_readToken_98 : decode cX1_readToken 98 = .ok (.if_icmp .ge 31, 3) := by decide +kernel
theorem dX1_readToken_101 : decode cX1_readToken 101 = .ok (.aload_n 0, 1) := by decide +kernel
theorem dX1_readToken_102 : decode cX1_readToken 102 = .ok (.getfield 9, 3) := by decide +kernel
theorem dX1_readToken_105 : decode cX1_readToken 105 = .ok (.aload_n 0, 1) := by decide +kernel
theorem dX1_readToken_106 : decode cX1_readToken 106 = .ok (.getfield 34, 3) := by decide +kernel
theorem dX1_readToken_109 : decode cX1_readToken 109 = .ok (.iaload, 1) := by decide +kernel
theorem dX1_readToken_110 : decode cX1_readToken 110 = .ok (.invokestatic 124, 3) := by decide +kernel
theorem dX1_readToken_113 : decode cX1_readToken 113 = .ok (.ifCond .eq 16, 3) := by decide +kernel
theorem dX1_readToken_116 : decode cX1_readToken 116 = .ok (.aload_n 0, 1) := by decide +kernel
theorem dX1_readToken_117 : decode cX1_readToken 117 = .ok (.dup, 1) := by decide +kernel
theorem dX1_readToken_118 : decode cX1_readToken 118 = .ok (.getfield 34, 3) := by decide +kernel
theorem dX1_readToken_121 : decode cX1_readToken 121 = .ok (.iconst 1, 1) := by decide +kernel
theorem dX1_readToken_122 : decode cX1_readToken 122 = .ok (.iadd, 1) := by decide +kernel
theorem dX1_readToken_123 : decode cX1_readToken 123 = .ok (.putfield 34, 3) := by decide +kernel
theorem dX1_readToken_126 : decode cX1_readToken 126 = .ok (.goto (-36), 3) := by decide +kernel
theorem dX1_readToken_129 : decode cX1_readToken 129 = .ok (.aload_n 0, 1) := by decide +kernel
theorem dX1_readToken_130 : decode cX1_readToken 130 = .ok (.aload_n 0, 1) := by decide +kernel
theorem dX1_readToken_131 : decode cX1_readToken 131 = .ok (.getfield 34, 3) := by decide +kernel
theorem dX1_readToken_134 : decode cX1_readToken 134 = .ok (.aload_n 0, 1) := by decide +kernel
theorem dX1_readToken_135 : decode cX1_readToken 135 = .ok (.getfield 54, 3) := by decide +kernel
theorem dX1_readToken_138 : decode cX1_readToken 138 = .ok (.isub, 1) := by decide +kernel
theorem dX1_readToken_139 : decode cX1_readToken 139 = .ok (.iconst 1, 1) := by decide +kernel
theorem dX1_readToken_140 : decode cX1_readToken 140 = .ok (.if_icmp .ne 7, 3) := by decide +kernel
theorem dX1_readToken_143 : decode cX1_readToken 143 = .ok (.iconst 1, 1) := by decide +kernel
theorem dX1_readToken_144 : decode cX1_readToken 144 = .ok (.goto 4, 3) := by decide +kernel
theorem dX1_readToken_147 : decode cX1_readToken 147 = .ok (.iconst 4, 1) := by decide +kernel
theorem dX1_readToken_148 : decode cX1_readToken 148 = .ok (.putfield 44, 3) := by decide +kernel
theorem dX1_readToken_151 : decode cX1_readToken 151 = .ok (.aload_n 0, 1) := by decide +kernel
theorem dX1_readToken_152 : decode cX1_readToken 152 = .ok (.iload_n 1, 1) := by decide +kernel
theorem dX1_readToken_153 : decode cX1_readToken 153 = .ok (.putfield 57, 3) := by decide +kernel
theorem dX1_readToken_156 : decode cX1_readToken 156 = .ok (.goto 134, 3) := by decide +kernel
theorem dX1_readToken_159 : decode cX1_readToken 159 = .ok (.iload_n 1, 1) := by decide +kernel
theorem dX1_readToken_160 : decode cX1_readToken 160 = .ok (.invokestatic 127, 3) := by decide +kernel
theorem dX1_readToken_163 : decode cX1_readToken 163 = .ok (.ifCond .eq 112, 3) := by decide +kernel
theorem dX1_readToken_166 : decode cX1_readToken 166 = .ok (.aload_n 0, 1) := by decide +kernel
theorem dX1_readToken_167 : decode cX1_readToken 167 = .ok (.iload_n 1, 1) := by decide +kernel
theorem dX1_readToken_168 : decode cX1_readToken 168 = .ok (.bipush 48, 2) := by decide +kernel
theorem dX1_readToken_170 : decode cX1_readToken 170 = .ok (.isub, 1) := by decide +kernel
theorem dX1_readToken_171 : decode cX1_readToken 171 = .ok (.putfield 57, 3) := by decide +kernel
theorem dX1_readToken_174 : decode cX1_readToken 174 = .ok (.aload_n 0, 1) := by decide +kernel
theorem dX1_readToken_175 : decode cX1_readToken 175 = .ok (.getfield 34, 3) := by decide +kernel
theorem dX1_readToken_178 : decode cX1_readToken 178 = .ok (.aload_n 0, 1) := by decide +kernel
theorem dX1_readToken_179 : decode cX1_readToken 179 = .ok (.getfield 30, 3) := by decide +kernel
theorem dX1_readToken_182 : decode cX1_readToken 182 = .ok (.if_icmp .ge 55, 3) := by decide +kernel
theorem dX1_readToken_185 : decode cX1_readToken 185 = .ok (.aload_n 0, 1) := by decide +kernel
theorem dX1_readToken_186 : decode cX1_readToken 186 = .ok (.getfield 9, 3) := by decide +kernel
theorem dX1_readToken_189 : decode cX1_readToken 189 = .ok (.aload_n 0, 1) := by decide +kernel
theorem dX1_readToken_190 : decode cX1_readToken 190 = .ok (.getfield 34, 3) := by decide +kernel
theorem dX1_readToken_193 : decode cX1_readToken 193 = .ok (.iaload, 1) := by decide +kernel
theorem dX1_readToken_194 : decode cX1_readToken 194 = .ok (.invokestatic 127, 3) := by decide +kernel
theorem dX1_readToken_197 : decode cX1_readToken 197 = .ok (.ifCond .eq 40, 3) := by decide +kernel
theorem dX1_readToken_200 : decode cX1_readToken 200 = .ok (.aload_n 0, 1) := by decide +kernel
theorem dX1_readToken_201 : decode cX1_readToken 201 = .ok (.aload_n 0, 1) := by decide +kernel
theorem dX1_readToken_202 : decode cX1_readToken 202 = .ok (.getfield 57, 3) := by decide +kernel
theorem dX1_readToken_205 : decode cX1_readToken 205 = .ok (.bipush 10, 2) := by decide +kernel
theorem dX1_readToken_207 : decode cX1_readToken 207 = .ok (.imul, 1) := by decide +kernel
theorem dX1_readToken_208 : decode cX1_readToken 208 = .ok (.aload_n 0, 1) := by decide +kernel
theorem dX1_readToken_209 : decode cX1_readToken 209 = .ok (.getfield 9, 3) := by decide +kernel
theorem dX1_readToken_212 : decode cX1_readToken 212 = .ok (.aload_n 0, 1) := by decide +kernel
theorem dX1_readToken_213 : decode cX1_readToken 213 = .ok (.getfield 34, 3) := by decide +kernel
theorem dX1_readToken_216 : decode cX1_readToken 216 = .ok (.iaload, 1) := by decide +kernel
theorem dX1_readToken_217 : decode cX1_readToken 217 = .ok (.iadd, 1) := by decide +kernel
theorem dX1_readToken_218 : decode cX1_readToken 218 = .ok (.bipush 48, 2) := by decide +kernel
theorem dX1_readToken_220 : decode cX1_readToken 220 = .ok (.isub, 1) := by decide +kernel
theorem dX1_readToken_221 : decode cX1_readToken 221 = .ok (.putfield 57, 3) := by decide +kernel
theorem dX1_readToken_224 : decode cX1_readToken 224 = .ok (.aload_n 0, 1) := by decide +kernel
theorem dX1_readToken_225 : decode cX1_readToken 225 = .ok (.dup, 1) := by decide +kernel
theorem dX1_readToken_226 : decode cX1_readToken 226 = .ok (.getfield 34, 3) := by decide +kernel
theorem dX1_readToken_229 : decode cX1_readToken 229 = .ok (.iconst 1, 1) := by decide +kernel
theorem dX1_readToken_230 : decode cX1_readToken 230 = .ok (.iadd, 1) := by decide +kernel
theorem dX1_readToken_231 : decode cX1_readToken 231 = .ok (.putfield 34, 3) := by decide +kernel
theorem dX1_readToken_234 : decode cX1_readToken 234 = .ok (.goto (-60), 3) := by decide +kernel
theorem dX1_readToken_237 : decode cX1_readToken 237 = .ok (.aload_n 0, 1) := by decide +kernel
theorem dX1_readToken_238 : decode cX1_readToken 238 = .ok (.getfield 34, 3) := by decide +kernel
theorem dX1_readToken_241 : decode cX1_readToken 241 = .ok (.aload_n 0, 1) := by decide +kernel
theorem dX1_readToken_242 : decode cX1_readToken 242 = .ok (.getfield 54, 3) := by decide +kernel
theorem dX1_readToken_245 : decode cX1_readToken 245 = .ok (.isub, 1) := by decide +kernel
theorem dX1_readToken_246 : decode cX1_readToken 246 = .ok (.istore_n 2, 1) := by decide +kernel
theorem dX1_readToken_247 : decode cX1_readToken 247 = .ok (.aload_n 0, 1) := by decide +kernel
theorem dX1_readToken_248 : decode cX1_readToken 248 = .ok (.iload_n 2, 1) := by decide +kernel
theorem dX1_readToken_249 : decode cX1_readToken 249 = .ok (.iconst 1, 1) := by decide +kernel
theorem dX1_readToken_250 : decode cX1_readToken 250 = .ok (.if_icmp .eq 14, 3) := by decide +kernel
theorem dX1_readToken_253 : decode cX1_readToken 253 = .ok (.iload_n 2, 1) := by decide +kernel
theorem dX1_readToken_254 : decode cX1_readToken 254 = .ok (.iconst 2, 1) := by decide +kernel
theorem dX1_readToken_255 : decode cX1_readToken 255 = .ok (.if_icmp .ne 13, 3) := by decide +kernel
theorem dX1_readToken_258 : decode cX1_readToken 258 = .ok (.iload_n 1, 1) := by decide +kernel
theorem dX1_readToken_259 : decode cX1_readToken 259 = .ok (.bipush 48, 2) := by decide +kernel
theorem dX1_readToken_261 : decode cX1_readToken 261 = .ok (.if_icmp .eq 7, 3) := by decide +kernel
theorem dX1_readToken_264 : decode cX1_readToken 264 = .ok (.iconst 2, 1) := by decide +kernel
theorem dX1_readToken_265 : decode cX1_readToken 265 = .ok (.goto 4, 3) := by decide +kernel
theorem dX1_readToken_268 : decode cX1_readToken 268 = .ok (.iconst 4, 1) := by decide +kernel
theorem dX1_readToken_269 : decode cX1_readToken 269 = .ok (.putfield 44, 3) := by decide +kernel
theorem dX1_readToken_272 : decode cX1_readToken 272 = .ok (.goto 18, 3) := by decide +kernel
theorem dX1_readToken_275 : decode cX1_readToken 275 = .ok (.aload_n 0, 1) := by decide +kernel
theorem dX1_readToken_276 : decode cX1_readToken 276 = .ok (.iload_n 1, 1) := by decide +kernel
theorem dX1_readToken_277 : decode cX1_readToken 277 = .ok (.bipush 59, 2) := by decide +kernel
theorem dX1_readToken_279 : decode cX1_readToken 279 = .ok (.if_icmp .ne 7, 3) := by decide +kernel
theorem dX1_readToken_282 : decode cX1_readToken 282 = .ok (.iconst 3, 1) := by decide +kernel
theorem dX1_readToken_283 : decode cX1_readToken 283 = .ok (.goto 4, 3) := by decide +kernel
theorem dX1_readToken_286 : decode cX1_readToken 286 = .ok (.iconst 4, 1) := by decide +kernel
theorem dX1_readToken_287 : decode cX1_readToken 287 = .ok (.putfield 44, 3) := by decide +kernel
theorem dX1_readToken_290 : decode cX1_readToken 290 = .ok (.return_, 1) := by decide +kernel
theorem dX1_isLetter_0 : decode cX1_isLetter 0 = .ok (.iload_n 0, 1) := by decide +kernel
theorem dX1_isLetter_1 : decode cX1_isLetter 1 = .ok (.bipush 97, 2) := by decide +kernel
theorem dX1_isLetter_3 : decode cX1_isLetter 3 = .ok (.if_icmp .lt 13, 3) := by decide +kernel
theorem dX1_isLetter_6 : decode cX1_isLetter 6 = .ok (.iload_n 0, 1) := by decide +kernel
theorem dX1_isLetter_7 : decode cX1_isLetter 7 = .ok (.bipush 122, 2) := by decide +kernel
theorem dX1_isLetter_9 : decode cX1_isLetter 9 = .ok (.if_icmp .gt 7, 3) := by decide +kernel
theorem dX1_isLetter_12 : decode cX1_isLetter 12 = .ok (.iconst 1, 1) := by decide +kernel
theorem dX1_isLetter_13 : decode cX1_isLetter 13 = .ok (.goto 4, 3) := by decide +kernel
theorem dX1_isLetter_16 : decode cX1_isLetter 16 = .ok (.iconst 0, 1) := by decide +kernel
theorem dX1_isLetter_17 : decode cX1_isLetter 17 = .ok (.ireturn, 1) := by decide +kernel
theorem dX1_isDigit_0 : decode cX1_isDigit 0 = .ok (.iload_n 0, 1) := by decide +kernel
theorem dX1_isDigit_1 : decode cX1_isDigit 1 = .ok (.bipush 48, 2) := by decide +kernel
theorem dX1_isDigit_3 : decode cX1_isDigit 3 = .ok (.if_icmp .lt 13, 3) := by decide +kernel
theorem dX1_isDigit_6 : decode cX1_isDigit 6 = .ok (.iload_n 0, 1) := by decide +kernel
theorem dX1_isDigit_7 : decode cX1_isDigit 7 = .ok (.bipush 57, 2) := by decide +kernel
theorem dX1_isDigit_9 : decode cX1_isDigit 9 = .ok (.if_icmp .gt 7, 3) := by decide +kernel
theorem dX1_isDigit_12 : decode cX1_isDigit 12 = .ok (.iconst 1, 1) := by decide +kernel
theorem dX1_isDigit_13 : decode cX1_isDigit 13 = .ok (.goto 4, 3) := by decide +kernel
theorem dX1_isDigit_16 : decode cX1_isDigit 16 = .ok (.iconst 0, 1) := by decide +kernel
theorem dX1_isDigit_17 : decode cX1_isDigit 17 = .ok (.ireturn, 1) := by decide +kernel
theorem dX2_init_0 : decode cX2_init 0 = .ok (.aload_n 0, 1) := by decide +kernel
theorem dX2_init_1 : decode cX2_init 1 = .ok (.invokespecial 3, 3) := by decide +kernel
theorem dX2_init_4 : decode cX2_init 4 = .ok (.aload_n 0, 1) := by decide +kernel
theorem dX2_init_5 : decode cX2_init 5 = .ok (.bipush 12, 2) := by decide +kernel
theorem dX2_init_7 : decode cX2_init 7 = .ok (.newarray .int, 2) := by decide +kernel
theorem dX2_init_9 : decode cX2_init 9 = .ok (.putfield 9, 3) := by decide +kernel
theorem dX2_init_12 : decode cX2_init 12 = .ok (.aload_n 0, 1) := by decide +kernel
theorem dX2_init_13 : decode cX2_init 13 = .ok (.bipush 12, 2) := by decide +kernel
theorem dX2_init_15 : decode cX2_init 15 = .ok (.newarray .int, 2) := by decide +kernel
theorem dX2_init_17 : decode cX2_init 17 = .ok (.putfield 15, 3) := by decide +kernel
theorem dX2_init_20 : decode cX2_init 20 = .ok (.aload_n 0, 1) := by decide +kernel
theorem dX2_init_21 : decode cX2_init 21 = .ok (.bipush 12, 2) := by decide +kernel
theorem dX2_init_23 : decode cX2_init 23 = .ok (.newarray .int, 2) := by decide +kernel
theorem dX2_init_25 : decode cX2_init 25 = .ok (.putfield 18, 3) := by decide +kernel
theorem dX2_init_28 : decode cX2_init 28 = .ok (.return_, 1) := by decide +kernel
theorem dX2_startAnew_0 : decode cX2_startAnew 0 = .ok (.aload_n 0, 1) := by decide +kernel
theorem dX2_startAnew_1 : decode cX2_startAnew 1 = .ok (.iconst 0, 1) := by decide +kernel
theorem dX2_startAnew_2 : decode cX2_startAnew 2 = .ok (.putfield 21, 3) := by decide +kernel
theorem dX2_startAnew_5 : decode cX2_startAnew 5 = .ok (.aload_n 0, 1) := by decide +kernel
theorem dX2_startAnew_6 : decode cX2_startAnew 6 = .ok (.iconst 0, 1) := by decide +kernel
theorem dX2_startAnew_7 : decode cX2_startAnew 7 = .ok (.putfield 25, 3) := by decide +kernel
theorem dX2_startAnew_10 : decode cX2_startAnew 10 = .ok (.aload_n 0, 1) := by decide +kernel
theorem dX2_startAnew_11 : decode cX2_startAnew 11 = .ok (.iconst 0, 1) := by decide +kernel
theorem dX2_startAnew_12 : decode cX2_startAnew 12 = .ok (.putfield 28, 3) := by decide +kernel
theorem dX2_startAnew_15 : decode cX2_startAnew 15 = .ok (.aload_n 0, 1) := by decide +kernel
theorem dX2_startAnew_16 : decode cX2_startAnew 16 = .ok (.iconst 0, 1) := by decide +kernel
theorem dX2_startAnew_17 : decode cX2_startAnew 17 = .ok (.putfield 31, 3) := by decide +kernel
theorem dX2_startAnew_20 : decode cX2_startAnew 20 = .ok (.return_, 1) := by decide +kernel
theorem dX2_becomeLike_0 : decode cX2_becomeLike 0 = .ok (.aload_n 0, 1) := by decide +kernel
theorem dX2_becomeLike_1 : decode cX2_becomeLike 1 = .ok (.aload_n 1, 1) := by decide +kernel
theorem dX2_becomeLike_2 : decode cX2_becomeLike 2 = .ok (.getfield 21, 3) := by decide +kernel
theorem dX2_becomeLike_5 : decode cX2_becomeLike 5 = .ok (.putfield 21, 3) := by decide +kernel
theorem dX2_becomeLike_8 : decode cX2_becomeLike 8 = .ok (.aload_n 0, 1) := by decide +kernel
theorem dX2_becomeLike_9 : decode cX2_becomeLike 9 = .ok (.aload_n 1, 1) := by decide +kernel
theorem dX2_becomeLike_10 : decode cX2_becomeLike 10 = .ok (.getfield 25, 3) := by decide +kernel
theorem dX2_becomeLike_13 : decode cX2_becomeLike 13 = .ok (.putfield 25, 3) := by decide +kernel
theorem dX2_becomeLike_16 : decode cX2_becomeLike 16 = .ok (.aload_n 0, 1) := by decide +kernel
theorem dX2_becomeLike_17 : decode cX2_becomeLike 17 = .ok (.aload_n 1, 1) := by decide +kernel
theorem dX2_becomeLike_18 : decode cX2_becomeLike 18 = .ok (.getfield 28, 3) := by decide +kernel
theorem dX2_becomeLike_21 : decode cX2_becomeLike 21 = .ok (.putfield 28, 3) := by decide +kernel
theorem dX2_becomeLike_24 : decode cX2_becomeLike 24 = .ok (.aload_n 0, 1) := by decide +kernel
theorem dX2_becomeLike_25 : decode cX2_becomeLike 25 = .ok (.aload_n 1, 1) := by decide +kernel
theorem dX2_becomeLike_26 : decode cX2_becomeLike 26 = .ok (.getfield 31, 3) := by decide +kernel
theorem dX2_becomeLike_29 : decode cX2_becomeLike 29 = .ok (.putfield 31, 3) := by decide +kernel
theorem dX2_becomeLike_32 : decode cX2_becomeLike 32 = .ok (.aload_n 1, 1) := by decide +kernel
theorem dX2_becomeLike_33 : decode cX2_becomeLike 33 = .ok (.getfield 9, 3) := by decide +kernel
theorem dX2_becomeLike_36 : decode cX2_becomeLike 36 = .ok (.iconst 0, 1) := by decide +kernel
theorem dX2_becomeLike_37 : decode cX2_becomeLike 37 = .ok (.aload_n 0, 1) := by decide +kernel
theorem dX2_becomeLike_38 : decode cX2_becomeLike 38 = .ok (.getfield 9, 3) := by decide +kernel
theorem dX2_becomeLike_41 : decode cX2_becomeLike 41 = .ok (.iconst 0, 1) := by decide +kernel
theorem dX2_becomeLike_42 : decode cX2_becomeLike 42 = .ok (.bipush 12, 2) := by decide +kernel
theorem dX2_becomeLike_44 : decode cX2_becomeLike 44 = .ok (.invokestatic 34, 3) := by decide +kernel
theorem dX2_becomeLike_47 : decode cX2_becomeLike 47 = .ok (.aload_n 1, 1) := by decide +kernel
theorem dX2_becomeLike_48 : decode cX2_becomeLike 48 = .ok (.getfield 15, 3) := by decide +kernel
theorem dX2_becomeLike_51 : decode cX2_becomeLike 51 = .ok (.iconst 0, 1) := by decide +kernel
theorem dX2_becomeLike_52 : decode cX2_becomeLike 52 = .ok (.aload_n 0, 1) := by decide +kernel
theorem dX2_becomeLike_53 : decode cX2_becomeLike 53 = .ok (.getfield 15, 3) := by decide +kernel
theorem dX2_becomeLike_56 : decode cX2_becomeLike 56 = .ok (.iconst 0, 1) := by decide +kernel
theorem dX2_becomeLike_57 : decode cX2_becomeLike 57 = .ok (.bipush 12, 2) := by decide +kernel
theorem dX2_becomeLike_59 : decode cX2_becomeLike 59 = .ok (.invokestatic 34, 3) := by decide +kernel
theorem dX2_becomeLike_62 : decode cX2_becomeLike 62 = .ok (.aload_n 1, 1) := by decide +kernel
theorem dX2_becomeLike_63 : decode cX2_becomeLike 63 = .ok (.getfield 18, 3) := by decide +kernel
theorem dX2_becomeLike_66 : decode cX2_becomeLike 66 = .ok (.iconst 0, 1) := by decide +kernel
theorem dX2_becomeLike_67 : decode cX2_becomeLike 67 = .ok (.aload_n 0, 1) := by decide +kernel
theorem dX2_becomeLike_68 : decode cX2_becomeLike 68 = .ok (.getfield 18, 3) := by decide +kernel
theorem dX2_becomeLike_71 : decode cX2_becomeLike 71 = .ok (.iconst 0, 1) := by decide +kernel
theorem dX2_becomeLike_72 : decode cX2_becomeLike 72 = .ok (.bipush 12, 2) := by decide +kernel
theorem dX2_becomeLike_74 : decode cX2_becomeLike 74 = .ok (.invokestatic 34, 3) := by decide +kernel
theorem dX2_becomeLike_77 : decode cX2_becomeLike 77 = .ok (.return_, 1) := by decide +kernel
set_option maxRecDepth 20000 in
theorem ggX2_remember_X2_loseOldest : GoodIn wsX2_remember wsX2_loseOldest := goodIn_r _ [12, 2, 13, 14, 15, 16, 4, 6, 1, 20, 21, 22, 23, 24, 25, 26, 27] (by decide +kernel) (by decide +kernel)
set_option maxRecDepth 20000 in
theorem gX2_remember_X2_loseOldest : GoodIn wsX2_remember (wsV RX2 40 RX2 yX2_loseOldest wsX2_loseOldest) := goodIn_app (goodIn_of _ (by decide +kernel)) ggX2_remember_X2_loseOldest
set_option maxRecDepth 20000 in
theorem ggX2_remember_X5_isWithin : GoodIn wsX2_remember wsX5_isWithin := goodIn_r _ [19] (by decide +kernel) (by decide +kernel)
set_option maxRecDepth 20000 in
theorem gX2_remember_X5_isWithin_n43 : GoodIn wsX2_remember (wsX5_isWithin) := ggX2_remember_X5_isWithin
theorem dX2_remember_0 : decode cX2_remember 0 = .ok (.aload_n 0, 1) := by decide +kernel
theorem dX2_remember_1 : decode cX2_remember 1 = .ok (.getfield 31, 3) := by decide +kernel
theorem dX2_remember_4 : decode cX2_remember 4 = .ok (.bipush 12, 2) := by decide +kernel
theorem dX2_remember_6 : decode cX2_remember 6 = .ok (.if_icmp .lt 7, 3) := by decide +kernel
theorem dX2_remember_9 : decode cX2_remember 9 = .ok (.aload_n 0, 1) := by decide +kernel
theorem dX2_remember_10 : decode cX2_remember 10 = .ok (.invokevirtual 40, 3) := by decide +kernel
theorem dX2_remember_13 : decode cX2_remember 13 = .ok (.aload_n 0, 1) := by decide +kernel
theorem dX2_remember_14 : decode cX2_remember 14 = .ok (.getfield 31, 3) := by decide +kernel
theorem dX2_remember_17 : decode cX2_remember 17 = .ok (.iconst 0, 1) := by decide +kernel
theorem dX2_remember_18 : decode cX2_remember 18 = .ok (.bipush 11, 2) := by decide +kernel
theorem dX2_remember_20 : decode cX2_remember 20 = .ok (.invokestatic 43, 3) := by decide +kernel
theorem dX2_remember_23 : decode cX2_remember 23 = .ok (.ifCond .ne 4, 3) := by decide +kernel
theorem dX2_remember_26 : decode cX2_remember 26 = .ok (.return_, 1) := by decide +kernel
theorem dX2_remember_27 : decode cX2_remember 27 = .ok (.aload_n 0, 1) := by decide +kernel
theorem dX2_remember_28 : decode cX2_remember 28 = .ok (.getfield 9, 3) := by decide +kernel
theorem dX2_remember_31 : decode cX2_remember 31 = .ok (.aload_n 0, 1) := by decide +kernel
theorem dX2_remember_32 : decode cX2_remember 32 = .ok (.getfield 31, 3) := by decide +kernel
theorem dX2_remember_35 : decode cX2_remember 35 = .ok (.aload_n 0, 1) := by decide +kernel
theorem dX2_remember_36 : decode cX2_remember 36 = .ok (.getfield 21, 3) := by decide +kernel
theorem dX2_remember_39 : decode cX2_remember 39 = .ok (.iastore, 1) := by decide +kernel
theorem dX2_remember_40 : decode cX2_remember 40 = .ok (.aload_n 0, 1) := by decide +kernel
theorem dX2_remember_41 : decode cX2_remember 41 = .ok (.getfield 15, 3) := by decide +kernel
theorem dX2_remember_44 : decode cX2_remember 44 = .ok (.aload_n 0, 1) := by decide +kernel
theorem dX2_remember_45 : decode cX2_remember 45 = .ok (.getfield 31, 3) := by decide +kernel
theorem dX2_remember_48 : decode cX2_remember 48 = .ok (.aload_n 0, 1) := by decide +kernel
theorem dX2_remember_49 : decode cX2_remember 49 = .ok (.getfield 25, 3) := by decide +kernel
theorem dX2_remember_52 : decode cX2_remember 52 = .ok (.iastore, 1) := by decide +kernel
theorem dX2_remember_53 : decode cX2_remember 53 = .ok (.aload_n 0, 1) := by decide +kernel
theorem dX2_remember_54 : decode cX2_remember 54 = .ok (.getfield 18, 3) := by decide +kernel
theorem dX2_remember_57 : decode cX2_remember 57 = .ok (.aload_n 0, 1) := by decide +kernel
theorem dX2_remember_58 : decode cX2_remember 58 = .ok (.getfield 31, 3) := by decide +kernel
theorem dX2_remember_61 : decode cX2_remember 61 = .ok (.aload_n 0, 1) := by decide +kernel
theorem dX2_remember_62 : decode cX2_remember 62 = .ok (.getfield 28, 3) := by decide +kernel
theorem dX2_remember_65 : decode cX2_remember 65 = .ok (.iastore, 1) := by decide +kernel
theorem dX2_remember_66 : decode cX2_remember 66 = .ok (.aload_n 0, 1) := by decide +kernel
theorem dX2_remember_67 : decode cX2_remember 67 = .ok (.dup, 1) := by decide +kernel
theorem dX2_remember_68 : decode cX2_remember 68 = .ok (.getfield 31, 3) := by decide +kernel
theorem dX2_remember_71 : decode cX2_remember 71 = .ok (.iconst 1, 1) := by decide +kernel
theorem dX2_remember_72 : decode cX2_remember 72 = .ok (.iadd, 1) := by decide +kernel
theorem dX2_remember_73 : decode cX2_remember 73 = .ok (.putfield 31, 3) := by decide +kernel
theorem dX2_remember_76 : decode cX2_remember 76 = .ok (.return_, 1) := by decide +kernel
theorem dX2_loseOldest_0 : decode cX2_loseOldest 0 = .ok (.aload_n 0, 1) := by decide +kernel
theorem dX2_loseOldest_1 : decode cX2_loseOldest 1 = .ok (.getfield 9, 3) := by decide +kernel
theorem dX2_loseOldest_4 : decode cX2_loseOldest 4 = .ok (.iconst 1, 1) := by decide +kernel
theorem dX2_loseOldest_5 : decode cX2_loseOldest 5 = .ok (.aload_n 0, 1) := by decide +kernel
theorem dX2_loseOldest_6 : decode cX2_loseOldest 6 = .ok (.getfield 9, 3) := by decide +kernel
theorem dX2_loseOldest_9 : decode cX2_loseOldest 9 = .ok (.iconst 0, 1) := by decide +kernel
theorem dX2_loseOldest_10 : decode cX2_loseOldest 10 = .ok (.bipush 11, 2) := by decide +kernel
theorem dX2_loseOldest_12 : decode cX2_loseOldest 12 = .ok (.invokestatic 34, 3) := by decide +kernel
theorem dX2_loseOldest_15 : decode cX2_loseOldest 15 = .ok (.aload_n 0, 1) := by decide +kernel
theorem dX2_loseOldest_16 : decode cX2_loseOldest 16 = .ok (.getfield 15, 3) := by decide +kernel
theorem dX2_loseOldest_19 : decode cX2_loseOldest 19 = .ok (.iconst 1, 1) := by decide +kernel
theorem dX2_loseOldest_20 : decode cX2_loseOldest 20 = .ok (.aload_n 0, 1) := by decide +kernel
theorem dX2_loseOldest_21 : decode cX2_loseOldest 21 = .ok (.getfield 15, 3) := by decide +kernel
theorem dX2_loseOldest_24 : decode cX2_loseOldest 24 = .ok (.iconst 0, 1) := by decide +kernel
theorem dX2_loseOldest_25 : decode cX2_loseOldest 25 = .ok (.bipush 11, 2) := by decide +kernel
theorem dX2_loseOldest_27 : decode cX2_loseOldest 27 = .ok (.invokestatic 34, 3) := by decide +kernel
theorem dX2_loseOldest_30 : decode cX2_loseOldest 30 = .ok (.aload_n 0, 1) := by decide +kernel
theorem dX2_loseOldest_31 : decode cX2_loseOldest 31 = .ok (.getfield 18, 3) := by decide +kernel
theorem dX2_loseOldest_34 : decode cX2_loseOldest 34 = .ok (.iconst 1, 1) := by decide +kernel
theorem dX2_loseOldest_35 : decode cX2_loseOldest 35 = .ok (.aload_n 0, 1) := by decide +kernel
theorem dX2_loseOldest_36 : decode cX2_loseOldest 36 = .ok (.getfield 18, 3) := by decide +kernel
theorem dX2_loseOldest_39 : decode cX2_loseOldest 39 = .ok (.iconst 0, 1) := by decide +kernel
theorem dX2_loseOldest_40 : decode cX2_loseOldest 40 = .ok (.bipush 11, 2) := by decide +kernel
theorem dX2_loseOldest_42 : decode cX2_loseOldest 42 = .ok (.invokestatic 34, 3) := by decide +kernel
theorem dX2_loseOldest_45 : decode cX2_loseOldest 45 = .ok (.aload_n 0, 1) := by decide +kernel
theorem dX2_loseOldest_46 : decode cX2_loseOldest 46 = .ok (.bipush 11, 2) := by decide +kernel
theorem dX2_loseOldest_48 : decode cX2_loseOldest 48 = .ok (.putfield 31, 3) := by decide +kernel
theorem dX2_loseOldest_51 : decode cX2_loseOldest 51 = .ok (.return_, 1) := by decide +kernel
set_option maxRecDepth 20000 in
theorem ggX2_recall_X5_isWithin : GoodIn wsX2_recall wsX5_isWithin := goodIn_r _ [10] (by decide +kernel) (by decide +kernel)
set_option maxRecDepth 20000 in
theorem gX2_recall_X5_isWithin_n43 : GoodIn wsX2_recall (wsX5_isWithin) := ggX2_recall_X5_isWithin
theorem dX2_recall_0 : decode cX2_recall 0 = .ok (.aload_n 0, 1) := by decide +kernel
theorem dX2_recall_1 : decode cX2_recall 1 = .ok (.getfield 31, 3) := by decide +kernel
theorem dX2_recall_4 : decode cX2_recall 4 = .ok (.iconst 1, 1) := by decide +kernel
theorem dX2_recall_5 : decode cX2_recall 5 = .ok (.bipush 12, 2) := by decide +kernel
theorem dX2_recall_7 : decode cX2_recall 7 = .ok (.invokestatic 43, 3) := by decide +kernel
theorem dX2_recall_10 : decode cX2_recall 10 = .ok (.ifCond .ne 4, 3) := by decide +kernel
theorem dX2_recall_13 : decode cX2_recall 13 = .ok (.return_, 1) := by decide +kernel
theorem dX2_recall_14 : decode cX2_recall 14 = .ok (.aload_n 0, 1) := by decide +kernel
theorem dX2_recall_15 : decode cX2_recall 15 = .ok (.dup, 1) := by decide +kernel
theorem dX2_recall_16 : decode cX2_recall 16 = .ok (.getfield 31, 3) := by decide +kernel
theorem dX2_recall_19 : decode cX2_recall 19 = .ok (.iconst 1, 1) := by decide +kernel
theorem dX2_recall_20 : decode cX2_recall 20 = .ok (.isub, 1) := by decide +kernel
theorem dX2_recall_21 : decode cX2_recall 21 = .ok (.putfield 31, 3) := by decide +kernel
theorem dX2_recall_24 : decode cX2_recall 24 = .ok (.aload_n 0, 1) := by decide +kernel
theorem dX2_recall_25 : decode cX2_recall 25 = .ok (.aload_n 0, 1) := by decide +kernel
theorem dX2_recall_26 : decode cX2_recall 26 = .ok (.getfield 9, 3) := by decide +kernel
theorem dX2_recall_29 : decode cX2_recall 29 = .ok (.aload_n 0, 1) := by decide +kernel
theorem dX2_recall_30 : decode cX2_recall 30 = .ok (.getfield 31, 3) := by decide +kernel
theorem dX2_recall_33 : decode cX2_recall 33 = .ok (.iaload, 1) := by decide +kernel
theorem dX2_recall_34 : decode cX2_recall 34 = .ok (.putfield 21, 3) := by decide +kernel
theorem dX2_recall_37 : decode cX2_recall 37 = .ok (.aload_n 0, 1) := by decide +kernel
theorem dX2_recall_38 : decode cX2_recall 38 = .ok (.aload_n 0, 1) := by decide +kernel
theorem dX2_recall_39 : decode cX2_recall 39 = .ok (.getfield 15, 3) := by decide +kernel
theorem dX2_recall_42 : decode cX2_recall 42 = .ok (.aload_n 0, 1) := by decide +kernel
theorem dX2_recall_43 : decode cX2_recall 43 = .ok (.getfield 31, 3) := by decide +kernel
theorem dX2_recall_46 : decode cX2_recall 46 = .ok (.iaload, 1) := by decide +kernel
theorem dX2_recall_47 : decode cX2_recall 47 = .ok (.putfield 25, 3) := by decide +kernel
theorem dX2_recall_50 : decode cX2_recall 50 = .ok (.aload_n 0, 1) := by decide +kernel
theorem dX2_recall_51 : decode cX2_recall 51 = .ok (.aload_n 0, 1) := by decide +kernel
theorem dX2_recall_52 : decode cX2_recall 52 = .ok (.getfield 18, 3) := by decide +kernel
theorem dX2_recall_55 : decode cX2_recall 55 = .ok (.aload_n 0, 1) := by decide +kernel
theorem dX2_recall_56 : decode cX2_recall 56 = .ok (.getfield 31, 3) := by decide +kernel
theorem dX2_recall_59 : decode cX2_recall 59 = .ok (.iaload, 1) := by decide +kernel
theorem dX2_recall_60 : decode cX2_recall 60 = .ok (.putfield 28, 3) := by decide +kernel
theorem dX2_recall_63 : decode cX2_recall 63 = .ok (.return_, 1) := by decide +kernel
theorem dX3_init_0 : decode cX3_init 0 = .ok (.aload_n 0, 1) := by decide +kernel
theorem dX3_init_1 : decode cX3_init 1 = .ok (.invokespecial 3, 3) := by decide +kernel
theorem dX3_init_4 : decode cX3_init 4 = .ok (.aload_n 0, 1) := by decide +kernel
theorem dX3_init_5 : decode cX3_init 5 = .ok (.sipush 427, 3) := by decide +kernel
theorem dX3_init_8 : decode cX3_init 8 = .ok (.newarray .int, 2) := by decide +kernel
theorem dX3_init_10 : decode cX3_init 10 = .ok (.putfield 9, 3) := by decide +kernel
theorem dX3_init_13 : decode cX3_init 13 = .ok (.aload_n 0, 1) := by decide +kernel
theorem dX3_init_14 : decode cX3_init 14 = .ok (.bipush 7, 2) := by decide +kernel
theorem dX3_init_16 : decode cX3_init 16 = .ok (.newarray .int, 2) := by decide +kernel
theorem dX3_init_18 : decode cX3_init 18 = .ok (.putfield 15, 3) := by decide +kernel
theorem dX3_init_21 : decode cX3_init 21 = .ok (.aload_n 0, 1) := by decide +kernel
theorem dX3_init_22 : decode cX3_init 22 = .ok (.bipush 125, 2) := by decide +kernel
theorem dX3_init_24 : decode cX3_init 24 = .ok (.newarray .int, 2) := by decide +kernel
theorem dX3_init_26 : decode cX3_init 26 = .ok (.putfield 18, 3) := by decide +kernel
theorem dX3_init_29 : decode cX3_init 29 = .ok (.aload_n 0, 1) := by decide +kernel
theorem dX3_init_30 : decode cX3_init 30 = .ok (.aload_n 1, 1) := by decide +kernel
theorem dX3_init_31 : decode cX3_init 31 = .ok (.putfield 21, 3) := by decide +kernel
theorem dX3_init_34 : decode cX3_init 34 = .ok (.aload_n 0, 1) := by decide +kernel
theorem dX3_init_35 : decode cX3_init 35 = .ok (.aload_n 2, 1) := by decide +kernel
theorem dX3_init_36 : decode cX3_init 36 = .ok (.putfield 25, 3) := by decide +kernel
theorem dX3_init_39 : decode cX3_init 39 = .ok (.aload_n 0, 1) := by decide +kernel
theorem dX3_init_40 : decode cX3_init 40 = .ok (.bipush (-9), 2) := by decide +kernel
theorem dX3_init_42 : decode cX3_init 42 = .ok (.putfield 29, 3) := by decide +kernel
theorem dX3_init_45 : decode cX3_init 45 = .ok (.return_, 1) := by decide +kernel
theorem dX3_forgetWay_0 : decode cX3_forgetWay 0 = .ok (.aload_n 0, 1) := by decide +kernel
theorem dX3_forgetWay_1 : decode cX3_forgetWay 1 = .ok (.bipush (-9), 2) := by decide +kernel
theorem dX3_forgetWay_3 : decode cX3_forgetWay 3 = .ok (.putfield 29, 3) := by decide +kernel
theorem dX3_forgetWay_6 : decode cX3_forgetWay 6 = .ok (.return_, 1) := by decide +kernel
set_option maxRecDepth 20000 in
theorem ggX3_findWay_X3_isWayKnown : GoodIn wsX3_findWay wsX3_isWayKnown := goodIn_r _ [16, 1, 4, 2, 3, 6, 5, 8, 7, 186, 187, 188, 189, 190, 191, 192, 193, 194, 195, 196, 197, 198, 199, 200, 201, 202, 203, 204, 205, 206, 207] (by decide +kernel) (by decide +kernel)
set_option maxRecDepth 20000 in
theorem gX3_findWay_X3_isWayKnown : GoodIn wsX3_findWay (wsV RX3 33 RX3 yX3_isWayKnown wsX3_isWayKnown) := goodIn_app (goodIn_of _ (by decide +kernel)) ggX3_findWay_X3_isWayKnown
set_option maxRecDepth 20000 in
theorem ggX3_findWay_X3_fewestHours : GoodIn wsX3_findWay wsX3_fewestHours := goodIn_r _ [20, 21, 2, 3, 7, 22, 23, 24, 25, 26, 27, 28, 29, 30, 15, 31, 32, 33, 34, 35, 36, 37, 38, 39, 40, 41, 42, 43, 44, 45, 46, 47, 48, 49, 50, 51, 52, 53, 54, 55, 56, 57, 58, 59, 60, 61, 62, 63, 64, 65, 66, 67, 68, 69, 70, 71, 72, 73, 74, 75, 76, 77, 78, 79, 80, 81, 82, 83, 84, 85, 86, 87, 88, 89, 90, 91, 92, 93, 94, 95, 96, 97, 98, 99, 100, 101, 102, 103, 104, 5, 105, 106, 107, 108, 109, 110, 111, 112, 113, 114, 115, 116, 117, 118, 119, 120, 121, 122, 123, 124, 125, 126, 127, 128, 129, 130, 186, 187, 188, 189, 190, 191, 192, 193, 194, 195, 196, 197, 198, 199, 200, 201, 202, 203, 204, 205, 206, 207, 208, 209, 210, 211, 212, 213, 214, 215, 216, 217, 218, 219, 220] (by decide +kernel) (by decide +kernel)
set_option maxRecDepth 20000 in
theorem gX3_findWay_X3_fewestHours : GoodIn wsX3_findWay (wsV RX3 60 RX3 yX3_fewestHours wsX3_fewestHours) := goodIn_app (goodIn_of _ (by decide +kernel)) ggX3_findWay_X3_fewestHours
set_option maxRecDepth 20000 in
theorem ggX3_findWay_X3_fillBackward : GoodIn wsX3_findWay wsX3_fillBackward := goodIn_r _ [134, 21, 22, 23, 24, 25, 26, 27, 69, 70, 15, 71, 72, 73, 74, 75, 28, 29, 30, 31, 32, 33, 34, 60, 61, 62, 63, 76, 77, 78, 79, 80, 81, 82, 83, 47, 84, 85, 86, 87, 88, 89, 90, 91, 92, 93, 94, 95, 96, 97, 98, 99, 100, 101, 102, 103, 104, 2, 5, 105, 106, 107, 108, 109, 110, 111, 112, 113, 114, 115, 116, 117, 118, 119, 120, 121, 122, 123, 124, 125, 126, 127, 128, 129, 130, 35, 36, 37, 38, 39, 40, 41, 42, 43, 44, 45, 46, 48, 49, 50, 51, 52, 53, 54, 55, 56, 57, 58, 59, 64, 65, 66, 67, 68, 186, 187, 188, 189, 190, 191, 192, 193, 194, 195, 196, 197, 198, 199, 208, 209, 210, 211, 212, 213, 214, 215, 216, 217, 218, 219, 220, 200, 201, 202, 203, 204, 205, 206, 207] (by decide +kernel) (by decide +kernel)
set_option maxRecDepth 20000 in
theorem gX3_findWay_X3_fillBackward : GoodIn wsX3_findWay (wsV RX3 67 RX3 yX3_fillBackward wsX3_fillBackward) := goodIn_app (goodIn_of _ (by decide +kernel)) ggX3_findWay_X3_fillBackward
set_option maxRecDepth 20000 in
theorem ggX3_findWay_X3_standAtStart : GoodIn wsX3_findWay wsX3_standAtStart := goodIn_r _ [138, 4, 139, 140, 8, 141, 186, 187, 188, 189, 190, 191, 192, 193, 194, 195, 196, 197, 198, 199] (by decide +kernel) (by decide +kernel)
set_option maxRecDepth 20000 in
theorem gX3_findWay_X3_standAtStart : GoodIn wsX3_findWay (wsV RX3 71 RX3 yX3_standAtStart wsX3_standAtStart) := goodIn_app (goodIn_of _ (by decide +kernel)) ggX3_findWay_X3_standAtStart
set_option maxRecDepth 20000 in
theorem ggX3_findWay_X3_nextStep : GoodIn wsX3_findWay wsX3_nextStep := goodIn_r _ [145, 139, 141, 1, 140, 22, 80, 39, 146, 74, 147, 148, 73, 75, 149, 150, 151, 15, 152, 21, 32, 33, 34, 153, 154, 155, 156, 2, 5, 157, 158, 159, 47, 160, 85, 95, 86, 87, 88, 89, 90, 96, 97, 98, 99, 100, 161, 162, 163, 164, 165, 106, 107, 108, 109, 110, 111, 112, 113, 114, 115, 116, 117, 118, 119, 166, 121, 122, 123, 124, 167, 168, 169, 170, 171, 172, 173, 174, 175, 176, 177, 178, 49, 68, 59, 50, 51, 52, 53, 54, 55, 56, 57, 58, 186, 187, 188, 189, 190, 191, 192, 193, 194, 195, 196, 197, 198, 199, 208, 209, 210, 211, 212, 213, 214, 215, 216, 217, 218, 219, 220, 200, 201, 202, 203, 204, 205, 206, 207] (by decide +kernel) (by decide +kernel)
set_option maxRecDepth 20000 in
theorem gX3_findWay_X3_nextStep : GoodIn wsX3_findWay (wsV RX3 74 RX3 yX3_nextStep wsX3_nextStep) := goodIn_app (goodIn_of _ (by decide +kernel)) ggX3_findWay_X3_nextStep
set_option maxRecDepth 20000 in
theorem ggX3_findWay_X3_takeStep : GoodIn wsX3_findWay wsX3_takeStep := goodIn_r _ [182, 140, 22, 139, 141, 183, 184, 15, 185, 157, 158, 159, 47, 160, 85, 95, 86, 87, 88, 89, 90, 96, 97, 98, 99, 100, 167, 168, 169, 170, 166, 121, 122, 123, 124, 111, 112, 113, 114, 115, 73, 74, 75, 55, 56, 57, 58, 59, 50, 51, 52, 53, 54, 186, 187, 188, 189, 190, 191, 192, 193, 194, 195, 196, 197, 198, 199, 208, 209, 210, 211, 212, 213, 214, 215, 216, 217, 218, 219, 220] (by decide +kernel) (by decide +kernel)
set_option maxRecDepth 20000 in
theorem gX3_findWay_X3_takeStep : GoodIn wsX3_findWay (wsV RX3 78 RX3 yX3_takeStep wsX3_takeStep) := goodIn_app (goodIn_of _ (by decide +kernel)) ggX3_findWay_X3_takeStep
theorem dX3_findWay_0 : decode cX3_findWay 0 = .ok (.aload_n 0, 1) := by decide +kernel
theorem dX3_findWay_1 : decode cX3_findWay 1 = .ok (.iload_n 1, 1) := by decide +kernel
theorem dX3_findWay_2 : decode cX3_findWay 2 = .ok (.invokevirtual 33, 3) := by decide +kernel
theorem dX3_findWay_5 : decode cX3_findWay 5 = .ok (.ifCond .eq 4, 3) := by decide +kernel
theorem dX3_findWay_8 : decode cX3_findWay 8 = .ok (.return_, 1) := by decide +kernel
theorem dX3_findWay_9 : decode cX3_findWay 9 = .ok (.aload_n 0, 1) := by decide +kernel
theorem dX3_findWay_10 : decode cX3_findWay 10 = .ok (.iload_n 1, 1) := by decide +kernel
theorem dX3_findWay_11 : decode cX3_findWay 11 = .ok (.putfield 29, 3) := by decide +kernel
theorem dX3_findWay_14 : decode cX3_findWay 14 = .ok (.aload_n 0, 1) := by decide +kernel
theorem dX3_findWay_15 : decode cX3_findWay 15 = .ok (.aload_n 0, 1) := by decide +kernel
theorem dX3_findWay_16 : decode cX3_findWay 16 = .ok (.getfield 25, 3) := by decide +kernel
theorem dX3_findWay_19 : decode cX3_findWay 19 = .ok (.getfield 37, 3) := by decide +kernel
theorem dX3_findWay_22 : decode cX3_findWay 22 = .ok (.putfield 42, 3) := by decide +kernel
theorem dX3_findWay_25 : decode cX3_findWay 25 = .ok (.aload_n 0, 1) := by decide +kernel
theorem dX3_findWay_26 : decode cX3_findWay 26 = .ok (.aload_n 0, 1) := by decide +kernel
theorem dX3_findWay_27 : decode cX3_findWay 27 = .ok (.getfield 25, 3) := by decide +kernel
theorem dX3_findWay_30 : decode cX3_findWay 30 = .ok (.getfield 45, 3) := by decide +kernel
theorem dX3_findWay_33 : decode cX3_findWay 33 = .ok (.putfield 48, 3) := by decide +kernel
theorem dX3_findWay_36 : decode cX3_findWay 36 = .ok (.aload_n 0, 1) := by decide +kernel
theorem dX3_findWay_37 : decode cX3_findWay 37 = .ok (.aload_n 0, 1) := by decide +kernel
theorem dX3_findWay_38 : decode cX3_findWay 38 = .ok (.getfield 25, 3) := by decide +kernel
theorem dX3_findWay_41 : decode cX3_findWay 41 = .ok (.getfield 51, 3) := by decide +kernel
theorem dX3_findWay_44 : decode cX3_findWay 44 = .ok (.putfield 54, 3) := by decide +kernel
theorem dX3_findWay_47 : decode cX3_findWay 47 = .ok (.aload_n 0, 1) := by decide +kernel
theorem dX3_findWay_48 : decode cX3_findWay 48 = .ok (.iconst 0, 1) := by decide +kernel
theorem dX3_findWay_49 : decode cX3_findWay 49 = .ok (.putfield 57, 3) := by decide +kernel
theorem dX3_findWay_52 : decode cX3_findWay 52 = .ok (.aload_n 0, 1) := by decide +kernel
theorem dX3_findWay_53 : decode cX3_findWay 53 = .ok (.aload_n 0, 1) := by decide +kernel
theorem dX3_findWay_54 : decode cX3_findWay 54 = .ok (.iload_n 1, 1) := by decide +kernel
theorem dX3_findWay_55 : decode cX3_findWay 55 = .ok (.iconst (-1), 1) := by decide +kernel
theorem dX3_findWay_56 : decode cX3_findWay 56 = .ok (.iconst (-1), 1) := by decide +kernel
theorem dX3_findWay_57 : decode cX3_findWay 57 = .ok (.invokevirtual 60, 3) := by decide +kernel
theorem dX3_findWay_60 : decode cX3_findWay 60 = .ok (.putfield 64, 3) := by decide +kernel
theorem dX3_findWay_63 : decode cX3_findWay 63 = .ok (.aload_n 0, 1) := by decide +kernel
theorem dX3_findWay_64 : decode cX3_findWay 64 = .ok (.getfield 64, 3) := by decide +kernel
theorem dX3_findWay_67 : decode cX3_findWay 67 = .ok (.bipush (-9), 2) := by decide +kernel
theorem dX3_findWay_69 : decode cX3_findWay 69 = .ok (.if_icmp .ne 4, 3) := by decide +kernel
theorem dX3_findWay_72 : decode cX3_findWay 72 = .ok (.return_, 1) := by decide +kernel
theorem dX3_findWay_73 : decode cX3_findWay 73 = .ok (.aload_n 0, 1) := by decide +kernel
theorem dX3_findWay_74 : decode cX3_findWay 74 = .ok (.iload_n 1, 1) := by decide +kernel
theorem dX3_findWay_75 : decode cX3_findWay 75 = .ok (.aload_n 0, 1) := by decide +kernel
theorem dX3_findWay_76 : decode cX3_findWay 76 = .ok (.getfield 64, 3) := by decide +kernel
theorem dX3_findWay_79 : decode cX3_findWay 79 = .ok (.invokevirtual 67, 3) := by decide +kernel
theorem dX3_findWay_82 : decode cX3_findWay 82 = .ok (.aload_n 0, 1) := by decide +kernel
theorem dX3_findWay_83 : decode cX3_findWay 83 = .ok (.invokevirtual 71, 3) := by decide +kernel
theorem dX3_findWay_86 : decode cX3_findWay 86 = .ok (.iconst 0, 1) := by decide +kernel
theorem dX3_findWay_87 : decode cX3_findWay 87 = .ok (.istore_n 2, 1) := by decide +kernel
theorem dX3_findWay_88 : decode cX3_findWay 88 = .ok (.iload_n 2, 1) := by decide +kernel
theorem dX3_findWay_89 : decode cX3_findWay 89 = .ok (.bipush 125, 2) := by decide +kernel
theorem dX3_findWay_91 : decode cX3_findWay 91 = .ok (.if_icmp .ge 40, 3) := by decide +kernel
theorem dX3_findWay_94 : decode cX3_findWay 94 = .ok (.aload_n 0, 1) := by decide +kernel
theorem dX3_findWay_95 : decode cX3_findWay 95 = .ok (.invokevirtual 74, 3) := by decide +kernel
theorem dX3_findWay_98 : decode cX3_findWay 98 = .ok (.istore_n 3, 1) := by decide +kernel
theorem dX3_findWay_99 : decode cX3_findWay 99 = .ok (.iload_n 3, 1) := by decide +kernel
theorem dX3_findWay_100 : decode cX3_findWay 100 = .ok (.bipush (-9), 2) := by decide +kernel
theorem dX3_findWay_102 : decode cX3_findWay 102 = .ok (.if_icmp .ne 4, 3) := by decide +kernel
theorem dX3_findWay_105 : decode cX3_findWay 105 = .ok (.return_, 1) := by decide +kernel
theorem dX3_findWay_106 : decode cX3_findWay 106 = .ok (.aload_n 0, 1) := by decide +kernel
theorem dX3_findWay_107 : decode cX3_findWay 107 = .ok (.getfield 18, 3) := by decide +kernel
theorem dX3_findWay_110 : decode cX3_findWay 110 = .ok (.iload_n 2, 1) := by decide +kernel
theorem dX3_findWay_111 : decode cX3_findWay 111 = .ok (.iload_n 3, 1) := by decide +kernel
theorem dX3_findWay_112 : decode cX3_findWay 112 = .ok (.iastore, 1) := by decide +kernel
theorem dX3_findWay_113 : decode cX3_findWay 113 = .ok (.aload_n 0, 1) := by decide +kernel
theorem dX3_findWay_114 : decode cX3_findWay 114 = .ok (.iload_n 2, 1) := by decide +kernel
theorem dX3_findWay_115 : decode cX3_findWay 115 = .ok (.iconst 1, 1) := by decide +kernel
theorem dX3_findWay_116 : decode cX3_findWay 116 = .ok (.iadd, 1) := by decide +kernel
theorem dX3_findWay_117 : decode cX3_findWay 117 = .ok (.putfield 57, 3) := by decide +kernel
theorem dX3_findWay_120 : decode cX3_findWay 120 = .ok (.aload_n 0, 1) := by decide +kernel
theorem dX3_findWay_121 : decode cX3_findWay 121 = .ok (.iload_n 3, 1) := by decide +kernel
theorem dX3_findWay_122 : decode cX3_findWay 122 = .ok (.invokevirtual 78, 3) := by decide +kernel
theorem dX3_findWay_125 : decode cX3_findWay 125 = .ok (.iinc 2 1, 3) := by decide +kernel
theorem dX3_findWay_128 : decode cX3_findWay 128 = .ok (.goto (-40), 3) := by decide +kernel
theorem dX3_findWay_131 : decode cX3_findWay 131 = .ok (.return_, 1) := by decide +kernel
theorem dX3_isWayKnown_0 : decode cX3_isWayKnown 0 = .ok (.iload_n 1, 1) := by decide +kernel
theorem dX3_isWayKnown_1 : decode cX3_isWayKnown 1 = .ok (.aload_n 0, 1) := by decide +kernel
theorem dX3_isWayKnown_2 : decode cX3_isWayKnown 2 = .ok (.getfield 29, 3) := by decide +kernel
theorem dX3_isWayKnown_5 : decode cX3_isWayKnown 5 = .ok (.if_icmp .ne 49, 3) := by decide +kernel
theorem dX3_isWayKnown_8 : decode cX3_isWayKnown 8 = .ok (.aload_n 0, 1) := by decide +kernel
theorem dX3_isWayKnown_9 : decode cX3_isWayKnown 9 = .ok (.getfield 42, 3) := by decide +kernel
theorem dX3_isWayKnown_12 : decode cX3_isWayKnown 12 = .ok (.aload_n 0, 1) := by decide +kernel
theorem dX3_isWayKnown_13 : decode cX3_isWayKnown 13 = .ok (.getfield 25, 3) := by decide +kernel
theorem dX3_isWayKnown_16 : decode cX3_isWayKnown 16 = .ok (.getfield 37, 3) := by decide +kernel
theorem dX3_isWayKnown_19 : decode cX3_isWayKnown 19 = .ok (.if_icmp .ne 35, 3) := by decide +kernel
theorem dX3_isWayKnown_22 : decode cX3_isWayKnown 22 = .ok (.aload_n 0, 1) := by decide +kernel
theorem dX3_isWayKnown_23 : decode cX3_isWayKnown 23 = .ok (.getfield 48, 3) := by decide +kernel
theorem dX3_isWayKnown_26 : decode cX3_isWayKnown 26 = .ok (.aload_n 0, 1) := by decide +kernel
theorem dX3_isWayKnown_27 : decode cX3_isWayKnown 27 = .ok (.getfield 25, 3) := by decide +kernel
theorem dX3_isWayKnown_30 : decode cX3_isWayKnown 30 = .ok (.getfield 45, 3) := by decide +kernel
theorem dX3_isWayKnown_33 : decode cX3_isWayKnown 33 = .ok (.if_icmp .ne 21, 3) := by decide +kernel
theorem dX3_isWayKnown_36 : decode cX3_isWayKnown 36 = .ok (.aload_n 0, 1) := by decide +kernel
theorem dX3_isWayKnown_37 : decode cX3_isWayKnown 37 = .ok (.getfield 54, 3) := by decide +kernel
theorem dX3_isWayKnown_40 : decode cX3_isWayKnown 40 = .ok (.aload_n 0, 1) := by decide +kernel
theorem dX3_isWayKnown_41 : decode cX3_isWayKnown 41 = .ok (.getfield 25, 3) := by decide +kernel
theorem dX3_isWayKnown_44 : decode cX3_isWayKnown 44 = .ok (.getfield 51, 3) := by decide +kernel
theorem dX3_isWayKnown_47 : decode cX3_isWayKnown 47 = .ok (.if_icmp .ne 7, 3) := by decide +kernel
theorem dX3_isWayKnown_50 : decode cX3_isWayKnown 50 = .ok (.iconst 1, 1) := by decide +kernel
theorem dX3_isWayKnown_51 : decode cX3_isWayKnown 51 = .ok (.goto 4, 3) := by decide +kernel
theorem dX3_isWayKnown_54 : decode cX3_isWayKnown 54 = .ok (.iconst 0, 1) := by decide +kernel
theorem dX3_isWayKnown_55 : decode cX3_isWayKnown 55 = .ok (.ireturn, 1) := by decide +kernel
theorem dX3_stepOfWay_0 : decode cX3_stepOfWay 0 = .ok (.iload_n 1, 1) := by decide +kernel
theorem dX3_stepOfWay_1 : decode cX3_stepOfWay 1 = .ok (.ifCond .lt 26, 3) := by decide +kernel
theorem dX3_stepOfWay_4 : decode cX3_stepOfWay 4 = .ok (.iload_n 1, 1) := by decide +kernel
theorem dX3_stepOfWay_5 : decode cX3_stepOfWay 5 = .ok (.aload_n 0, 1) := by decide +kernel
theorem dX3_stepOfWay_6 : decode cX3_stepOfWay 6 = .ok (.getfield 57, 3) := by decide +kernel
theorem dX3_stepOfWay_9 : decode cX3_stepOfWay 9 = .ok (.if_icmp .ge 18, 3) := by decide +kernel
theorem dX3_stepOfWay_12 : decode cX3_stepOfWay 12 = .ok (.iload_n 1, 1) := by decide +kernel
theorem dX3_stepOfWay_13 : decode cX3_stepOfWay 13 = .ok (.bipush 125, 2) := by decide +kernel
theorem dX3_stepOfWay_15 : decode cX3_stepOfWay 15 = .ok (.if_icmp .ge 12, 3) := by decide +kernel
theorem dX3_stepOfWay_18 : decode cX3_stepOfWay 18 = .ok (.aload_n 0, 1) := by decide +kernel
theorem dX3_stepOfWay_19 : decode cX3_stepOfWay 19 = .ok (.getfield 18, 3) := by decide +kernel
theorem dX3_stepOfWay_22 : decode cX3_stepOfWay 22 = .ok (.iload_n 1, 1) := by decide +kernel
theorem dX3_stepOfWay_23 : decode cX3_stepOfWay 23 = .ok (.iaload, 1) := by decide +kernel
theorem dX3_stepOfWay_24 : decode cX3_stepOfWay 24 = .ok (.goto 5, 3) := by decide +kernel
theorem dX3_stepOfWay_27 : decode cX3_stepOfWay 27 = .ok (.bipush (-9), 2) := by decide +kernel
theorem dX3_stepOfWay_29 : decode cX3_stepOfWay 29 = .ok (.ireturn, 1) := by decide +kernel
set_option maxRecDepth 20000 in
theorem ggX3_placeOfRobbery_X3_measureBrother : GoodIn wsX3_placeOfRobbery wsX3_measureBrother := goodIn_r _ [11, 12, 13, 14, 15, 16, 17, 18, 19, 20, 21, 22, 23, 24, 25, 26, 27, 28, 29, 30, 31, 32, 33, 10, 34, 35, 36, 37, 38, 39, 40, 41, 42, 43, 44, 45, 46, 47, 48, 92, 93, 94, 95, 96, 97, 98, 99, 100, 101, 102, 103, 104, 105, 106, 107, 108, 109, 110, 111, 112, 113, 114, 115, 116, 117, 118] (by decide +kernel) (by decide +kernel)
set_option maxRecDepth 20000 in
theorem gX3_placeOfRobbery_X3_measureBrother : GoodIn wsX3_placeOfRobbery (wsV RX3 82 RX3 yX3_measureBrother wsX3_measureBrother) := goodIn_app (goodIn_of _ (by decide +kernel)) ggX3_placeOfRobbery_X3_measureBrother
set_option maxRecDepth 20000 in
theorem ggX3_placeOfRobbery_X3_standAtStart : GoodIn wsX3_placeOfRobbery wsX3_standAtStart := goodIn_r _ [52, 53, 5, 6, 54, 2, 92, 93, 94, 95, 96, 97, 98, 99, 100, 101, 102, 103, 104, 105] (by decide +kernel) (by decide +kernel)
set_option maxRecDepth 20000 in
theorem gX3_placeOfRobbery_X3_standAtStart : GoodIn wsX3_placeOfRobbery (wsV RX3 71 RX3 yX3_standAtStart wsX3_standAtStart) := goodIn_app (goodIn_of _ (by decide +kernel)) ggX3_placeOfRobbery_X3_standAtStart
set_option maxRecDepth 20000 in
theorem ggX3_placeOfRobbery_X5_hasThing : GoodIn wsX3_placeOfRobbery wsX5_hasThing := goodIn_r _ [57, 58, 59, 56, 60] (by decide +kernel) (by decide +kernel)
set_option maxRecDepth 20000 in
theorem gX3_placeOfRobbery_X5_hasThing_n86 : GoodIn wsX3_placeOfRobbery (wsX5_hasThing) := ggX3_placeOfRobbery_X5_hasThing
set_option maxRecDepth 20000 in
theorem ggX3_placeOfRobbery_X3_takeStep : GoodIn wsX3_placeOfRobbery wsX3_takeStep := goodIn_r _ [64, 6, 13, 5, 2, 65, 66, 10, 67, 68, 69, 70, 18, 71, 20, 30, 21, 22, 23, 24, 25, 44, 45, 46, 47, 48, 72, 73, 74, 75, 76, 77, 78, 79, 80, 81, 40, 41, 42, 43, 59, 56, 60, 82, 83, 84, 85, 86, 87, 88, 89, 90, 91, 92, 93, 94, 95, 96, 97, 98, 99, 100, 101, 102, 103, 104, 105, 106, 107, 108, 109, 110, 111, 112, 113, 114, 115, 116, 117, 118] (by decide +kernel) (by decide +kernel)
set_option maxRecDepth 20000 in
theorem gX3_placeOfRobbery_X3_takeStep : GoodIn wsX3_placeOfRobbery (wsV RX3 78 RX3 yX3_takeStep wsX3_takeStep) := goodIn_app (goodIn_of _ (by decide +kernel)) ggX3_placeOfRobbery_X3_takeStep
set_option maxRecDepth 20000 in
theorem ggX3_placeOfRobbery_X3_isWalk : GoodIn wsX3_placeOfRobbery wsX3_isWalk := goodIn_r _ [67] (by decide +kernel) (by decide +kernel)
set_option maxRecDepth 20000 in
theorem gX3_placeOfRobbery_X3_isWalk : GoodIn wsX3_placeOfRobbery (va_wsS RX3 90 yX3_isWalk wsX3_isWalk) := goodIn_app (goodIn_of _ (by decide +kernel)) ggX3_placeOfRobbery_X3_isWalk
set_option maxRecDepth 20000 in
theorem ggX3_placeOfRobbery_X3_brotherHoursTo : GoodIn wsX3_placeOfRobbery wsX3_brotherHoursTo := goodIn_r _ [38, 13, 12, 39, 40, 41, 18, 42, 43, 92, 93, 94, 95, 96, 97, 98, 99, 100, 101, 102, 103, 104, 105, 106, 107, 108, 109, 110, 111, 112, 113, 114, 115, 116, 117, 118] (by decide +kernel) (by decide +kernel)
set_option maxRecDepth 20000 in
theorem gX3_placeOfRobbery_X3_brotherHoursTo : GoodIn wsX3_placeOfRobbery (wsV RX3 94 RX3 yX3_brotherHoursTo wsX3_brotherHoursTo) := goodIn_app (goodIn_of _ (by decide +kernel)) ggX3_placeOfRobbery_X3_brotherHoursTo
theorem dX3_placeOfRobbery_0 : decode cX3_placeOfRobbery 0 = .ok (.aload_n 0, 1) := by decide +kernel
theorem dX3_placeOfRobbery_1 : decode cX3_placeOfRobbery 1 = .ok (.iload_n 1, 1) := by decide +kernel
theorem dX3_placeOfRobbery_2 : decode cX3_placeOfRobbery 2 = .ok (.invokevirtual 82, 3) := by decide +kernel
theorem dX3_placeOfRobbery_5 : decode cX3_placeOfRobbery 5 = .ok (.aload_n 0, 1) := by decide +kernel
theorem dX3_placeOfRobbery_6 : decode cX3_placeOfRobbery 6 = .ok (.invokevirtual 71, 3) := by decide +kernel
theorem dX3_placeOfRobbery_9 : decode cX3_placeOfRobbery 9 = .ok (.iconst 0, 1) := by decide +kernel
theorem dX3_placeOfRobbery_10 : decode cX3_placeOfRobbery 10 = .ok (.istore_n 2, 1) := by decide +kernel
theorem dX3_placeOfRobbery_11 : decode cX3_placeOfRobbery 11 = .ok (.iload_n 2, 1) := by decide +kernel
theorem dX3_placeOfRobbery_12 : decode cX3_placeOfRobbery 12 = .ok (.aload_n 0, 1) := by decide +kernel
theorem dX3_placeOfRobbery_13 : decode cX3_placeOfRobbery 13 = .ok (.getfield 57, 3) := by decide +kernel
theorem dX3_placeOfRobbery_16 : decode cX3_placeOfRobbery 16 = .ok (.if_icmp .ge 73, 3) := by decide +kernel
theorem dX3_placeOfRobbery_19 : decode cX3_placeOfRobbery 19 = .ok (.iload_n 2, 1) := by decide +kernel
theorem dX3_placeOfRobbery_20 : decode cX3_placeOfRobbery 20 = .ok (.bipush 125, 2) := by decide +kernel
theorem dX3_placeOfRobbery_22 : decode cX3_placeOfRobbery 22 = .ok (.if_icmp .ge 67, 3) := by decide +kernel
theorem dX3_placeOfRobbery_25 : decode cX3_placeOfRobbery 25 = .ok (.aload_n 0, 1) := by decide +kernel
theorem dX3_placeOfRobbery_26 : decode cX3_placeOfRobbery 26 = .ok (.getfield 85, 3) := by decide +kernel
theorem dX3_placeOfRobbery_29 : decode cX3_placeOfRobbery 29 = .ok (.aload_n 0, 1) := by decide +kernel
theorem dX3_placeOfRobbery_30 : decode cX3_placeOfRobbery 30 = .ok (.getfield 29, 3) := by decide +kernel
theorem dX3_placeOfRobbery_33 : decode cX3_placeOfRobbery 33 = .ok (.invokestatic 86, 3) := by decide +kernel
theorem dX3_placeOfRobbery_36 : decode cX3_placeOfRobbery 36 = .ok (.istore_n 3, 1) := by decide +kernel
theorem dX3_placeOfRobbery_37 : decode cX3_placeOfRobbery 37 = .ok (.aload_n 0, 1) := by decide +kernel
theorem dX3_placeOfRobbery_38 : decode cX3_placeOfRobbery 38 = .ok (.aload_n 0, 1) := by decide +kernel
theorem dX3_placeOfRobbery_39 : decode cX3_placeOfRobbery 39 = .ok (.getfield 18, 3) := by decide +kernel
theorem dX3_placeOfRobbery_42 : decode cX3_placeOfRobbery 42 = .ok (.iload_n 2, 1) := by decide +kernel
theorem dX3_placeOfRobbery_43 : decode cX3_placeOfRobbery 43 = .ok (.iaload, 1) := by decide +kernel
theorem dX3_placeOfRobbery_44 : decode cX3_placeOfRobbery 44 = .ok (.invokevirtual 78, 3) := by decide +kernel
theorem dX3_placeOfRobbery_47 : decode cX3_placeOfRobbery 47 = .ok (.aload_n 0, 1) := by decide +kernel
theorem dX3_placeOfRobbery_48 : decode cX3_placeOfRobbery 48 = .ok (.getfield 18, 3) := by decide +kernel
theorem dX3_placeOfRobbery_51 : decode cX3_placeOfRobbery 51 = .ok (.iload_n 2, 1) := by decide +kernel
theorem dX3_placeOfRobbery_52 : decode cX3_placeOfRobbery 52 = .ok (.iaload, 1) := by decide +kernel
theorem dX3_placeOfRobbery_53 : decode cX3_placeOfRobbery 53 = .ok (.invokestatic 90, 3) := by decide +kernel
theorem dX3_placeOfRobbery_56 : decode cX3_placeOfRobbery 56 = .ok (.ifCond .eq 27, 3) := by decide +kernel
theorem dX3_placeOfRobbery_59 : decode cX3_placeOfRobbery 59 = .ok (.iload_n 3, 1) := by decide +kernel
theorem dX3_placeOfRobbery_60 : decode cX3_placeOfRobbery 60 = .ok (.ifCond .eq 23, 3) := by decide +kernel
theorem dX3_placeOfRobbery_63 : decode cX3_placeOfRobbery 63 = .ok (.aload_n 0, 1) := by decide +kernel
theorem dX3_placeOfRobbery_64 : decode cX3_placeOfRobbery 64 = .ok (.aload_n 0, 1) := by decide +kernel
theorem dX3_placeOfRobbery_65 : decode cX3_placeOfRobbery 65 = .ok (.getfield 93, 3) := by decide +kernel
theorem dX3_placeOfRobbery_68 : decode cX3_placeOfRobbery 68 = .ok (.invokevirtual 94, 3) := by decide +kernel
theorem dX3_placeOfRobbery_71 : decode cX3_placeOfRobbery 71 = .ok (.aload_n 0, 1) := by decide +kernel
theorem dX3_placeOfRobbery_72 : decode cX3_placeOfRobbery 72 = .ok (.getfield 98, 3) := by decide +kernel
theorem dX3_placeOfRobbery_75 : decode cX3_placeOfRobbery 75 = .ok (.if_icmp .gt 8, 3) := by decide +kernel
theorem dX3_placeOfRobbery_78 : decode cX3_placeOfRobbery 78 = .ok (.aload_n 0, 1) := by decide +kernel
theorem dX3_placeOfRobbery_79 : decode cX3_placeOfRobbery 79 = .ok (.getfield 93, 3) := by decide +kernel
theorem dX3_placeOfRobbery_82 : decode cX3_placeOfRobbery 82 = .ok (.ireturn, 1) := by decide +kernel
theorem dX3_placeOfRobbery_83 : decode cX3_placeOfRobbery 83 = .ok (.iinc 2 1, 3) := by decide +kernel
theorem dX3_placeOfRobbery_86 : decode cX3_placeOfRobbery 86 = .ok (.goto (-75), 3) := by decide +kernel
theorem dX3_placeOfRobbery_89 : decode cX3_placeOfRobbery 89 = .ok (.bipush (-9), 2) := by decide +kernel
theorem dX3_placeOfRobbery_91 : decode cX3_placeOfRobbery 91 = .ok (.ireturn, 1) := by decide +kernel
set_option maxRecDepth 20000 in
theorem ggX3_neededRoads_X3_usedSteps : GoodIn wsX3_neededRoads wsX3_usedSteps := goodIn_r _ [8, 9, 10, 127, 128, 129, 130, 131, 132, 133, 134, 135, 136, 137, 138, 139, 140] (by decide +kernel) (by decide +kernel)
set_option maxRecDepth 20000 in
theorem gX3_neededRoads_X3_usedSteps : GoodIn wsX3_neededRoads (wsV RX3 101 RX3 yX3_usedSteps wsX3_usedSteps) := goodIn_app (goodIn_of _ (by decide +kernel)) ggX3_neededRoads_X3_usedSteps
set_option maxRecDepth 20000 in
theorem ggX3_neededRoads_X3_fewestHours : GoodIn wsX3_neededRoads wsX3_fewestHours := goodIn_r _ [14, 15, 16, 17, 18, 1, 19, 20, 21, 22, 23, 24, 25, 26, 7, 27, 28, 29, 30, 31, 32, 33, 34, 35, 36, 37, 38, 39, 40, 41, 42, 43, 44, 45, 46, 47, 48, 49, 50, 51, 52, 53, 54, 55, 56, 57, 58, 59, 60, 61, 62, 63, 64, 65, 66, 67, 68, 69, 70, 71, 72, 73, 74, 75, 2, 76, 77, 78, 79, 80, 81, 82, 83, 84, 85, 86, 87, 88, 89, 90, 91, 92, 93, 94, 95, 96, 97, 98, 99, 100, 101, 102, 103, 104, 105, 106, 107, 108, 109, 110, 111, 112, 113, 114, 115, 116, 117, 118, 119, 120, 121, 122, 123, 124, 125, 126, 127, 128, 129, 130, 131, 132, 133, 134, 135, 136, 137, 138, 139, 140, 154, 155, 156, 157, 158, 159, 160, 161, 141, 142, 143, 144, 145, 146, 147, 148, 149, 150, 151, 152, 153] (by decide +kernel) (by decide +kernel)
set_option maxRecDepth 20000 in
theorem gX3_neededRoads_X3_fewestHours : GoodIn wsX3_neededRoads (wsV RX3 60 RX3 yX3_fewestHours wsX3_fewestHours) := goodIn_app (goodIn_of _ (by decide +kernel)) ggX3_neededRoads_X3_fewestHours
theorem dX3_neededRoads_0 : decode cX3_neededRoads 0 = .ok (.aload_n 0, 1) := by decide +kernel
theorem dX3_neededRoads_1 : decode cX3_neededRoads 1 = .ok (.invokevirtual 101, 3) := by decide +kernel
theorem dX3_neededRoads_4 : decode cX3_neededRoads 4 = .ok (.istore_n 1, 1) := by decide +kernel
theorem dX3_neededRoads_5 : decode cX3_neededRoads 5 = .ok (.iconst 0, 1) := by decide +kernel
theorem dX3_neededRoads_6 : decode cX3_neededRoads 6 = .ok (.istore_n 2, 1) := by decide +kernel
theorem dX3_neededRoads_7 : decode cX3_neededRoads 7 = .ok (.iconst 0, 1) := by decide +kernel
theorem dX3_neededRoads_8 : decode cX3_neededRoads 8 = .ok (.istore_n 3, 1) := by decide +kernel
theorem dX3_neededRoads_9 : decode cX3_neededRoads 9 = .ok (.iload_n 3, 1) := by decide +kernel
theorem dX3_neededRoads_10 : decode cX3_neededRoads 10 = .ok (.aload_n 0, 1) := by decide +kernel
theorem dX3_neededRoads_11 : decode cX3_neededRoads 11 = .ok (.getfield 21, 3) := by decide +kernel
theorem dX3_neededRoads_14 : decode cX3_neededRoads 14 = .ok (.getfield 104, 3) := by decide +kernel
theorem dX3_neededRoads_17 : decode cX3_neededRoads 17 = .ok (.if_icmp .ge 53, 3) := by decide +kernel
theorem dX3_neededRoads_20 : decode cX3_neededRoads 20 = .ok (.iload_n 1, 1) := by decide +kernel
theorem dX3_neededRoads_21 : decode cX3_neededRoads 21 = .ok (.iconst 1, 1) := by decide +kernel
theorem dX3_neededRoads_22 : decode cX3_neededRoads 22 = .ok (.iload_n 3, 1) := by decide +kernel
theorem dX3_neededRoads_23 : decode cX3_neededRoads 23 = .ok (.iadd, 1) := by decide +kernel
theorem dX3_neededRoads_24 : decode cX3_neededRoads 24 = .ok (.ishr, 1) := by decide +kernel
theorem dX3_neededRoads_25 : decode cX3_neededRoads 25 = .ok (.iconst 1, 1) := by decide +kernel
theorem dX3_neededRoads_26 : decode cX3_neededRoads 26 = .ok (.iand, 1) := by decide +kernel
theorem dX3_neededRoads_27 : decode cX3_neededRoads 27 = .ok (.iconst 1, 1) := by decide +kernel
theorem dX3_neededRoads_28 : decode cX3_neededRoads 28 = .ok (.if_icmp .ne 7, 3) := by decide +kernel
theorem dX3_neededRoads_31 : decode cX3_neededRoads 31 = .ok (.iconst 1, 1) := by decide +kernel
theorem dX3_neededRoads_32 : decode cX3_neededRoads 32 = .ok (.goto 4, 3) := by decide +kernel
theorem dX3_neededRoads_35 : decode cX3_neededRoads 35 = .ok (.iconst 0, 1) := by decide +kernel
theorem dX3_neededRoads_36 : decode cX3_neededRoads 36 = .ok (.istore 4, 2) := by decide +kernel
theorem dX3_neededRoads_38 : decode cX3_neededRoads 38 = .ok (.iload 4, 2) := by decide +kernel
theorem dX3_neededRoads_40 : decode cX3_neededRoads 40 = .ok (.ifCond .eq 24, 3) := by decide +kernel
theorem dX3_neededRoads_43 : decode cX3_neededRoads 43 = .ok (.aload_n 0, 1) := by decide +kernel
theorem dX3_neededRoads_44 : decode cX3_neededRoads 44 = .ok (.aload_n 0, 1) := by decide +kernel
theorem dX3_neededRoads_45 : decode cX3_neededRoads 45 = .ok (.getfield 29, 3) := by decide +kernel
theorem dX3_neededRoads_48 : decode cX3_neededRoads 48 = .ok (.iload_n 3, 1) := by decide +kernel
theorem dX3_neededRoads_49 : decode cX3_neededRoads 49 = .ok (.iconst (-1), 1) := by decide +kernel
theorem dX3_neededRoads_50 : decode cX3_neededRoads 50 = .ok (.invokevirtual 60, 3) := by decide +kernel
theorem dX3_neededRoads_53 : decode cX3_neededRoads 53 = .ok (.bipush (-9), 2) := by decide +kernel
theorem dX3_neededRoads_55 : decode cX3_neededRoads 55 = .ok (.if_icmp .ne 9, 3) := by decide +kernel
theorem dX3_neededRoads_58 : decode cX3_neededRoads 58 = .ok (.iload_n 2, 1) := by decide +kernel
theorem dX3_neededRoads_59 : decode cX3_neededRoads 59 = .ok (.iconst 1, 1) := by decide +kernel
theorem dX3_neededRoads_60 : decode cX3_neededRoads 60 = .ok (.iload_n 3, 1) := by decide +kernel
theorem dX3_neededRoads_61 : decode cX3_neededRoads 61 = .ok (.ishl, 1) := by decide +kernel
theorem dX3_neededRoads_62 : decode cX3_neededRoads 62 = .ok (.ior, 1) := by decide +kernel
theorem dX3_neededRoads_63 : decode cX3_neededRoads 63 = .ok (.istore_n 2, 1) := by decide +kernel
theorem dX3_neededRoads_64 : decode cX3_neededRoads 64 = .ok (.iinc 3 1, 3) := by decide +kernel
theorem dX3_neededRoads_67 : decode cX3_neededRoads 67 = .ok (.goto (-58), 3) := by decide +kernel
theorem dX3_neededRoads_70 : decode cX3_neededRoads 70 = .ok (.iload_n 2, 1) := by decide +kernel
theorem dX3_neededRoads_71 : decode cX3_neededRoads 71 = .ok (.ireturn, 1) := by decide +kernel
set_option maxRecDepth 20000 in
theorem ggX3_neededHosts_X3_usedSteps : GoodIn wsX3_neededHosts wsX3_usedSteps := goodIn_r _ [8, 9, 10, 127, 128, 129, 130, 131, 132, 133, 134, 135, 136, 137, 138, 139, 140] (by decide +kernel) (by decide +kernel)
set_option maxRecDepth 20000 in
theorem gX3_neededHosts_X3_usedSteps : GoodIn wsX3_neededHosts (wsV RX3 101 RX3 yX3_usedSteps wsX3_usedSteps) := goodIn_app (goodIn_of _ (by decide +kernel)) ggX3_neededHosts_X3_usedSteps
set_option maxRecDepth 20000 in
theorem ggX3_neededHosts_X3_fewestHours : GoodIn wsX3_neededHosts wsX3_fewestHours := goodIn_r _ [14, 15, 16, 17, 18, 1, 19, 20, 21, 22, 23, 24, 25, 26, 7, 27, 28, 29, 30, 31, 32, 33, 34, 2, 35, 36, 37, 38, 39, 40, 41, 42, 43, 44, 45, 46, 47, 48, 49, 50, 51, 52, 53, 54, 55, 56, 57, 58, 59, 60, 61, 62, 63, 64, 65, 66, 67, 68, 69, 70, 71, 72, 73, 74, 75, 76, 77, 78, 79, 80, 81, 82, 83, 84, 85, 86, 87, 88, 89, 90, 91, 92, 93, 94, 95, 96, 97, 98, 99, 100, 101, 102, 103, 104, 105, 106, 107, 108, 109, 110, 111, 112, 113, 114, 115, 116, 117, 118, 119, 120, 121, 122, 123, 124, 125, 126, 127, 128, 129, 130, 131, 132, 133, 134, 135, 136, 137, 138, 139, 140, 154, 155, 156, 157, 158, 159, 160, 161, 141, 142, 143, 144, 145, 146, 147, 148, 149, 150, 151, 152, 153] (by decide +kernel) (by decide +kernel)
set_option maxRecDepth 20000 in
theorem gX3_neededHosts_X3_fewestHours : GoodIn wsX3_neededHosts (wsV RX3 60 RX3 yX3_fewestHours wsX3_fewestHours) := goodIn_app (goodIn_of _ (by decide +kernel)) ggX3_neededHosts_X3_fewestHours
theorem dX3_neededHosts_0 : decode cX3_neededHosts 0 = .ok (.aload_n 0, 1) := by decide +kernel
theorem dX3_neededHosts_1 : decode cX3_neededHosts 1 = .ok (.invokevirtual 101, 3) := by decide +kernel
theorem dX3_neededHosts_4 : decode cX3_neededHosts 4 = .ok (.istore_n 1, 1) := by decide +kernel
theorem dX3_neededHosts_5 : decode cX3_neededHosts 5 = .ok (.iconst 0, 1) := by decide +kernel
theorem dX3_neededHosts_6 : decode cX3_neededHosts 6 = .ok (.istore_n 2, 1) := by decide +kernel
theorem dX3_neededHosts_7 : decode cX3_neededHosts 7 = .ok (.iconst 0, 1) := by decide +kernel
theorem dX3_neededHosts_8 : decode cX3_neededHosts 8 = .ok (.istore_n 3, 1) := by decide +kernel
theorem dX3_neededHosts_9 : decode cX3_neededHosts 9 = .ok (.iload_n 3, 1) := by decide +kernel
theorem dX3_neededHosts_10 : decode cX3_neededHosts 10 = .ok (.aload_n 0, 1) := by decide +kernel
theorem dX3_neededHosts_11 : decode cX3_neededHosts 11 = .ok (.getfield 21, 3) := by decide +kernel
theorem dX3_neededHosts_14 : decode cX3_neededHosts 14 = .ok (.getfield 109, 3) := by decide +kernel
theorem dX3_neededHosts_17 : decode cX3_neededHosts 17 = .ok (.if_icmp .ge 54, 3) := by decide +kernel
theorem dX3_neededHosts_20 : decode cX3_neededHosts 20 = .ok (.iload_n 1, 1) := by decide +kernel
theorem dX3_neededHosts_21 : decode cX3_neededHosts 21 = .ok (.bipush 11, 2) := by decide +kernel
theorem dX3_neededHosts_23 : decode cX3_neededHosts 23 = .ok (.iload_n 3, 1) := by decide +kernel
theorem dX3_neededHosts_24 : decode cX3_neededHosts 24 = .ok (.iadd, 1) := by decide +kernel
theorem dX3_neededHosts_25 : decode cX3_neededHosts 25 = .ok (.ishr, 1) := by decide +kernel
theorem dX3_neededHosts_26 : decode cX3_neededHosts 26 = .ok (.iconst 1, 1) := by decide +kernel
theorem dX3_neededHosts_27 : decode cX3_neededHosts 27 = .ok (.iand, 1) := by decide +kernel
theorem dX3_neededHosts_28 : decode cX3_neededHosts 28 = .ok (.iconst 1, 1) := by decide +kernel
theorem dX3_neededHosts_29 : decode cX3_neededHosts 29 = .ok (.if_icmp .ne 7, 3) := by decide +kernel
theorem dX3_neededHosts_32 : decode cX3_neededHosts 32 = .ok (.iconst 1, 1) := by decide +kernel
theorem dX3_neededHosts_33 : decode cX3_neededHosts 33 = .ok (.goto 4, 3) := by decide +kernel
theorem dX3_neededHosts_36 : decode cX3_neededHosts 36 = .ok (.iconst 0, 1) := by decide +kernel
theorem dX3_neededHosts_37 : decode cX3_neededHosts 37 = .ok (.istore 4, 2) := by decide +kernel
theorem dX3_neededHosts_39 : decode cX3_neededHosts 39 = .ok (.iload 4, 2) := by decide +kernel
theorem dX3_neededHosts_41 : decode cX3_neededHosts 41 = .ok (.ifCond .eq 24, 3) := by decide +kernel
theorem dX3_neededHosts_44 : decode cX3_neededHosts 44 = .ok (.aload_n 0, 1) := by decide +kernel
theorem dX3_neededHosts_45 : decode cX3_neededHosts 45 = .ok (.aload_n 0, 1) := by decide +kernel
theorem dX3_neededHosts_46 : decode cX3_neededHosts 46 = .ok (.getfield 29, 3) := by decide +kernel
theorem dX3_neededHosts_49 : decode cX3_neededHosts 49 = .ok (.iconst (-1), 1) := by decide +kernel
theorem dX3_neededHosts_50 : decode cX3_neededHosts 50 = .ok (.iload_n 3, 1) := by decide +kernel
theorem dX3_neededHosts_51 : decode cX3_neededHosts 51 = .ok (.invokevirtual 60, 3) := by decide +kernel
theorem dX3_neededHosts_54 : decode cX3_neededHosts 54 = .ok (.bipush (-9), 2) := by decide +kernel
theorem dX3_neededHosts_56 : decode cX3_neededHosts 56 = .ok (.if_icmp .ne 9, 3) := by decide +kernel
theorem dX3_neededHosts_59 : decode cX3_neededHosts 59 = .ok (.iload_n 2, 1) := by decide +kernel
theorem dX3_neededHosts_60 : decode cX3_neededHosts 60 = .ok (.iconst 1, 1) := by decide +kernel
theorem dX3_neededHosts_61 : decode cX3_neededHosts 61 = .ok (.iload_n 3, 1) := by decide +kernel
theorem dX3_neededHosts_62 : decode cX3_neededHosts 62 = .ok (.ishl, 1) := by decide +kernel
theorem dX3_neededHosts_63 : decode cX3_neededHosts 63 = .ok (.ior, 1) := by decide +kernel
theorem dX3_neededHosts_64 : decode cX3_neededHosts 64 = .ok (.istore_n 2, 1) := by decide +kernel
theorem dX3_neededHosts_65 : decode cX3_neededHosts 65 = .ok (.iinc 3 1, 3) := by decide +kernel
theorem dX3_neededHosts_68 : decode cX3_neededHosts 68 = .ok (.goto (-59), 3) := by decide +kernel
theorem dX3_neededHosts_71 : decode cX3_neededHosts 71 = .ok (.iload_n 2, 1) := by decide +kernel
theorem dX3_neededHosts_72 : decode cX3_neededHosts 72 = .ok (.ireturn, 1) := by decide +kernel
theorem dX3_usedSteps_0 : decode cX3_usedSteps 0 = .ok (.iconst 0, 1) := by decide +kernel
theorem dX3_usedSteps_1 : decode cX3_usedSteps 1 = .ok (.istore_n 1, 1) := by decide +kernel
theorem dX3_usedSteps_2 : decode cX3_usedSteps 2 = .ok (.iconst 0, 1) := by decide +kernel
theorem dX3_usedSteps_3 : decode cX3_usedSteps 3 = .ok (.istore_n 2, 1) := by decide +kernel
theorem dX3_usedSteps_4 : decode cX3_usedSteps 4 = .ok (.iload_n 2, 1) := by decide +kernel
theorem dX3_usedSteps_5 : decode cX3_usedSteps 5 = .ok (.aload_n 0, 1) := by decide +kernel
theorem dX3_usedSteps_6 : decode cX3_usedSteps 6 = .ok (.getfield 57, 3) := by decide +kernel
theorem dX3_usedSteps_9 : decode cX3_usedSteps 9 = .ok (.if_icmp .ge 26, 3) := by decide +kernel
theorem dX3_usedSteps_12 : decode cX3_usedSteps 12 = .ok (.iload_n 2, 1) := by decide +kernel
theorem dX3_usedSteps_13 : decode cX3_usedSteps 13 = .ok (.bipush 125, 2) := by decide +kernel
theorem dX3_usedSteps_15 : decode cX3_usedSteps 15 = .ok (.if_icmp .ge 20, 3) := by decide +kernel
theorem dX3_usedSteps_18 : decode cX3_usedSteps 18 = .ok (.iload_n 1, 1) := by decide +kernel
theorem dX3_usedSteps_19 : decode cX3_usedSteps 19 = .ok (.iconst 1, 1) := by decide +kernel
theorem dX3_usedSteps_20 : decode cX3_usedSteps 20 = .ok (.aload_n 0, 1) := by decide +kernel
theorem dX3_usedSteps_21 : decode cX3_usedSteps 21 = .ok (.getfield 18, 3) := by decide +kernel
theorem dX3_usedSteps_24 : decode cX3_usedSteps 24 = .ok (.iload_n 2, 1) := by decide +kernel
theorem dX3_usedSteps_25 : decode cX3_usedSteps 25 = .ok (.iaload, 1) := by decide +kernel
theorem dX3_usedSteps_26 : decode cX3_usedSteps 26 = .ok (.ishl, 1) := by decide +kernel
theorem dX3_usedSteps_27 : decode cX3_usedSteps 27 = .ok (.ior, 1) := by decide +kernel
theorem dX3_usedSteps_28 : decode cX3_usedSteps 28 = .ok (.istore_n 1, 1) := by decide +kernel
theorem dX3_usedSteps_29 : decode cX3_usedSteps 29 = .ok (.iinc 2 1, 3) := by decide +kernel
theorem dX3_usedSteps_32 : decode cX3_usedSteps 32 = .ok (.goto (-28), 3) := by decide +kernel
theorem dX3_usedSteps_35 : decode cX3_usedSteps 35 = .ok (.iload_n 1, 1) := by decide +kernel
theorem dX3_usedSteps_36 : decode cX3_usedSteps 36 = .ok (.ireturn, 1) := by decide +kernel
set_option maxRecDepth 20000 in
theorem ggX3_fewestHours_J7_fill_53178 : GoodIn wsX3_fewestHours wsJ7_fill_53178 := goodIn_r _ [10] (by decide +kernel) (by decide +kernel)
set_option maxRecDepth 20000 in
theorem gX3_fewestHours_J7_fill_53178 : GoodIn wsX3_fewestHours (va_wsS RX3 112 yJ7_fill_53178 wsJ7_fill_53178) := goodIn_app (goodIn_of _ (by decide +kernel)) ggX3_fewestHours_J7_fill_53178
set_option maxRecDepth 20000 in
theorem ggX3_fewestHours_X3_addSets : GoodIn wsX3_fewestHours wsX3_addSets := goodIn_r _ [15, 1, 16, 17, 14, 18, 116, 117, 118, 119, 120, 121, 122, 123, 124, 125, 126, 127, 128, 129] (by decide +kernel) (by decide +kernel)
set_option maxRecDepth 20000 in
theorem gX3_fewestHours_X3_addSets : GoodIn wsX3_fewestHours (wsV RX3 118 RX3 yX3_addSets wsX3_addSets) := goodIn_app (goodIn_of _ (by decide +kernel)) ggX3_fewestHours_X3_addSets
set_option maxRecDepth 20000 in
theorem ggX3_fewestHours_X3_spreadAsks : GoodIn wsX3_fewestHours wsX3_spreadAsks := goodIn_r _ [22, 5, 23, 24, 25, 26, 14, 27, 28, 29, 30, 31, 32, 33, 34, 35, 36, 37, 38, 39, 40, 41, 42, 43, 44, 45, 46, 47, 1, 16, 17, 18, 48, 49, 50, 51, 52, 53, 54, 55, 56, 57, 58, 59, 11, 12, 13, 15, 116, 117, 118, 119, 120, 121, 122, 123, 124, 125, 126, 127, 128, 129, 138, 139, 140, 141, 142, 143, 144, 145, 146, 147, 148, 149, 150] (by decide +kernel) (by decide +kernel)
set_option maxRecDepth 20000 in
theorem gX3_fewestHours_X3_spreadAsks : GoodIn wsX3_fewestHours (wsV RX3 122 RX3 yX3_spreadAsks wsX3_spreadAsks) := goodIn_app (goodIn_of _ (by decide +kernel)) ggX3_fewestHours_X3_spreadAsks
set_option maxRecDepth 20000 in
theorem ggX3_fewestHours_X3_setsAt : GoodIn wsX3_fewestHours wsX3_setsAt := goodIn_r _ [47, 1, 16, 17, 14, 18, 116, 117, 118, 119, 120, 121, 122, 123, 124, 125, 126, 127, 128, 129] (by decide +kernel) (by decide +kernel)
set_option maxRecDepth 20000 in
theorem gX3_fewestHours_X3_setsAt : GoodIn wsX3_fewestHours (wsV RX3 126 RX3 yX3_setsAt wsX3_setsAt) := goodIn_app (goodIn_of _ (by decide +kernel)) ggX3_fewestHours_X3_setsAt
set_option maxRecDepth 20000 in
theorem ggX3_fewestHours_X3_setsHaving : GoodIn wsX3_fewestHours wsX3_setsHaving := goodIn_r _ [55, 56, 57, 58, 59] (by decide +kernel) (by decide +kernel)
set_option maxRecDepth 20000 in
theorem gX3_fewestHours_X3_setsHaving : GoodIn wsX3_fewestHours (va_wsS RX3 130 yX3_setsHaving wsX3_setsHaving) := goodIn_app (goodIn_of _ (by decide +kernel)) ggX3_fewestHours_X3_setsHaving
set_option maxRecDepth 20000 in
theorem ggX3_fewestHours_X3_spreadWalks : GoodIn wsX3_fewestHours wsX3_spreadWalks := goodIn_r _ [63, 5, 64, 65, 66, 67, 31, 68, 69, 70, 71, 72, 73, 74, 75, 76, 77, 78, 79, 80, 81, 82, 83, 84, 85, 86, 87, 14, 88, 2, 89, 90, 91, 92, 93, 94, 95, 96, 97, 98, 99, 100, 101, 102, 103, 104, 105, 106, 107, 108, 109, 44, 45, 46, 47, 1, 16, 17, 18, 110, 111, 112, 56, 57, 58, 59, 11, 12, 13, 15, 113, 114, 115, 116, 117, 118, 119, 120, 121, 122, 123, 124, 125, 126, 127, 128, 129, 138, 139, 140, 141, 142, 143, 144, 145, 146, 147, 148, 149, 150, 130, 131, 132, 133, 134, 135, 136, 137] (by decide +kernel) (by decide +kernel)
set_option maxRecDepth 20000 in
theorem gX3_fewestHours_X3_spreadWalks : GoodIn wsX3_fewestHours (wsV RX3 136 RX3 yX3_spreadWalks wsX3_spreadWalks) := goodIn_app (goodIn_of _ (by decide +kernel)) ggX3_fewestHours_X3_spreadWalks
theorem dX3_fewestHours_0 : decode cX3_fewestHours 0 = .ok (.aload_n 0, 1) := by decide +kernel
theorem dX3_fewestHours_1 : decode cX3_fewestHours 1 = .ok (.getfield 9, 3) := by decide +kernel
theorem dX3_fewestHours_4 : decode cX3_fewestHours 4 = .ok (.iconst 0, 1) := by decide +kernel
theorem dX3_fewestHours_5 : decode cX3_fewestHours 5 = .ok (.invokestatic 112, 3) := by decide +kernel
theorem dX3_fewestHours_8 : decode cX3_fewestHours 8 = .ok (.aload_n 0, 1) := by decide +kernel
theorem dX3_fewestHours_9 : decode cX3_fewestHours 9 = .ok (.iconst 0, 1) := by decide +kernel
theorem dX3_fewestHours_10 : decode cX3_fewestHours 10 = .ok (.aload_n 0, 1) := by decide +kernel
theorem dX3_fewestHours_11 : decode cX3_fewestHours 11 = .ok (.getfield 25, 3) := by decide +kernel
theorem dX3_fewestHours_14 : decode cX3_fewestHours 14 = .ok (.getfield 37, 3) := by decide +kernel
theorem dX3_fewestHours_17 : decode cX3_fewestHours 17 = .ok (.iconst 1, 1) := by decide +kernel
theorem dX3_fewestHours_18 : decode cX3_fewestHours 18 = .ok (.aload_n 0, 1) := by decide +kernel
theorem dX3_fewestHours_19 : decode cX3_fewestHours 19 = .ok (.getfield 25, 3) := by decide +kernel
theorem dX3_fewestHours_22 : decode cX3_fewestHours 22 = .ok (.getfield 51, 3) := by decide +kernel
theorem dX3_fewestHours_25 : decode cX3_fewestHours 25 = .ok (.ishl, 1) := by decide +kernel
theorem dX3_fewestHours_26 : decode cX3_fewestHours 26 = .ok (.invokevirtual 118, 3) := by decide +kernel
theorem dX3_fewestHours_29 : decode cX3_fewestHours 29 = .ok (.iconst 0, 1) := by decide +kernel
theorem dX3_fewestHours_30 : decode cX3_fewestHours 30 = .ok (.istore 4, 2) := by decide +kernel
theorem dX3_fewestHours_32 : decode cX3_fewestHours 32 = .ok (.iload 4, 2) := by decide +kernel
theorem dX3_fewestHours_34 : decode cX3_fewestHours 34 = .ok (.bipush 60, 2) := by decide +kernel
theorem dX3_fewestHours_36 : decode cX3_fewestHours 36 = .ok (.if_icmp .gt 82, 3) := by decide +kernel
theorem dX3_fewestHours_39 : decode cX3_fewestHours 39 = .ok (.aload_n 0, 1) := by decide +kernel
theorem dX3_fewestHours_40 : decode cX3_fewestHours 40 = .ok (.iload 4, 2) := by decide +kernel
theorem dX3_fewestHours_42 : decode cX3_fewestHours 42 = .ok (.iconst 1, 1) := by decide +kernel
theorem dX3_fewestHours_43 : decode cX3_fewestHours 43 = .ok (.iload_n 3, 1) := by decide +kernel
theorem dX3_fewestHours_44 : decode cX3_fewestHours 44 = .ok (.invokevirtual 122, 3) := by decide +kernel
theorem dX3_fewestHours_47 : decode cX3_fewestHours 47 = .ok (.aload_n 0, 1) := by decide +kernel
theorem dX3_fewestHours_48 : decode cX3_fewestHours 48 = .ok (.iload 4, 2) := by decide +kernel
theorem dX3_fewestHours_50 : decode cX3_fewestHours 50 = .ok (.iconst 0, 1) := by decide +kernel
theorem dX3_fewestHours_51 : decode cX3_fewestHours 51 = .ok (.invokevirtual 126, 3) := by decide +kernel
theorem dX3_fewestHours_54 : decode cX3_fewestHours 54 = .ok (.iload_n 1, 1) := by decide +kernel
theorem dX3_fewestHours_55 : decode cX3_fewestHours 55 = .ok (.invokestatic 130, 3) := by decide +kernel
theorem dX3_fewestHours_58 : decode cX3_fewestHours 58 = .ok (.iand, 1) := by decide +kernel
theorem dX3_fewestHours_59 : decode cX3_fewestHours 59 = .ok (.ifCond .eq 6, 3) := by decide +kernel
theorem dX3_fewestHours_62 : decode cX3_fewestHours 62 = .ok (.iload 4, 2) := by decide +kernel
theorem dX3_fewestHours_64 : decode cX3_fewestHours 64 = .ok (.ireturn, 1) := by decide +kernel
theorem dX3_fewestHours_65 : decode cX3_fewestHours 65 = .ok (.iconst 0, 1) := by decide +kernel
theorem dX3_fewestHours_66 : decode cX3_fewestHours 66 = .ok (.istore 5, 2) := by decide +kernel
theorem dX3_fewestHours_68 : decode cX3_fewestHours 68 = .ok (.iload 5, 2) := by decide +kernel
theorem dX3_fewestHours_70 : decode cX3_fewestHours 70 = .ok (.aload_n 0, 1) := by decide +kernel
theorem dX3_fewestHours_71 : decode cX3_fewestHours 71 = .ok (.getfield 21, 3) := by decide +kernel
theorem dX3_fewestHours_74 : decode cX3_fewestHours 74 = .ok (.getfield 133, 3) := by decide +kernel
theorem dX3_fewestHours_77 : decode cX3_fewestHours 77 = .ok (.if_icmp .ge 27, 3) := by decide +kernel
theorem dX3_fewestHours_80 : decode cX3_fewestHours 80 = .ok (.aload_n 0, 1) := by decide +kernel
theorem dX3_fewestHours_81 : decode cX3_fewestHours 81 = .ok (.iload 4, 2) := by decide +kernel
theorem dX3_fewestHours_83 : decode cX3_fewestHours 83 = .ok (.iconst 1, 1) := by decide +kernel
theorem dX3_fewestHours_84 : decode cX3_fewestHours 84 = .ok (.iadd, 1) := by decide +kernel
theorem dX3_fewestHours_85 : decode cX3_fewestHours 85 = .ok (.iload 5, 2) := by decide +kernel
theorem dX3_fewestHours_87 : decode cX3_fewestHours 87 = .ok (.aload_n 0, 1) := by decide +kernel
theorem dX3_fewestHours_88 : decode cX3_fewestHours 88 = .ok (.iload 4, 2) := by decide +kernel
theorem dX3_fewestHours_90 : decode cX3_fewestHours 90 = .ok (.iload 5, 2) := by decide +kernel
theorem dX3_fewestHours_92 : decode cX3_fewestHours 92 = .ok (.invokevirtual 126, 3) := by decide +kernel
theorem dX3_fewestHours_95 : decode cX3_fewestHours 95 = .ok (.invokevirtual 118, 3) := by decide +kernel
theorem dX3_fewestHours_98 : decode cX3_fewestHours 98 = .ok (.iinc 5 1, 3) := by decide +kernel
theorem dX3_fewestHours_101 : decode cX3_fewestHours 101 = .ok (.goto (-33), 3) := by decide +kernel
theorem dX3_fewestHours_104 : decode cX3_fewestHours 104 = .ok (.aload_n 0, 1) := by decide +kernel
theorem dX3_fewestHours_105 : decode cX3_fewestHours 105 = .ok (.iload 4, 2) := by decide +kernel
theorem dX3_fewestHours_107 : decode cX3_fewestHours 107 = .ok (.iconst 1, 1) := by decide +kernel
theorem dX3_fewestHours_108 : decode cX3_fewestHours 108 = .ok (.iload_n 2, 1) := by decide +kernel
theorem dX3_fewestHours_109 : decode cX3_fewestHours 109 = .ok (.invokevirtual 136, 3) := by decide +kernel
theorem dX3_fewestHours_112 : decode cX3_fewestHours 112 = .ok (.iinc 4 1, 3) := by decide +kernel
theorem dX3_fewestHours_115 : decode cX3_fewestHours 115 = .ok (.goto (-83), 3) := by decide +kernel
theorem dX3_fewestHours_118 : decode cX3_fewestHours 118 = .ok (.bipush (-9), 2) := by decide +kernel
theorem dX3_fewestHours_120 : decode cX3_fewestHours 120 = .ok (.ireturn, 1) := by decide +kernel
set_option maxRecDepth 20000 in
theorem ggX3_mostWaiting_X3_fillBackward : GoodIn wsX3_mostWaiting wsX3_fillBackward := goodIn_r _ [8, 9, 10, 11, 12, 13, 14, 15, 16, 17, 7, 18, 19, 20, 21, 22, 23, 24, 25, 26, 27, 28, 29, 30, 31, 32, 33, 34, 35, 36, 37, 38, 39, 40, 41, 42, 43, 44, 45, 46, 47, 48, 49, 50, 51, 52, 53, 54, 55, 56, 57, 58, 59, 60, 61, 62, 63, 1, 64, 65, 66, 67, 68, 69, 70, 71, 72, 73, 74, 75, 76, 77, 78, 79, 80, 81, 82, 83, 84, 85, 86, 87, 88, 89, 90, 91, 92, 93, 94, 95, 96, 97, 98, 99, 100, 101, 102, 103, 104, 105, 106, 107, 108, 109, 110, 111, 112, 113, 114, 115, 116, 117, 118, 119, 124, 125, 126, 127, 128, 129, 130, 131, 132, 133, 134, 135, 136, 137, 146, 147, 148, 149, 150, 151, 152, 153, 154, 155, 156, 157, 158, 138, 139, 140, 141, 142, 143, 144, 145] (by decide +kernel) (by decide +kernel)
set_option maxRecDepth 20000 in
theorem gX3_mostWaiting_X3_fillBackward : GoodIn wsX3_mostWaiting (wsV RX3 67 RX3 yX3_fillBackward wsX3_fillBackward) := goodIn_app (goodIn_of _ (by decide +kernel)) ggX3_mostWaiting_X3_fillBackward
set_option maxRecDepth 20000 in
theorem ggX3_mostWaiting_X3_canBeHome : GoodIn wsX3_mostWaiting wsX3_canBeHome := goodIn_r _ [123, 9, 27, 28, 7, 29, 124, 125, 126, 127, 128, 129, 130, 131, 132, 133, 134, 135, 136, 137] (by decide +kernel) (by decide +kernel)
set_option maxRecDepth 20000 in
theorem gX3_mostWaiting_X3_canBeHome : GoodIn wsX3_mostWaiting (wsV RX3 139 RX3 yX3_canBeHome wsX3_canBeHome) := goodIn_app (goodIn_of _ (by decide +kernel)) ggX3_mostWaiting_X3_canBeHome
theorem dX3_mostWaiting_0 : decode cX3_mostWaiting 0 = .ok (.aload_n 0, 1) := by decide +kernel
theorem dX3_mostWaiting_1 : decode cX3_mostWaiting 1 = .ok (.iload_n 1, 1) := by decide +kernel
theorem dX3_mostWaiting_2 : decode cX3_mostWaiting 2 = .ok (.iload_n 2, 1) := by decide +kernel
theorem dX3_mostWaiting_3 : decode cX3_mostWaiting 3 = .ok (.invokevirtual 67, 3) := by decide +kernel
theorem dX3_mostWaiting_6 : decode cX3_mostWaiting 6 = .ok (.iload_n 2, 1) := by decide +kernel
theorem dX3_mostWaiting_7 : decode cX3_mostWaiting 7 = .ok (.istore_n 3, 1) := by decide +kernel
theorem dX3_mostWaiting_8 : decode cX3_mostWaiting 8 = .ok (.iload_n 3, 1) := by decide +kernel
theorem dX3_mostWaiting_9 : decode cX3_mostWaiting 9 = .ok (.ifCond .lt 33, 3) := by decide +kernel
theorem dX3_mostWaiting_12 : decode cX3_mostWaiting 12 = .ok (.aload_n 0, 1) := by decide +kernel
theorem dX3_mostWaiting_13 : decode cX3_mostWaiting 13 = .ok (.iload_n 3, 1) := by decide +kernel
theorem dX3_mostWaiting_14 : decode cX3_mostWaiting 14 = .ok (.aload_n 0, 1) := by decide +kernel
theorem dX3_mostWaiting_15 : decode cX3_mostWaiting 15 = .ok (.getfield 25, 3) := by decide +kernel
theorem dX3_mostWaiting_18 : decode cX3_mostWaiting 18 = .ok (.getfield 37, 3) := by decide +kernel
theorem dX3_mostWaiting_21 : decode cX3_mostWaiting 21 = .ok (.aload_n 0, 1) := by decide +kernel
theorem dX3_mostWaiting_22 : decode cX3_mostWaiting 22 = .ok (.getfield 25, 3) := by decide +kernel
theorem dX3_mostWaiting_25 : decode cX3_mostWaiting 25 = .ok (.getfield 51, 3) := by decide +kernel
theorem dX3_mostWaiting_28 : decode cX3_mostWaiting 28 = .ok (.invokevirtual 139, 3) := by decide +kernel
theorem dX3_mostWaiting_31 : decode cX3_mostWaiting 31 = .ok (.ifCond .eq 5, 3) := by decide +kernel
theorem dX3_mostWaiting_34 : decode cX3_mostWaiting 34 = .ok (.iload_n 3, 1) := by decide +kernel
theorem dX3_mostWaiting_35 : decode cX3_mostWaiting 35 = .ok (.ireturn, 1) := by decide +kernel
theorem dX3_mostWaiting_36 : decode cX3_mostWaiting 36 = .ok (.iinc 3 (-1), 3) := by decide +kernel
theorem dX3_mostWaiting_39 : decode cX3_mostWaiting 39 = .ok (.goto (-31), 3) := by decide +kernel
theorem dX3_mostWaiting_42 : decode cX3_mostWaiting 42 = .ok (.bipush (-9), 2) := by decide +kernel
theorem dX3_mostWaiting_44 : decode cX3_mostWaiting 44 = .ok (.ireturn, 1) := by decide +kernel
theorem dX3_standAtStart_0 : decode cX3_standAtStart 0 = .ok (.aload_n 0, 1) := by decide +kernel
theorem dX3_standAtStart_1 : decode cX3_standAtStart 1 = .ok (.aload_n 0, 1) := by decide +kernel
theorem dX3_standAtStart_2 : decode cX3_standAtStart 2 = .ok (.getfield 42, 3) := by decide +kernel
theorem dX3_standAtStart_5 : decode cX3_standAtStart 5 = .ok (.putfield 93, 3) := by decide +kernel
theorem dX3_standAtStart_8 : decode cX3_standAtStart 8 = .ok (.aload_n 0, 1) := by decide +kernel
theorem dX3_standAtStart_9 : decode cX3_standAtStart 9 = .ok (.iconst 0, 1) := by decide +kernel
theorem dX3_standAtStart_10 : decode cX3_standAtStart 10 = .ok (.putfield 98, 3) := by decide +kernel
theorem dX3_standAtStart_13 : decode cX3_standAtStart 13 = .ok (.aload_n 0, 1) := by decide +kernel
theorem dX3_standAtStart_14 : decode cX3_standAtStart 14 = .ok (.aload_n 0, 1) := by decide +kernel
theorem dX3_standAtStart_15 : decode cX3_standAtStart 15 = .ok (.getfield 54, 3) := by decide +kernel
theorem dX3_standAtStart_18 : decode cX3_standAtStart 18 = .ok (.putfield 85, 3) := by decide +kernel
theorem dX3_standAtStart_21 : decode cX3_standAtStart 21 = .ok (.return_, 1) := by decide +kernel
set_option maxRecDepth 20000 in
theorem ggX3_nextStep_X5_hasThing : GoodIn wsX3_nextStep wsX5_hasThing := goodIn_r _ [10, 11, 12, 9, 13] (by decide +kernel) (by decide +kernel)
set_option maxRecDepth 20000 in
theorem gX3_nextStep_X5_hasThing_n86 : GoodIn wsX3_nextStep (wsX5_hasThing) := ggX3_nextStep_X5_hasThing
set_option maxRecDepth 20000 in
theorem ggX3_nextStep_X3_canBeHome : GoodIn wsX3_nextStep wsX3_canBeHome := goodIn_r _ [18, 19, 20, 21, 17, 22, 94, 95, 96, 97, 98, 99, 100, 101, 102, 103, 104, 105, 106, 107] (by decide +kernel) (by decide +kernel)
set_option maxRecDepth 20000 in
theorem gX3_nextStep_X3_canBeHome : GoodIn wsX3_nextStep (wsV RX3 139 RX3 yX3_canBeHome wsX3_canBeHome) := goodIn_app (goodIn_of _ (by decide +kernel)) ggX3_nextStep_X3_canBeHome
set_option maxRecDepth 20000 in
theorem ggX3_nextStep_X3_isWalkHomeward : GoodIn wsX3_nextStep wsX3_isWalkHomeward := goodIn_r _ [26, 5, 1, 4, 27, 28, 2, 29, 30, 31, 32, 33, 34, 35, 36, 37, 38, 39, 40, 41, 42, 43, 44, 45, 46, 47, 48, 49, 50, 51, 52, 53, 54, 55, 56, 57, 58, 59, 60, 61, 62, 63, 64, 65, 66, 67, 68, 69, 8, 9, 10, 11, 12, 13, 70, 71, 72, 73, 14, 15, 16, 17, 18, 19, 20, 21, 22, 94, 95, 96, 97, 98, 99, 100, 101, 102, 103, 104, 105, 106, 107, 121, 122, 123, 124, 125, 126, 127, 128, 108, 109, 110, 111, 112, 113, 114, 115, 116, 117, 118, 119, 120] (by decide +kernel) (by decide +kernel)
set_option maxRecDepth 20000 in
theorem gX3_nextStep_X3_isWalkHomeward : GoodIn wsX3_nextStep (wsV RX3 143 RX3 yX3_isWalkHomeward wsX3_isWalkHomeward) := goodIn_app (goodIn_of _ (by decide +kernel)) ggX3_nextStep_X3_isWalkHomeward
set_option maxRecDepth 20000 in
theorem ggX3_nextStep_X3_isAskHomeward : GoodIn wsX3_nextStep wsX3_isAskHomeward := goodIn_r _ [77, 5, 1, 2, 4, 78, 79, 80, 32, 81, 82, 83, 84, 85, 86, 87, 88, 89, 8, 9, 10, 11, 12, 13, 90, 91, 92, 93, 14, 15, 16, 17, 18, 19, 20, 21, 22, 94, 95, 96, 97, 98, 99, 100, 101, 102, 103, 104, 105, 106, 107, 108, 109, 110, 111, 112, 113, 114, 115, 116, 117, 118, 119, 120] (by decide +kernel) (by decide +kernel)
set_option maxRecDepth 20000 in
theorem gX3_nextStep_X3_isAskHomeward : GoodIn wsX3_nextStep (wsV RX3 146 RX3 yX3_isAskHomeward wsX3_isAskHomeward) := goodIn_app (goodIn_of _ (by decide +kernel)) ggX3_nextStep_X3_isAskHomeward
theorem dX3_nextStep_0 : decode cX3_nextStep 0 = .ok (.aload_n 0, 1) := by decide +kernel
theorem dX3_nextStep_1 : decode cX3_nextStep 1 = .ok (.getfield 93, 3) := by decide +kernel
theorem dX3_nextStep_4 : decode cX3_nextStep 4 = .ok (.ifCond .ne 20, 3) := by decide +kernel
theorem dX3_nextStep_7 : decode cX3_nextStep 7 = .ok (.aload_n 0, 1) := by decide +kernel
theorem dX3_nextStep_8 : decode cX3_nextStep 8 = .ok (.getfield 85, 3) := by decide +kernel
theorem dX3_nextStep_11 : decode cX3_nextStep 11 = .ok (.aload_n 0, 1) := by decide +kernel
theorem dX3_nextStep_12 : decode cX3_nextStep 12 = .ok (.getfield 29, 3) := by decide +kernel
theorem dX3_nextStep_15 : decode cX3_nextStep 15 = .ok (.invokestatic 86, 3) := by decide +kernel
theorem dX3_nextStep_18 : decode cX3_nextStep 18 = .ok (.ifCond .eq 6, 3) := by decide +kernel
theorem dX3_nextStep_21 : decode cX3_nextStep 21 = .ok (.bipush (-9), 2) := by decide +kernel
theorem dX3_nextStep_23 : decode cX3_nextStep 23 = .ok (.ireturn, 1) := by decide +kernel
theorem dX3_nextStep_24 : decode cX3_nextStep 24 = .ok (.aload_n 0, 1) := by decide +kernel
theorem dX3_nextStep_25 : decode cX3_nextStep 25 = .ok (.aload_n 0, 1) := by decide +kernel
theorem dX3_nextStep_26 : decode cX3_nextStep 26 = .ok (.getfield 98, 3) := by decide +kernel
theorem dX3_nextStep_29 : decode cX3_nextStep 29 = .ok (.iconst 1, 1) := by decide +kernel
theorem dX3_nextStep_30 : decode cX3_nextStep 30 = .ok (.iadd, 1) := by decide +kernel
theorem dX3_nextStep_31 : decode cX3_nextStep 31 = .ok (.aload_n 0, 1) := by decide +kernel
theorem dX3_nextStep_32 : decode cX3_nextStep 32 = .ok (.getfield 93, 3) := by decide +kernel
theorem dX3_nextStep_35 : decode cX3_nextStep 35 = .ok (.aload_n 0, 1) := by decide +kernel
theorem dX3_nextStep_36 : decode cX3_nextStep 36 = .ok (.getfield 85, 3) := by decide +kernel
theorem dX3_nextStep_39 : decode cX3_nextStep 39 = .ok (.invokevirtual 139, 3) := by decide +kernel
theorem dX3_nextStep_42 : decode cX3_nextStep 42 = .ok (.ifCond .eq 5, 3) := by decide +kernel
theorem dX3_nextStep_45 : decode cX3_nextStep 45 = .ok (.iconst 0, 1) := by decide +kernel
theorem dX3_nextStep_46 : decode cX3_nextStep 46 = .ok (.ireturn, 1) := by decide +kernel
theorem dX3_nextStep_47 : decode cX3_nextStep 47 = .ok (.iconst 0, 1) := by decide +kernel
theorem dX3_nextStep_48 : decode cX3_nextStep 48 = .ok (.istore_n 1, 1) := by decide +kernel
theorem dX3_nextStep_49 : decode cX3_nextStep 49 = .ok (.iload_n 1, 1) := by decide +kernel
theorem dX3_nextStep_50 : decode cX3_nextStep 50 = .ok (.aload_n 0, 1) := by decide +kernel
theorem dX3_nextStep_51 : decode cX3_nextStep 51 = .ok (.getfield 21, 3) := by decide +kernel
theorem dX3_nextStep_54 : decode cX3_nextStep 54 = .ok (.getfield 104, 3) := by decide +kernel
theorem dX3_nextStep_57 : decode cX3_nextStep 57 = .ok (.if_icmp .ge 21, 3) := by decide +kernel
theorem dX3_nextStep_60 : decode cX3_nextStep 60 = .ok (.aload_n 0, 1) := by decide +kernel
theorem dX3_nextStep_61 : decode cX3_nextStep 61 = .ok (.iload_n 1, 1) := by decide +kernel
theorem dX3_nextStep_62 : decode cX3_nextStep 62 = .ok (.invokevirtual 143, 3) := by decide +kernel
theorem dX3_nextStep_65 : decode cX3_nextStep 65 = .ok (.ifCond .eq 7, 3) := by decide +kernel
theorem dX3_nextStep_68 : decode cX3_nextStep 68 = .ok (.iconst 1, 1) := by decide +kernel
theorem dX3_nextStep_69 : decode cX3_nextStep 69 = .ok (.iload_n 1, 1) := by decide +kernel
theorem dX3_nextStep_70 : decode cX3_nextStep 70 = .ok (.iadd, 1) := by decide +kernel
theorem dX3_nextStep_71 : decode cX3_nextStep 71 = .ok (.ireturn, 1) := by decide +kernel
theorem dX3_nextStep_72 : decode cX3_nextStep 72 = .ok (.iinc 1 1, 3) := by decide +kernel
theorem dX3_nextStep_75 : decode cX3_nextStep 75 = .ok (.goto (-26), 3) := by decide +kernel
theorem dX3_nextStep_78 : decode cX3_nextStep 78 = .ok (.iconst 0, 1) := by decide +kernel
theorem dX3_nextStep_79 : decode cX3_nextStep 79 = .ok (.istore_n 1, 1) := by decide +kernel
theorem dX3_nextStep_80 : decode cX3_nextStep 80 = .ok (.iload_n 1, 1) := by decide +kernel
theorem dX3_nextStep_81 : decode cX3_nextStep 81 = .ok (.aload_n 0, 1) := by decide +kernel
theorem dX3_nextStep_82 : decode cX3_nextStep 82 = .ok (.getfield 21, 3) := by decide +kernel
theorem dX3_nextStep_85 : decode cX3_nextStep 85 = .ok (.getfield 109, 3) := by decide +kernel
theorem dX3_nextStep_88 : decode cX3_nextStep 88 = .ok (.if_icmp .ge 22, 3) := by decide +kernel
theorem dX3_nextStep_91 : decode cX3_nextStep 91 = .ok (.aload_n 0, 1) := by decide +kernel
theorem dX3_nextStep_92 : decode cX3_nextStep 92 = .ok (.iload_n 1, 1) := by decide +kernel
theorem dX3_nextStep_93 : decode cX3_nextStep 93 = .ok (.invokevirtual 146, 3) := by decide +kernel
theorem dX3_nextStep_96 : decode cX3_nextStep 96 = .ok (.ifCond .eq 8, 3) := by decide +kernel
theorem dX3_nextStep_99 : decode cX3_nextStep 99 = .ok (.bipush 11, 2) := by decide +kernel
theorem dX3_nextStep_101 : decode cX3_nextStep 101 = .ok (.iload_n 1, 1) := by decide +kernel
theorem dX3_nextStep_102 : decode cX3_nextStep 102 = .ok (.iadd, 1) := by decide +kernel
theorem dX3_nextStep_103 : decode cX3_nextStep 103 = .ok (.ireturn, 1) := by decide +kernel
theorem dX3_nextStep_104 : decode cX3_nextStep 104 = .ok (.iinc 1 1, 3) := by decide +kernel
theorem dX3_nextStep_107 : decode cX3_nextStep 107 = .ok (.goto (-27), 3) := by decide +kernel
theorem dX3_nextStep_110 : decode cX3_nextStep 110 = .ok (.bipush (-9), 2) := by decide +kernel
theorem dX3_nextStep_112 : decode cX3_nextStep 112 = .ok (.ireturn, 1) := by decide +kernel
set_option maxRecDepth 20000 in
theorem ggX3_isWalkHomeward_X4_farEnd : GoodIn wsX3_isWalkHomeward wsX4_farEnd := goodIn_r _ [11, 12, 13, 14, 15, 16, 10, 17, 18, 89, 90, 91, 92, 93, 94, 95, 96, 97, 98, 99, 100, 101] (by decide +kernel) (by decide +kernel)
set_option maxRecDepth 20000 in
theorem gX3_isWalkHomeward_X4_farEnd : GoodIn wsX3_isWalkHomeward (wsV RX3 149 RX4 yX4_farEnd wsX4_farEnd) := goodIn_app (goodIn_of _ (by decide +kernel)) ggX3_isWalkHomeward_X4_farEnd
set_option maxRecDepth 20000 in
theorem ggX3_isWalkHomeward_X4_roadHours : GoodIn wsX3_isWalkHomeward wsX4_roadHours := goodIn_r _ [22, 23, 14, 15, 16, 10, 17, 18, 89, 90, 91, 92, 93, 94, 95, 96, 97, 98, 99, 100, 101] (by decide +kernel) (by decide +kernel)
set_option maxRecDepth 20000 in
theorem gX3_isWalkHomeward_X4_roadHours : GoodIn wsX3_isWalkHomeward (wsV RX3 152 RX4 yX4_roadHours wsX4_roadHours) := goodIn_app (goodIn_of _ (by decide +kernel)) ggX3_isWalkHomeward_X4_roadHours
set_option maxRecDepth 20000 in
theorem ggX3_isWalkHomeward_X4_letsIn : GoodIn wsX3_isWalkHomeward wsX4_letsIn := goodIn_r _ [27, 28, 29, 30, 10, 31, 32, 33, 34, 35, 36, 37, 38, 39, 40, 41, 42, 43, 44, 45, 46, 47, 48, 49, 50, 51, 52, 53, 89, 90, 91, 92, 93, 94, 95, 96, 97, 98, 99, 100, 101] (by decide +kernel) (by decide +kernel)
set_option maxRecDepth 20000 in
theorem gX3_isWalkHomeward_X4_letsIn : GoodIn wsX3_isWalkHomeward (wsV RX3 155 RX4 yX4_letsIn wsX4_letsIn) := goodIn_app (goodIn_of _ (by decide +kernel)) ggX3_isWalkHomeward_X4_letsIn
set_option maxRecDepth 20000 in
theorem ggX3_isWalkHomeward_X4_thingsInside : GoodIn wsX3_isWalkHomeward wsX4_thingsInside := goodIn_r _ [57, 43, 44, 45, 10, 46, 47, 34, 35, 36, 37, 38, 52, 49, 53, 89, 90, 91, 92, 93, 94, 95, 96, 97, 98, 99, 100, 101] (by decide +kernel) (by decide +kernel)
set_option maxRecDepth 20000 in
theorem gX3_isWalkHomeward_X4_thingsInside : GoodIn wsX3_isWalkHomeward (wsV RX3 158 RX4 yX4_thingsInside wsX4_thingsInside) := goodIn_app (goodIn_of _ (by decide +kernel)) ggX3_isWalkHomeward_X4_thingsInside
set_option maxRecDepth 20000 in
theorem ggX3_isWalkHomeward_X3_canBeHome : GoodIn wsX3_isWalkHomeward wsX3_canBeHome := goodIn_r _ [62, 63, 64, 65, 61, 66, 67, 68, 69, 70, 71, 72, 73, 74, 75, 76, 77, 78, 79, 80] (by decide +kernel) (by decide +kernel)
set_option maxRecDepth 20000 in
theorem gX3_isWalkHomeward_X3_canBeHome : GoodIn wsX3_isWalkHomeward (wsV RX3 139 RX3 yX3_canBeHome wsX3_canBeHome) := goodIn_app (goodIn_of _ (by decide +kernel)) ggX3_isWalkHomeward_X3_canBeHome
theorem dX3_isWalkHomeward_0 : decode cX3_isWalkHomeward 0 = .ok (.aload_n 0, 1) := by decide +kernel
theorem dX3_isWalkHomeward_1 : decode cX3_isWalkHomeward 1 = .ok (.getfield 21, 3) := by decide +kernel
theorem dX3_isWalkHomeward_4 : decode cX3_isWalkHomeward 4 = .ok (.iload_n 1, 1) := by decide +kernel
theorem dX3_isWalkHomeward_5 : decode cX3_isWalkHomeward 5 = .ok (.aload_n 0, 1) := by decide +kernel
theorem dX3_isWalkHomeward_6 : decode cX3_isWalkHomeward 6 = .ok (.getfield 93, 3) := by decide +kernel
theorem dX3_isWalkHomeward_9 : decode cX3_isWalkHomeward 9 = .ok (.invokevirtual 149, 3) := by decide +kernel
theorem dX3_isWalkHomeward_12 : decode cX3_isWalkHomeward 12 = .ok (.istore_n 2, 1) := by decide +kernel
theorem dX3_isWalkHomeward_13 : decode cX3_isWalkHomeward 13 = .ok (.aload_n 0, 1) := by decide +kernel
theorem dX3_isWalkHomeward_14 : decode cX3_isWalkHomeward 14 = .ok (.getfield 98, 3) := by decide +kernel
theorem dX3_isWalkHomeward_17 : decode cX3_isWalkHomeward 17 = .ok (.aload_n 0, 1) := by decide +kernel
theorem dX3_isWalkHomeward_18 : decode cX3_isWalkHomeward 18 = .ok (.getfield 21, 3) := by decide +kernel
theorem dX3_isWalkHomeward_21 : decode cX3_isWalkHomeward 21 = .ok (.iload_n 1, 1) := by decide +kernel
theorem dX3_isWalkHomeward_22 : decode cX3_isWalkHomeward 22 = .ok (.invokevirtual 152, 3) := by decide +kernel
theorem dX3_isWalkHomeward_25 : decode cX3_isWalkHomeward 25 = .ok (.iadd, 1) := by decide +kernel
theorem dX3_isWalkHomeward_26 : decode cX3_isWalkHomeward 26 = .ok (.istore_n 3, 1) := by decide +kernel
theorem dX3_isWalkHomeward_27 : decode cX3_isWalkHomeward 27 = .ok (.iload_n 2, 1) := by decide +kernel
theorem dX3_isWalkHomeward_28 : decode cX3_isWalkHomeward 28 = .ok (.bipush (-9), 2) := by decide +kernel
theorem dX3_isWalkHomeward_30 : decode cX3_isWalkHomeward 30 = .ok (.if_icmp .eq 52, 3) := by decide +kernel
theorem dX3_isWalkHomeward_33 : decode cX3_isWalkHomeward 33 = .ok (.aload_n 0, 1) := by decide +kernel
theorem dX3_isWalkHomeward_34 : decode cX3_isWalkHomeward 34 = .ok (.getfield 21, 3) := by decide +kernel
theorem dX3_isWalkHomeward_37 : decode cX3_isWalkHomeward 37 = .ok (.iload_n 2, 1) := by decide +kernel
theorem dX3_isWalkHomeward_38 : decode cX3_isWalkHomeward 38 = .ok (.aload_n 0, 1) := by decide +kernel
theorem dX3_isWalkHomeward_39 : decode cX3_isWalkHomeward 39 = .ok (.getfield 25, 3) := by decide +kernel
theorem dX3_isWalkHomeward_42 : decode cX3_isWalkHomeward 42 = .ok (.getfield 45, 3) := by decide +kernel
theorem dX3_isWalkHomeward_45 : decode cX3_isWalkHomeward 45 = .ok (.iload_n 3, 1) := by decide +kernel
theorem dX3_isWalkHomeward_46 : decode cX3_isWalkHomeward 46 = .ok (.iadd, 1) := by decide +kernel
theorem dX3_isWalkHomeward_47 : decode cX3_isWalkHomeward 47 = .ok (.aload_n 0, 1) := by decide +kernel
theorem dX3_isWalkHomeward_48 : decode cX3_isWalkHomeward 48 = .ok (.getfield 85, 3) := by decide +kernel
theorem dX3_isWalkHomeward_51 : decode cX3_isWalkHomeward 51 = .ok (.invokevirtual 155, 3) := by decide +kernel
theorem dX3_isWalkHomeward_54 : decode cX3_isWalkHomeward 54 = .ok (.ifCond .eq 28, 3) := by decide +kernel
theorem dX3_isWalkHomeward_57 : decode cX3_isWalkHomeward 57 = .ok (.aload_n 0, 1) := by decide +kernel
theorem dX3_isWalkHomeward_58 : decode cX3_isWalkHomeward 58 = .ok (.iload_n 3, 1) := by decide +kernel
theorem dX3_isWalkHomeward_59 : decode cX3_isWalkHomeward 59 = .ok (.iload_n 2, 1) := by decide +kernel
theorem dX3_isWalkHomeward_60 : decode cX3_isWalkHomeward 60 = .ok (.aload_n 0, 1) := by decide +kernel
theorem dX3_isWalkHomeward_61 : decode cX3_isWalkHomeward 61 = .ok (.getfield 21, 3) := by decide +kernel
theorem dX3_isWalkHomeward_64 : decode cX3_isWalkHomeward 64 = .ok (.iload_n 2, 1) := by decide +kernel
theorem dX3_isWalkHomeward_65 : decode cX3_isWalkHomeward 65 = .ok (.aload_n 0, 1) := by decide +kernel
theorem dX3_isWalkHomeward_66 : decode cX3_isWalkHomeward 66 = .ok (.getfield 85, 3) := by decide +kernel
theorem dX3_isWalkHomeward_69 : decode cX3_isWalkHomeward 69 = .ok (.invokevirtual 158, 3) := by decide +kernel
theorem dX3_isWalkHomeward_72 : decode cX3_isWalkHomeward 72 = .ok (.invokevirtual 139, 3) := by decide +kernel
theorem dX3_isWalkHomeward_75 : decode cX3_isWalkHomeward 75 = .ok (.ifCond .eq 7, 3) := by decide +kernel
theorem dX3_isWalkHomeward_78 : decode cX3_isWalkHomeward 78 = .ok (.iconst 1, 1) := by decide +kernel
theorem dX3_isWalkHomeward_79 : decode cX3_isWalkHomeward 79 = .ok (.goto 4, 3) := by decide +kernel
theorem dX3_isWalkHomeward_82 : decode cX3_isWalkHomeward 82 = .ok (.iconst 0, 1) := by decide +kernel
theorem dX3_isWalkHomeward_83 : decode cX3_isWalkHomeward 83 = .ok (.ireturn, 1) := by decide +kernel
set_option maxRecDepth 20000 in
theorem ggX3_isAskHomeward_X4_isGiven : GoodIn wsX3_isAskHomeward wsX4_isGiven := goodIn_r _ [9, 10, 11, 12, 13, 14, 15, 8, 16, 17, 18, 19, 20, 21, 22, 23, 51, 52, 53, 54, 55, 56, 57, 58, 59, 60, 61, 62, 63] (by decide +kernel) (by decide +kernel)
set_option maxRecDepth 20000 in
theorem gX3_isAskHomeward_X4_isGiven : GoodIn wsX3_isAskHomeward (wsV RX3 161 RX4 yX4_isGiven wsX4_isGiven) := goodIn_app (goodIn_of _ (by decide +kernel)) ggX3_isAskHomeward_X4_isGiven
set_option maxRecDepth 20000 in
theorem ggX3_isAskHomeward_X4_hostGives : GoodIn wsX3_isAskHomeward wsX4_hostGives := goodIn_r _ [27, 12, 13, 14, 15, 8, 16, 17, 51, 52, 53, 54, 55, 56, 57, 58, 59, 60, 61, 62, 63] (by decide +kernel) (by decide +kernel)
set_option maxRecDepth 20000 in
theorem gX3_isAskHomeward_X4_hostGives : GoodIn wsX3_isAskHomeward (wsV RX3 164 RX4 yX4_hostGives wsX4_hostGives) := goodIn_app (goodIn_of _ (by decide +kernel)) ggX3_isAskHomeward_X4_hostGives
set_option maxRecDepth 20000 in
theorem ggX3_isAskHomeward_X3_canBeHome : GoodIn wsX3_isAskHomeward wsX3_canBeHome := goodIn_r _ [32, 33, 34, 35, 31, 36, 37, 38, 39, 40, 41, 42, 43, 44, 45, 46, 47, 48, 49, 50] (by decide +kernel) (by decide +kernel)
set_option maxRecDepth 20000 in
theorem gX3_isAskHomeward_X3_canBeHome : GoodIn wsX3_isAskHomeward (wsV RX3 139 RX3 yX3_canBeHome wsX3_canBeHome) := goodIn_app (goodIn_of _ (by decide +kernel)) ggX3_isAskHomeward_X3_canBeHome
theorem dX3_isAskHomeward_0 : decode cX3_isAskHomeward 0 = .ok (.aload_n 0, 1) := by decide +kernel
theorem dX3_isAskHomeward_1 : decode cX3_isAskHomeward 1 = .ok (.getfield 21, 3) := by decide +kernel
theorem dX3_isAskHomeward_4 : decode cX3_isAskHomeward 4 = .ok (.iload_n 1, 1) := by decide +kernel
theorem dX3_isAskHomeward_5 : decode cX3_isAskHomeward 5 = .ok (.aload_n 0, 1) := by decide +kernel
theorem dX3_isAskHomeward_6 : decode cX3_isAskHomeward 6 = .ok (.getfield 93, 3) := by decide +kernel
theorem dX3_isAskHomeward_9 : decode cX3_isAskHomeward 9 = .ok (.aload_n 0, 1) := by decide +kernel
theorem dX3_isAskHomeward_10 : decode cX3_isAskHomeward 10 = .ok (.getfield 85, 3) := by decide +kernel
theorem dX3_isAskHomeward_13 : decode cX3_isAskHomeward 13 = .ok (.invokevirtual 161, 3) := by decide +kernel
theorem dX3_isAskHomeward_16 : decode cX3_isAskHomeward 16 = .ok (.ifCond .eq 37, 3) := by decide +kernel
theorem dX3_isAskHomeward_19 : decode cX3_isAskHomeward 19 = .ok (.aload_n 0, 1) := by decide +kernel
theorem dX3_isAskHomeward_20 : decode cX3_isAskHomeward 20 = .ok (.aload_n 0, 1) := by decide +kernel
theorem dX3_isAskHomeward_21 : decode cX3_isAskHomeward 21 = .ok (.getfield 98, 3) := by decide +kernel
theorem dX3_isAskHomeward_24 : decode cX3_isAskHomeward 24 = .ok (.aload_n 0, 1) := by decide +kernel
theorem dX3_isAskHomeward_25 : decode cX3_isAskHomeward 25 = .ok (.getfield 93, 3) := by decide +kernel
theorem dX3_isAskHomeward_28 : decode cX3_isAskHomeward 28 = .ok (.aload_n 0, 1) := by decide +kernel
theorem dX3_isAskHomeward_29 : decode cX3_isAskHomeward 29 = .ok (.getfield 85, 3) := by decide +kernel
theorem dX3_isAskHomeward_32 : decode cX3_isAskHomeward 32 = .ok (.iconst 1, 1) := by decide +kernel
theorem dX3_isAskHomeward_33 : decode cX3_isAskHomeward 33 = .ok (.aload_n 0, 1) := by decide +kernel
theorem dX3_isAskHomeward_34 : decode cX3_isAskHomeward 34 = .ok (.getfield 21, 3) := by decide +kernel
theorem dX3_isAskHomeward_37 : decode cX3_isAskHomeward 37 = .ok (.iload_n 1, 1) := by decide +kernel
theorem dX3_isAskHomeward_38 : decode cX3_isAskHomeward 38 = .ok (.invokevirtual 164, 3) := by decide +kernel
theorem dX3_isAskHomeward_41 : decode cX3_isAskHomeward 41 = .ok (.ishl, 1) := by decide +kernel
theorem dX3_isAskHomeward_42 : decode cX3_isAskHomeward 42 = .ok (.ior, 1) := by decide +kernel
theorem dX3_isAskHomeward_43 : decode cX3_isAskHomeward 43 = .ok (.invokevirtual 139, 3) := by decide +kernel
theorem dX3_isAskHomeward_46 : decode cX3_isAskHomeward 46 = .ok (.ifCond .eq 7, 3) := by decide +kernel
theorem dX3_isAskHomeward_49 : decode cX3_isAskHomeward 49 = .ok (.iconst 1, 1) := by decide +kernel
theorem dX3_isAskHomeward_50 : decode cX3_isAskHomeward 50 = .ok (.goto 4, 3) := by decide +kernel
theorem dX3_isAskHomeward_53 : decode cX3_isAskHomeward 53 = .ok (.iconst 0, 1) := by decide +kernel
theorem dX3_isAskHomeward_54 : decode cX3_isAskHomeward 54 = .ok (.ireturn, 1) := by decide +kernel
set_option maxRecDepth 20000 in
theorem ggX3_takeStep_X3_isWalk : GoodIn wsX3_takeStep wsX3_isWalk := goodIn_r _ [8] (by decide +kernel) (by decide +kernel)
set_option maxRecDepth 20000 in
theorem gX3_takeStep_X3_isWalk : GoodIn wsX3_takeStep (va_wsS RX3 90 yX3_isWalk wsX3_isWalk) := goodIn_app (goodIn_of _ (by decide +kernel)) ggX3_takeStep_X3_isWalk
set_option maxRecDepth 20000 in
theorem ggX3_takeStep_X4_farEnd : GoodIn wsX3_takeStep wsX4_farEnd := goodIn_r _ [13, 14, 15, 16, 17, 18, 12, 19, 20, 67, 68, 69, 70, 71, 72, 73, 74, 75, 76, 77, 78, 79] (by decide +kernel) (by decide +kernel)
set_option maxRecDepth 20000 in
theorem gX3_takeStep_X4_farEnd : GoodIn wsX3_takeStep (wsV RX3 149 RX4 yX4_farEnd wsX4_farEnd) := goodIn_app (goodIn_of _ (by decide +kernel)) ggX3_takeStep_X4_farEnd
set_option maxRecDepth 20000 in
theorem ggX3_takeStep_X4_roadHours : GoodIn wsX3_takeStep wsX4_roadHours := goodIn_r _ [24, 25, 16, 17, 18, 12, 19, 20, 67, 68, 69, 70, 71, 72, 73, 74, 75, 76, 77, 78, 79] (by decide +kernel) (by decide +kernel)
set_option maxRecDepth 20000 in
theorem gX3_takeStep_X4_roadHours : GoodIn wsX3_takeStep (wsV RX3 152 RX4 yX4_roadHours wsX4_roadHours) := goodIn_app (goodIn_of _ (by decide +kernel)) ggX3_takeStep_X4_roadHours
set_option maxRecDepth 20000 in
theorem ggX3_takeStep_X4_thingsInside : GoodIn wsX3_takeStep wsX4_thingsInside := goodIn_r _ [29, 30, 31, 32, 12, 33, 34, 35, 36, 37, 38, 39, 40, 41, 42, 67, 68, 69, 70, 71, 72, 73, 74, 75, 76, 77, 78, 79] (by decide +kernel) (by decide +kernel)
set_option maxRecDepth 20000 in
theorem gX3_takeStep_X4_thingsInside : GoodIn wsX3_takeStep (wsV RX3 158 RX4 yX4_thingsInside wsX4_thingsInside) := goodIn_app (goodIn_of _ (by decide +kernel)) ggX3_takeStep_X4_thingsInside
set_option maxRecDepth 20000 in
theorem ggX3_takeStep_X4_hostGives : GoodIn wsX3_takeStep wsX4_hostGives := goodIn_r _ [46, 47, 48, 49, 50, 12, 51, 52, 67, 68, 69, 70, 71, 72, 73, 74, 75, 76, 77, 78, 79] (by decide +kernel) (by decide +kernel)
set_option maxRecDepth 20000 in
theorem gX3_takeStep_X4_hostGives : GoodIn wsX3_takeStep (wsV RX3 164 RX4 yX4_hostGives wsX4_hostGives) := goodIn_app (goodIn_of _ (by decide +kernel)) ggX3_takeStep_X4_hostGives
theorem dX3_takeStep_0 : decode cX3_takeStep 0 = .ok (.iload_n 1, 1) := by decide +kernel
theorem dX3_takeStep_1 : decode cX3_takeStep 1 = .ok (.ifCond .ne 16, 3) := by decide +kernel
theorem dX3_takeStep_4 : decode cX3_takeStep 4 = .ok (.aload_n 0, 1) := by decide +kernel
theorem dX3_takeStep_5 : decode cX3_takeStep 5 = .ok (.dup, 1) := by decide +kernel
theorem dX3_takeStep_6 : decode cX3_takeStep 6 = .ok (.getfield 98, 3) := by decide +kernel
theorem dX3_takeStep_9 : decode cX3_takeStep 9 = .ok (.iconst 1, 1) := by decide +kernel
theorem dX3_takeStep_10 : decode cX3_takeStep 10 = .ok (.iadd, 1) := by decide +kernel
theorem dX3_takeStep_11 : decode cX3_takeStep 11 = .ok (.putfield 98, 3) := by decide +kernel
theorem dX3_takeStep_14 : decode cX3_takeStep 14 = .ok (.goto 91, 3) := by decide +kernel
theorem dX3_takeStep_17 : decode cX3_takeStep 17 = .ok (.iload_n 1, 1) := by decide +kernel
theorem dX3_takeStep_18 : decode cX3_takeStep 18 = .ok (.invokestatic 90, 3) := by decide +kernel
theorem dX3_takeStep_21 : decode cX3_takeStep 21 = .ok (.ifCond .eq 62, 3) := by decide +kernel
theorem dX3_takeStep_24 : decode cX3_takeStep 24 = .ok (.iload_n 1, 1) := by decide +kernel
theorem dX3_takeStep_25 : decode cX3_takeStep 25 = .ok (.iconst 1, 1) := by decide +kernel
theorem dX3_takeStep_26 : decode cX3_takeStep 26 = .ok (.isub, 1) := by decide +kernel
theorem dX3_takeStep_27 : decode cX3_takeStep 27 = .ok (.istore_n 2, 1) := by decide +kernel
theorem dX3_takeStep_28 : decode cX3_takeStep 28 = .ok (.aload_n 0, 1) := by decide +kernel
theorem dX3_takeStep_29 : decode cX3_takeStep 29 = .ok (.aload_n 0, 1) := by decide +kernel
theorem dX3_takeStep_30 : decode cX3_takeStep 30 = .ok (.getfield 21, 3) := by decide +kernel
theorem dX3_takeStep_33 : decode cX3_takeStep 33 = .ok (.iload_n 2, 1) := by decide +kernel
theorem dX3_takeStep_34 : decode cX3_takeStep 34 = .ok (.aload_n 0, 1) := by decide +kernel
theorem dX3_takeStep_35 : decode cX3_takeStep 35 = .ok (.getfield 93, 3) := by decide +kernel
theorem dX3_takeStep_38 : decode cX3_takeStep 38 = .ok (.invokevirtual 149, 3) := by decide +kernel
theorem dX3_takeStep_41 : decode cX3_takeStep 41 = .ok (.putfield 93, 3) := by decide +kernel
theorem dX3_takeStep_44 : decode cX3_takeStep 44 = .ok (.aload_n 0, 1) := by decide +kernel
theorem dX3_takeStep_45 : decode cX3_takeStep 45 = .ok (.dup, 1) := by decide +kernel
theorem dX3_takeStep_46 : decode cX3_takeStep 46 = .ok (.getfield 98, 3) := by decide +kernel
theorem dX3_takeStep_49 : decode cX3_takeStep 49 = .ok (.aload_n 0, 1) := by decide +kernel
theorem dX3_takeStep_50 : decode cX3_takeStep 50 = .ok (.getfield 21, 3) := by decide +kernel
theorem dX3_takeStep_53 : decode cX3_takeStep 53 = .ok (.iload_n 2, 1) := by decide +kernel
theorem dX3_takeStep_54 : decode cX3_takeStep 54 = .ok (.invokevirtual 152, 3) := by decide +kernel
theorem dX3_takeStep_57 : decode cX3_takeStep 57 = .ok (.iadd, 1) := by decide +kernel
theorem dX3_takeStep_58 : decode cX3_takeStep 58 = .ok (.putfield 98, 3) := by decide +kernel
theorem dX3_takeStep_61 : decode cX3_takeStep 61 = .ok (.aload_n 0, 1) := by decide +kernel
theorem dX3_takeStep_62 : decode cX3_takeStep 62 = .ok (.aload_n 0, 1) := by decide +kernel
theorem dX3_takeStep_63 : decode cX3_takeStep 63 = .ok (.getfield 21, 3) := by decide +kernel
theorem dX3_takeStep_66 : decode cX3_takeStep 66 = .ok (.aload_n 0, 1) := by decide +kernel
theorem dX3_takeStep_67 : decode cX3_takeStep 67 = .ok (.getfield 93, 3) := by decide +kernel
theorem dX3_takeStep_70 : decode cX3_takeStep 70 = .ok (.aload_n 0, 1) := by decide +kernel
theorem dX3_takeStep_71 : decode cX3_takeStep 71 = .ok (.getfield 85, 3) := by decide +kernel
theorem dX3_takeStep_74 : decode cX3_takeStep 74 = .ok (.invokevirtual 158, 3) := by decide +kernel
theorem dX3_takeStep_77 : decode cX3_takeStep 77 = .ok (.putfield 85, 3) := by decide +kernel
theorem dX3_takeStep_80 : decode cX3_takeStep 80 = .ok (.goto 25, 3) := by decide +kernel
theorem dX3_takeStep_83 : decode cX3_takeStep 83 = .ok (.aload_n 0, 1) := by decide +kernel
theorem dX3_takeStep_84 : decode cX3_takeStep 84 = .ok (.dup, 1) := by decide +kernel
theorem dX3_takeStep_85 : decode cX3_takeStep 85 = .ok (.getfield 85, 3) := by decide +kernel
theorem dX3_takeStep_88 : decode cX3_takeStep 88 = .ok (.iconst 1, 1) := by decide +kernel
theorem dX3_takeStep_89 : decode cX3_takeStep 89 = .ok (.aload_n 0, 1) := by decide +kernel
theorem dX3_takeStep_90 : decode cX3_takeStep 90 = .ok (.getfield 21, 3) := by decide +kernel
theorem dX3_takeStep_93 : decode cX3_takeStep 93 = .ok (.iload_n 1, 1) := by decide +kernel
theorem dX3_takeStep_94 : decode cX3_takeStep 94 = .ok (.bipush 11, 2) := by decide +kernel
theorem dX3_takeStep_96 : decode cX3_takeStep 96 = .ok (.isub, 1) := by decide +kernel
theorem dX3_takeStep_97 : decode cX3_takeStep 97 = .ok (.invokevirtual 164, 3) := by decide +kernel
theorem dX3_takeStep_100 : decode cX3_takeStep 100 = .ok (.ishl, 1) := by decide +kernel
theorem dX3_takeStep_101 : decode cX3_takeStep 101 = .ok (.ior, 1) := by decide +kernel
theorem dX3_takeStep_102 : decode cX3_takeStep 102 = .ok (.putfield 85, 3) := by decide +kernel
theorem dX3_takeStep_105 : decode cX3_takeStep 105 = .ok (.return_, 1) := by decide +kernel
theorem dX3_isWalk_0 : decode cX3_isWalk 0 = .ok (.iload_n 0, 1) := by decide +kernel
theorem dX3_isWalk_1 : decode cX3_isWalk 1 = .ok (.iconst 1, 1) := by decide +kernel
theorem dX3_isWalk_2 : decode cX3_isWalk 2 = .ok (.if_icmp .lt 13, 3) := by decide +kernel
theorem dX3_isWalk_5 : decode cX3_isWalk 5 = .ok (.iload_n 0, 1) := by decide +kernel
theorem dX3_isWalk_6 : decode cX3_isWalk 6 = .ok (.bipush 11, 2) := by decide +kernel
theorem dX3_isWalk_8 : decode cX3_isWalk 8 = .ok (.if_icmp .ge 7, 3) := by decide +kernel
theorem dX3_isWalk_11 : decode cX3_isWalk 11 = .ok (.iconst 1, 1) := by decide +kernel
theorem dX3_isWalk_12 : decode cX3_isWalk 12 = .ok (.goto 4, 3) := by decide +kernel
theorem dX3_isWalk_15 : decode cX3_isWalk 15 = .ok (.iconst 0, 1) := by decide +kernel
theorem dX3_isWalk_16 : decode cX3_isWalk 16 = .ok (.ireturn, 1) := by decide +kernel
set_option maxRecDepth 20000 in
theorem ggX3_measureBrother_X4_roadStart : GoodIn wsX3_measureBrother wsX4_roadStart := goodIn_r _ [8, 9, 10, 11, 12, 7, 13, 14, 53, 54, 55, 56, 57, 58, 59, 60, 61, 62, 63, 64, 65] (by decide +kernel) (by decide +kernel)
set_option maxRecDepth 20000 in
theorem gX3_measureBrother_X4_roadStart : GoodIn wsX3_measureBrother (wsV RX3 167 RX4 yX4_roadStart wsX4_roadStart) := goodIn_app (goodIn_of _ (by decide +kernel)) ggX3_measureBrother_X4_roadStart
set_option maxRecDepth 20000 in
theorem ggX3_measureBrother_X4_roadEnd : GoodIn wsX3_measureBrother wsX4_roadEnd := goodIn_r _ [18, 19, 10, 11, 12, 7, 13, 14, 53, 54, 55, 56, 57, 58, 59, 60, 61, 62, 63, 64, 65] (by decide +kernel) (by decide +kernel)
set_option maxRecDepth 20000 in
theorem gX3_measureBrother_X4_roadEnd : GoodIn wsX3_measureBrother (wsV RX3 170 RX4 yX4_roadEnd wsX4_roadEnd) := goodIn_app (goodIn_of _ (by decide +kernel)) ggX3_measureBrother_X4_roadEnd
set_option maxRecDepth 20000 in
theorem ggX3_measureBrother_X3_shortenBrother : GoodIn wsX3_measureBrother wsX3_shortenBrother := goodIn_r _ [24, 2, 1, 25, 26, 27, 23, 28, 29, 30, 31, 7, 32, 33, 34, 35, 36, 37, 38, 10, 11, 12, 13, 14, 39, 40, 41, 42, 43, 44, 45, 46, 47, 48, 49, 50, 51, 52, 53, 54, 55, 56, 57, 58, 59, 60, 61, 62, 63, 64, 65] (by decide +kernel) (by decide +kernel)
set_option maxRecDepth 20000 in
theorem gX3_measureBrother_X3_shortenBrother : GoodIn wsX3_measureBrother (wsV RX3 173 RX3 yX3_shortenBrother wsX3_shortenBrother) := goodIn_app (goodIn_of _ (by decide +kernel)) ggX3_measureBrother_X3_shortenBrother
theorem dX3_measureBrother_0 : decode cX3_measureBrother 0 = .ok (.iconst 0, 1) := by decide +kernel
theorem dX3_measureBrother_1 : decode cX3_measureBrother 1 = .ok (.istore_n 2, 1) := by decide +kernel
theorem dX3_measureBrother_2 : decode cX3_measureBrother 2 = .ok (.iload_n 2, 1) := by decide +kernel
theorem dX3_measureBrother_3 : decode cX3_measureBrother 3 = .ok (.bipush 7, 2) := by decide +kernel
theorem dX3_measureBrother_5 : decode cX3_measureBrother 5 = .ok (.if_icmp .ge 27, 3) := by decide +kernel
theorem dX3_measureBrother_8 : decode cX3_measureBrother 8 = .ok (.aload_n 0, 1) := by decide +kernel
theorem dX3_measureBrother_9 : decode cX3_measureBrother 9 = .ok (.getfield 15, 3) := by decide +kernel
theorem dX3_measureBrother_12 : decode cX3_measureBrother 12 = .ok (.iload_n 2, 1) := by decide +kernel
theorem dX3_measureBrother_13 : decode cX3_measureBrother 13 = .ok (.iload_n 2, 1) := by decide +kernel
theorem dX3_measureBrother_14 : decode cX3_measureBrother 14 = .ok (.iload_n 1, 1) := by decide +kernel
theorem dX3_measureBrother_15 : decode cX3_measureBrother 15 = .ok (.if_icmp .ne 7, 3) := by decide +kernel
theorem dX3_measureBrother_18 : decode cX3_measureBrother 18 = .ok (.iconst 0, 1) := by decide +kernel
theorem dX3_measureBrother_19 : decode cX3_measureBrother 19 = .ok (.goto 6, 3) := by decide +kernel
theorem dX3_measureBrother_22 : decode cX3_measureBrother 22 = .ok (.sipush 1000, 3) := by decide +kernel
theorem dX3_measureBrother_25 : decode cX3_measureBrother 25 = .ok (.iastore, 1) := by decide +kernel
theorem dX3_measureBrother_26 : decode cX3_measureBrother 26 = .ok (.iinc 2 1, 3) := by decide +kernel
theorem dX3_measureBrother_29 : decode cX3_measureBrother 29 = .ok (.goto (-27), 3) := by decide +kernel
theorem dX3_measureBrother_32 : decode cX3_measureBrother 32 = .ok (.iconst 1, 1) := by decide +kernel
theorem dX3_measureBrother_33 : decode cX3_measureBrother 33 = .ok (.istore_n 2, 1) := by decide +kernel
theorem dX3_measureBrother_34 : decode cX3_measureBrother 34 = .ok (.iload_n 2, 1) := by decide +kernel
theorem dX3_measureBrother_35 : decode cX3_measureBrother 35 = .ok (.bipush 7, 2) := by decide +kernel
theorem dX3_measureBrother_37 : decode cX3_measureBrother 37 = .ok (.if_icmp .ge 70, 3) := by decide +kernel
theorem dX3_measureBrother_40 : decode cX3_measureBrother 40 = .ok (.iconst 0, 1) := by decide +kernel
theorem dX3_measureBrother_41 : decode cX3_measureBrother 41 = .ok (.istore_n 3, 1) := by decide +kernel
theorem dX3_measureBrother_42 : decode cX3_measureBrother 42 = .ok (.iload_n 3, 1) := by decide +kernel
theorem dX3_measureBrother_43 : decode cX3_measureBrother 43 = .ok (.aload_n 0, 1) := by decide +kernel
theorem dX3_measureBrother_44 : decode cX3_measureBrother 44 = .ok (.getfield 21, 3) := by decide +kernel
theorem dX3_measureBrother_47 : decode cX3_measureBrother 47 = .ok (.getfield 104, 3) := by decide +kernel
theorem dX3_measureBrother_50 : decode cX3_measureBrother 50 = .ok (.if_icmp .ge 51, 3) := by decide +kernel
theorem dX3_measureBrother_53 : decode cX3_measureBrother 53 = .ok (.aload_n 0, 1) := by decide +kernel
theorem dX3_measureBrother_54 : decode cX3_measureBrother 54 = .ok (.iload_n 3, 1) := by decide +kernel
theorem dX3_measureBrother_55 : decode cX3_measureBrother 55 = .ok (.aload_n 0, 1) := by decide +kernel
theorem dX3_measureBrother_56 : decode cX3_measureBrother 56 = .ok (.getfield 21, 3) := by decide +kernel
theorem dX3_measureBrother_59 : decode cX3_measureBrother 59 = .ok (.iload_n 3, 1) := by decide +kernel
theorem dX3_measureBrother_60 : decode cX3_measureBrother 60 = .ok (.invokevirtual 167, 3) := by decide +kernel
theorem dX3_measureBrother_63 : decode cX3_measureBrother 63 = .ok (.aload_n 0, 1) := by decide +kernel
theorem dX3_measureBrother_64 : decode cX3_measureBrother 64 = .ok (.getfield 21, 3) := by decide +kernel
theorem dX3_measureBrother_67 : decode cX3_measureBrother 67 = .ok (.iload_n 3, 1) := by decide +kernel
theorem dX3_measureBrother_68 : decode cX3_measureBrother 68 = .ok (.invokevirtual 170, 3) := by decide +kernel
theorem dX3_measureBrother_71 : decode cX3_measureBrother 71 = .ok (.invokevirtual 173, 3) := by decide +kernel
theorem dX3_measureBrother_74 : decode cX3_measureBrother 74 = .ok (.aload_n 0, 1) := by decide +kernel
theorem dX3_measureBrother_75 : decode cX3_measureBrother 75 = .ok (.iload_n 3, 1) := by decide +kernel
theorem dX3_measureBrother_76 : decode cX3_measureBrother 76 = .ok (.aload_n 0, 1) := by decide +kernel
theorem dX3_measureBrother_77 : decode cX3_measureBrother 77 = .ok (.getfield 21, 3) := by decide +kernel
theorem dX3_measureBrother_80 : decode cX3_measureBrother 80 = .ok (.iload_n 3, 1) := by decide +kernel
theorem dX3_measureBrother_81 : decode cX3_measureBrother 81 = .ok (.invokevirtual 170, 3) := by decide +kernel
theorem dX3_measureBrother_84 : decode cX3_measureBrother 84 = .ok (.aload_n 0, 1) := by decide +kernel
theorem dX3_measureBrother_85 : decode cX3_measureBrother 85 = .ok (.getfield 21, 3) := by decide +kernel
theorem dX3_measureBrother_88 : decode cX3_measureBrother 88 = .ok (.iload_n 3, 1) := by decide +kernel
theorem dX3_measureBrother_89 : decode cX3_measureBrother 89 = .ok (.invokevirtual 167, 3) := by decide +kernel
theorem dX3_measureBrother_92 : decode cX3_measureBrother 92 = .ok (.invokevirtual 173, 3) := by decide +kernel
theorem dX3_measureBrother_95 : decode cX3_measureBrother 95 = .ok (.iinc 3 1, 3) := by decide +kernel
theorem dX3_measureBrother_98 : decode cX3_measureBrother 98 = .ok (.goto (-56), 3) := by decide +kernel
theorem dX3_measureBrother_101 : decode cX3_measureBrother 101 = .ok (.iinc 2 1, 3) := by decide +kernel
theorem dX3_measureBrother_104 : decode cX3_measureBrother 104 = .ok (.goto (-70), 3) := by decide +kernel
theorem dX3_measureBrother_107 : decode cX3_measureBrother 107 = .ok (.return_, 1) := by decide +kernel
set_option maxRecDepth 20000 in
theorem ggX3_shortenBrother_X3_brotherHoursTo : GoodIn wsX3_shortenBrother wsX3_brotherHoursTo := goodIn_r _ [7, 1, 2, 8, 9, 10, 11, 12, 13, 24, 25, 26, 27, 28, 29, 30, 31, 32, 33, 34, 35, 36, 37, 38, 39, 40, 41, 42, 43, 44, 45, 46, 47, 48, 49, 50] (by decide +kernel) (by decide +kernel)
set_option maxRecDepth 20000 in
theorem gX3_shortenBrother_X3_brotherHoursTo : GoodIn wsX3_shortenBrother (wsV RX3 94 RX3 yX3_brotherHoursTo wsX3_brotherHoursTo) := goodIn_app (goodIn_of _ (by decide +kernel)) ggX3_shortenBrother_X3_brotherHoursTo
set_option maxRecDepth 20000 in
theorem ggX3_shortenBrother_X4_roadHours : GoodIn wsX3_shortenBrother wsX4_roadHours := goodIn_r _ [17, 18, 19, 20, 21, 11, 22, 23, 38, 39, 40, 41, 42, 43, 44, 45, 46, 47, 48, 49, 50] (by decide +kernel) (by decide +kernel)
set_option maxRecDepth 20000 in
theorem gX3_shortenBrother_X4_roadHours : GoodIn wsX3_shortenBrother (wsV RX3 152 RX4 yX4_roadHours wsX4_roadHours) := goodIn_app (goodIn_of _ (by decide +kernel)) ggX3_shortenBrother_X4_roadHours
set_option maxRecDepth 20000 in
theorem ggX3_shortenBrother_X4_hasPlace : GoodIn wsX3_shortenBrother wsX4_hasPlace := goodIn_r _ [12, 13, 38, 39, 40, 41, 42, 43, 44, 45, 46, 47, 48, 49, 50] (by decide +kernel) (by decide +kernel)
set_option maxRecDepth 20000 in
theorem gX3_shortenBrother_X4_hasPlace : GoodIn wsX3_shortenBrother (wsV RX3 176 RX4 yX4_hasPlace wsX4_hasPlace) := goodIn_app (goodIn_of _ (by decide +kernel)) ggX3_shortenBrother_X4_hasPlace
theorem dX3_shortenBrother_0 : decode cX3_shortenBrother 0 = .ok (.aload_n 0, 1) := by decide +kernel
theorem dX3_shortenBrother_1 : decode cX3_shortenBrother 1 = .ok (.iload_n 2, 1) := by decide +kernel
theorem dX3_shortenBrother_2 : decode cX3_shortenBrother 2 = .ok (.invokevirtual 94, 3) := by decide +kernel
theorem dX3_shortenBrother_5 : decode cX3_shortenBrother 5 = .ok (.aload_n 0, 1) := by decide +kernel
theorem dX3_shortenBrother_6 : decode cX3_shortenBrother 6 = .ok (.getfield 21, 3) := by decide +kernel
theorem dX3_shortenBrother_9 : decode cX3_shortenBrother 9 = .ok (.iload_n 1, 1) := by decide +kernel
theorem dX3_shortenBrother_10 : decode cX3_shortenBrother 10 = .ok (.invokevirtual 152, 3) := by decide +kernel
theorem dX3_shortenBrother_13 : decode cX3_shortenBrother 13 = .ok (.iadd, 1) := by decide +kernel
theorem dX3_shortenBrother_14 : decode cX3_shortenBrother 14 = .ok (.istore 4, 2) := by decide +kernel
theorem dX3_shortenBrother_16 : decode cX3_shortenBrother 16 = .ok (.aload_n 0, 1) := by decide +kernel
theorem dX3_shortenBrother_17 : decode cX3_shortenBrother 17 = .ok (.getfield 21, 3) := by decide +kernel
theorem dX3_shortenBrother_20 : decode cX3_shortenBrother 20 = .ok (.iload_n 3, 1) := by decide +kernel
theorem dX3_shortenBrother_21 : decode cX3_shortenBrother 21 = .ok (.invokevirtual 176, 3) := by decide +kernel
theorem dX3_shortenBrother_24 : decode cX3_shortenBrother 24 = .ok (.ifCond .eq 22, 3) := by decide +kernel
theorem dX3_shortenBrother_27 : decode cX3_shortenBrother 27 = .ok (.iload 4, 2) := by decide +kernel
theorem dX3_shortenBrother_29 : decode cX3_shortenBrother 29 = .ok (.aload_n 0, 1) := by decide +kernel
theorem dX3_shortenBrother_30 : decode cX3_shortenBrother 30 = .ok (.getfield 15, 3) := by decide +kernel
theorem dX3_shortenBrother_33 : decode cX3_shortenBrother 33 = .ok (.iload_n 3, 1) := by decide +kernel
theorem dX3_shortenBrother_34 : decode cX3_shortenBrother 34 = .ok (.iaload, 1) := by decide +kernel
theorem dX3_shortenBrother_35 : decode cX3_shortenBrother 35 = .ok (.if_icmp .ge 11, 3) := by decide +kernel
theorem dX3_shortenBrother_38 : decode cX3_shortenBrother 38 = .ok (.aload_n 0, 1) := by decide +kernel
theorem dX3_shortenBrother_39 : decode cX3_shortenBrother 39 = .ok (.getfield 15, 3) := by decide +kernel
theorem dX3_shortenBrother_42 : decode cX3_shortenBrother 42 = .ok (.iload_n 3, 1) := by decide +kernel
theorem dX3_shortenBrother_43 : decode cX3_shortenBrother 43 = .ok (.iload 4, 2) := by decide +kernel
theorem dX3_shortenBrother_45 : decode cX3_shortenBrother 45 = .ok (.iastore, 1) := by decide +kernel
theorem dX3_shortenBrother_46 : decode cX3_shortenBrother 46 = .ok (.return_, 1) := by decide +kernel
set_option maxRecDepth 20000 in
theorem ggX3_brotherHoursTo_X4_hasPlace : GoodIn wsX3_brotherHoursTo wsX4_hasPlace := goodIn_r _ [7, 8, 23, 24, 25, 26, 27, 28, 29, 30, 31, 32, 33, 34, 35] (by decide +kernel) (by decide +kernel)
set_option maxRecDepth 20000 in
theorem gX3_brotherHoursTo_X4_hasPlace : GoodIn wsX3_brotherHoursTo (wsV RX3 176 RX4 yX4_hasPlace wsX4_hasPlace) := goodIn_app (goodIn_of _ (by decide +kernel)) ggX3_brotherHoursTo_X4_hasPlace
theorem dX3_brotherHoursTo_0 : decode cX3_brotherHoursTo 0 = .ok (.aload_n 0, 1) := by decide +kernel
theorem dX3_brotherHoursTo_1 : decode cX3_brotherHoursTo 1 = .ok (.getfield 21, 3) := by decide +kernel
theorem dX3_brotherHoursTo_4 : decode cX3_brotherHoursTo 4 = .ok (.iload_n 1, 1) := by decide +kernel
theorem dX3_brotherHoursTo_5 : decode cX3_brotherHoursTo 5 = .ok (.invokevirtual 176, 3) := by decide +kernel
theorem dX3_brotherHoursTo_8 : decode cX3_brotherHoursTo 8 = .ok (.ifCond .eq 12, 3) := by decide +kernel
theorem dX3_brotherHoursTo_11 : decode cX3_brotherHoursTo 11 = .ok (.aload_n 0, 1) := by decide +kernel
theorem dX3_brotherHoursTo_12 : decode cX3_brotherHoursTo 12 = .ok (.getfield 15, 3) := by decide +kernel
theorem dX3_brotherHoursTo_15 : decode cX3_brotherHoursTo 15 = .ok (.iload_n 1, 1) := by decide +kernel
theorem dX3_brotherHoursTo_16 : decode cX3_brotherHoursTo 16 = .ok (.iaload, 1) := by decide +kernel
theorem dX3_brotherHoursTo_17 : decode cX3_brotherHoursTo 17 = .ok (.goto 6, 3) := by decide +kernel
theorem dX3_brotherHoursTo_20 : decode cX3_brotherHoursTo 20 = .ok (.sipush 1000, 3) := by decide +kernel
theorem dX3_brotherHoursTo_23 : decode cX3_brotherHoursTo 23 = .ok (.ireturn, 1) := by decide +kernel
set_option maxRecDepth 20000 in
theorem ggX3_fillBackward_J7_fill_53178 : GoodIn wsX3_fillBackward wsJ7_fill_53178 := goodIn_r _ [7] (by decide +kernel) (by decide +kernel)
set_option maxRecDepth 20000 in
theorem gX3_fillBackward_J7_fill_53178 : GoodIn wsX3_fillBackward (va_wsS RX3 112 yJ7_fill_53178 wsJ7_fill_53178) := goodIn_app (goodIn_of _ (by decide +kernel)) ggX3_fillBackward_J7_fill_53178
set_option maxRecDepth 20000 in
theorem ggX3_fillBackward_X3_setsHaving : GoodIn wsX3_fillBackward wsX3_setsHaving := goodIn_r _ [11, 12, 13, 14, 15] (by decide +kernel) (by decide +kernel)
set_option maxRecDepth 20000 in
theorem gX3_fillBackward_X3_setsHaving : GoodIn wsX3_fillBackward (va_wsS RX3 130 yX3_setsHaving wsX3_setsHaving) := goodIn_app (goodIn_of _ (by decide +kernel)) ggX3_fillBackward_X3_setsHaving
set_option maxRecDepth 20000 in
theorem ggX3_fillBackward_X3_addSets : GoodIn wsX3_fillBackward wsX3_addSets := goodIn_r _ [19, 1, 20, 21, 10, 22, 114, 115, 116, 117, 118, 119, 120, 121, 122, 123, 124, 125, 126, 127] (by decide +kernel) (by decide +kernel)
set_option maxRecDepth 20000 in
theorem gX3_fillBackward_X3_addSets : GoodIn wsX3_fillBackward (wsV RX3 118 RX3 yX3_addSets wsX3_addSets) := goodIn_app (goodIn_of _ (by decide +kernel)) ggX3_fillBackward_X3_addSets
set_option maxRecDepth 20000 in
theorem ggX3_fillBackward_X3_setsAt : GoodIn wsX3_fillBackward wsX3_setsAt := goodIn_r _ [26, 1, 20, 21, 10, 22, 114, 115, 116, 117, 118, 119, 120, 121, 122, 123, 124, 125, 126, 127] (by decide +kernel) (by decide +kernel)
set_option maxRecDepth 20000 in
theorem gX3_fillBackward_X3_setsAt : GoodIn wsX3_fillBackward (wsV RX3 126 RX3 yX3_setsAt wsX3_setsAt) := goodIn_app (goodIn_of _ (by decide +kernel)) ggX3_fillBackward_X3_setsAt
set_option maxRecDepth 20000 in
theorem ggX3_fillBackward_X3_spreadWalks : GoodIn wsX3_fillBackward wsX3_spreadWalks := goodIn_r _ [30, 2, 31, 32, 33, 34, 35, 36, 37, 38, 39, 40, 41, 42, 43, 44, 45, 46, 47, 48, 49, 50, 51, 52, 53, 54, 55, 10, 56, 57, 58, 59, 60, 61, 62, 63, 64, 65, 66, 67, 68, 69, 70, 71, 72, 73, 74, 75, 76, 77, 78, 23, 24, 25, 26, 1, 20, 21, 22, 79, 80, 81, 12, 13, 14, 15, 16, 17, 18, 19, 82, 83, 84, 114, 115, 116, 117, 118, 119, 120, 121, 122, 123, 124, 125, 126, 127, 128, 129, 130, 131, 132, 133, 134, 135, 136, 137, 138, 139, 140, 141, 142, 143, 144, 145, 146, 147, 148] (by decide +kernel) (by decide +kernel)
set_option maxRecDepth 20000 in
theorem gX3_fillBackward_X3_spreadWalks : GoodIn wsX3_fillBackward (wsV RX3 136 RX3 yX3_spreadWalks wsX3_spreadWalks) := goodIn_app (goodIn_of _ (by decide +kernel)) ggX3_fillBackward_X3_spreadWalks
set_option maxRecDepth 20000 in
theorem ggX3_fillBackward_X3_spreadAsks : GoodIn wsX3_fillBackward wsX3_spreadAsks := goodIn_r _ [88, 2, 89, 90, 91, 92, 10, 93, 94, 95, 96, 35, 97, 98, 99, 100, 101, 102, 103, 104, 105, 106, 107, 108, 23, 24, 25, 26, 1, 20, 21, 22, 109, 110, 111, 112, 113, 8, 9, 11, 12, 13, 14, 15, 16, 17, 18, 19, 114, 115, 116, 117, 118, 119, 120, 121, 122, 123, 124, 125, 126, 127, 128, 129, 130, 131, 132, 133, 134, 135, 136, 137, 138, 139, 140] (by decide +kernel) (by decide +kernel)
set_option maxRecDepth 20000 in
theorem gX3_fillBackward_X3_spreadAsks : GoodIn wsX3_fillBackward (wsV RX3 122 RX3 yX3_spreadAsks wsX3_spreadAsks) := goodIn_app (goodIn_of _ (by decide +kernel)) ggX3_fillBackward_X3_spreadAsks
theorem dX3_fillBackward_0 : decode cX3_fillBackward 0 = .ok (.aload_n 0, 1) := by decide +kernel
theorem dX3_fillBackward_1 : decode cX3_fillBackward 1 = .ok (.getfield 9, 3) := by decide +kernel
theorem dX3_fillBackward_4 : decode cX3_fillBackward 4 = .ok (.iconst 0, 1) := by decide +kernel
theorem dX3_fillBackward_5 : decode cX3_fillBackward 5 = .ok (.invokestatic 112, 3) := by decide +kernel
theorem dX3_fillBackward_8 : decode cX3_fillBackward 8 = .ok (.aload_n 0, 1) := by decide +kernel
theorem dX3_fillBackward_9 : decode cX3_fillBackward 9 = .ok (.iload_n 2, 1) := by decide +kernel
theorem dX3_fillBackward_10 : decode cX3_fillBackward 10 = .ok (.iconst 0, 1) := by decide +kernel
theorem dX3_fillBackward_11 : decode cX3_fillBackward 11 = .ok (.iload_n 1, 1) := by decide +kernel
theorem dX3_fillBackward_12 : decode cX3_fillBackward 12 = .ok (.invokestatic 130, 3) := by decide +kernel
theorem dX3_fillBackward_15 : decode cX3_fillBackward 15 = .ok (.invokevirtual 118, 3) := by decide +kernel
theorem dX3_fillBackward_18 : decode cX3_fillBackward 18 = .ok (.iload_n 2, 1) := by decide +kernel
theorem dX3_fillBackward_19 : decode cX3_fillBackward 19 = .ok (.istore_n 3, 1) := by decide +kernel
theorem dX3_fillBackward_20 : decode cX3_fillBackward 20 = .ok (.iload_n 3, 1) := by decide +kernel
theorem dX3_fillBackward_21 : decode cX3_fillBackward 21 = .ok (.ifCond .lt 60, 3) := by decide +kernel
theorem dX3_fillBackward_24 : decode cX3_fillBackward 24 = .ok (.iconst 0, 1) := by decide +kernel
theorem dX3_fillBackward_25 : decode cX3_fillBackward 25 = .ok (.istore 4, 2) := by decide +kernel
theorem dX3_fillBackward_27 : decode cX3_fillBackward 27 = .ok (.iload 4, 2) := by decide +kernel
theorem dX3_fillBackward_29 : decode cX3_fillBackward 29 = .ok (.aload_n 0, 1) := by decide +kernel
theorem dX3_fillBackward_30 : decode cX3_fillBackward 30 = .ok (.getfield 21, 3) := by decide +kernel
theorem dX3_fillBackward_33 : decode cX3_fillBackward 33 = .ok (.getfield 133, 3) := by decide +kernel
theorem dX3_fillBackward_36 : decode cX3_fillBackward 36 = .ok (.if_icmp .ge 25, 3) := by decide +kernel
theorem dX3_fillBackward_39 : decode cX3_fillBackward 39 = .ok (.aload_n 0, 1) := by decide +kernel
theorem dX3_fillBackward_40 : decode cX3_fillBackward 40 = .ok (.iload_n 3, 1) := by decide +kernel
theorem dX3_fillBackward_41 : decode cX3_fillBackward 41 = .ok (.iload 4, 2) := by decide +kernel
theorem dX3_fillBackward_43 : decode cX3_fillBackward 43 = .ok (.aload_n 0, 1) := by decide +kernel
theorem dX3_fillBackward_44 : decode cX3_fillBackward 44 = .ok (.iload_n 3, 1) := by decide +kernel
theorem dX3_fillBackward_45 : decode cX3_fillBackward 45 = .ok (.iconst 1, 1) := by decide +kernel
theorem dX3_fillBackward_46 : decode cX3_fillBackward 46 = .ok (.iadd, 1) := by decide +kernel
theorem dX3_fillBackward_47 : decode cX3_fillBackward 47 = .ok (.iload 4, 2) := by decide +kernel
theorem dX3_fillBackward_49 : decode cX3_fillBackward 49 = .ok (.invokevirtual 126, 3) := by decide +kernel
theorem dX3_fillBackward_52 : decode cX3_fillBackward 52 = .ok (.invokevirtual 118, 3) := by decide +kernel
theorem dX3_fillBackward_55 : decode cX3_fillBackward 55 = .ok (.iinc 4 1, 3) := by decide +kernel
theorem dX3_fillBackward_58 : decode cX3_fillBackward 58 = .ok (.goto (-31), 3) := by decide +kernel
theorem dX3_fillBackward_61 : decode cX3_fillBackward 61 = .ok (.aload_n 0, 1) := by decide +kernel
theorem dX3_fillBackward_62 : decode cX3_fillBackward 62 = .ok (.iload_n 3, 1) := by decide +kernel
theorem dX3_fillBackward_63 : decode cX3_fillBackward 63 = .ok (.iconst 0, 1) := by decide +kernel
theorem dX3_fillBackward_64 : decode cX3_fillBackward 64 = .ok (.iconst (-1), 1) := by decide +kernel
theorem dX3_fillBackward_65 : decode cX3_fillBackward 65 = .ok (.invokevirtual 136, 3) := by decide +kernel
theorem dX3_fillBackward_68 : decode cX3_fillBackward 68 = .ok (.aload_n 0, 1) := by decide +kernel
theorem dX3_fillBackward_69 : decode cX3_fillBackward 69 = .ok (.iload_n 3, 1) := by decide +kernel
theorem dX3_fillBackward_70 : decode cX3_fillBackward 70 = .ok (.iconst 0, 1) := by decide +kernel
theorem dX3_fillBackward_71 : decode cX3_fillBackward 71 = .ok (.iconst (-1), 1) := by decide +kernel
theorem dX3_fillBackward_72 : decode cX3_fillBackward 72 = .ok (.invokevirtual 122, 3) := by decide +kernel
theorem dX3_fillBackward_75 : decode cX3_fillBackward 75 = .ok (.iinc 3 (-1), 3) := by decide +kernel
theorem dX3_fillBackward_78 : decode cX3_fillBackward 78 = .ok (.goto (-58), 3) := by decide +kernel
theorem dX3_fillBackward_81 : decode cX3_fillBackward 81 = .ok (.return_, 1) := by decide +kernel
set_option maxRecDepth 20000 in
theorem ggX3_spreadWalks_X4_roadStart : GoodIn wsX3_spreadWalks wsX4_roadStart := goodIn_r _ [7, 8, 9, 10, 11, 6, 12, 13, 87, 88, 89, 90, 91, 92, 93, 94, 95, 96, 97, 98, 99] (by decide +kernel) (by decide +kernel)
set_option maxRecDepth 20000 in
theorem gX3_spreadWalks_X4_roadStart : GoodIn wsX3_spreadWalks (wsV RX3 167 RX4 yX4_roadStart wsX4_roadStart) := goodIn_app (goodIn_of _ (by decide +kernel)) ggX3_spreadWalks_X4_roadStart
set_option maxRecDepth 20000 in
theorem ggX3_spreadWalks_X4_roadEnd : GoodIn wsX3_spreadWalks wsX4_roadEnd := goodIn_r _ [17, 18, 9, 10, 11, 6, 12, 13, 87, 88, 89, 90, 91, 92, 93, 94, 95, 96, 97, 98, 99] (by decide +kernel) (by decide +kernel)
set_option maxRecDepth 20000 in
theorem gX3_spreadWalks_X4_roadEnd : GoodIn wsX3_spreadWalks (wsV RX3 170 RX4 yX4_roadEnd wsX4_roadEnd) := goodIn_app (goodIn_of _ (by decide +kernel)) ggX3_spreadWalks_X4_roadEnd
set_option maxRecDepth 20000 in
theorem ggX3_spreadWalks_X4_roadHours : GoodIn wsX3_spreadWalks wsX4_roadHours := goodIn_r _ [22, 23, 9, 10, 11, 6, 12, 13, 87, 88, 89, 90, 91, 92, 93, 94, 95, 96, 97, 98, 99] (by decide +kernel) (by decide +kernel)
set_option maxRecDepth 20000 in
theorem gX3_spreadWalks_X4_roadHours : GoodIn wsX3_spreadWalks (wsV RX3 152 RX4 yX4_roadHours wsX4_roadHours) := goodIn_app (goodIn_of _ (by decide +kernel)) ggX3_spreadWalks_X4_roadHours
set_option maxRecDepth 20000 in
theorem ggX3_spreadWalks_X3_spreadWalk : GoodIn wsX3_spreadWalks wsX3_spreadWalk := goodIn_r _ [28, 1, 29, 30, 31, 32, 33, 6, 34, 35, 36, 37, 38, 39, 40, 41, 42, 43, 44, 45, 46, 47, 48, 49, 50, 51, 52, 53, 27, 54, 55, 56, 57, 58, 59, 60, 61, 62, 63, 64, 65, 66, 67, 68, 69, 70, 71, 72, 73, 74, 75, 76, 77, 78, 79, 80, 81, 82, 83, 84, 85, 86, 100, 101, 102, 103, 104, 105, 106, 107, 87, 88, 89, 90, 91, 92, 93, 94, 95, 96, 97, 98, 99] (by decide +kernel) (by decide +kernel)
set_option maxRecDepth 20000 in
theorem gX3_spreadWalks_X3_spreadWalk : GoodIn wsX3_spreadWalks (wsV RX3 179 RX3 yX3_spreadWalk wsX3_spreadWalk) := goodIn_app (goodIn_of _ (by decide +kernel)) ggX3_spreadWalks_X3_spreadWalk
theorem dX3_spreadWalks_0 : decode cX3_spreadWalks 0 = .ok (.iconst 0, 1) := by decide +kernel
theorem dX3_spreadWalks_1 : decode cX3_spreadWalks 1 = .ok (.istore 4, 2) := by decide +kernel
theorem dX3_spreadWalks_3 : decode cX3_spreadWalks 3 = .ok (.iload 4, 2) := by decide +kernel
theorem dX3_spreadWalks_5 : decode cX3_spreadWalks 5 = .ok (.aload_n 0, 1) := by decide +kernel
theorem dX3_spreadWalks_6 : decode cX3_spreadWalks 6 = .ok (.getfield 21, 3) := by decide +kernel
theorem dX3_spreadWalks_9 : decode cX3_spreadWalks 9 = .ok (.getfield 104, 3) := by decide +kernel
theorem dX3_spreadWalks_12 : decode cX3_spreadWalks 12 = .ok (.if_icmp .ge 87, 3) := by decide +kernel
theorem dX3_spreadWalks_15 : decode cX3_spreadWalks 15 = .ok (.iload 4, 2) := by decide +kernel
theorem dX3_spreadWalks_17 : decode cX3_spreadWalks 17 = .ok (.iload_n 3, 1) := by decide +kernel
theorem dX3_spreadWalks_18 : decode cX3_spreadWalks 18 = .ok (.if_icmp .ne 6, 3) := by decide +kernel
theorem dX3_spreadWalks_21 : decode cX3_spreadWalks 21 = .ok (.goto 72, 3) := by decide +kernel
theorem dX3_spreadWalks_24 : decode cX3_spreadWalks 24 = .ok (.aload_n 0, 1) := by decide +kernel
theorem dX3_spreadWalks_25 : decode cX3_spreadWalks 25 = .ok (.getfield 21, 3) := by decide +kernel
theorem dX3_spreadWalks_28 : decode cX3_spreadWalks 28 = .ok (.iload 4, 2) := by decide +kernel
theorem dX3_spreadWalks_30 : decode cX3_spreadWalks 30 = .ok (.invokevirtual 167, 3) := by decide +kernel
theorem dX3_spreadWalks_33 : decode cX3_spreadWalks 33 = .ok (.istore 5, 2) := by decide +kernel
theorem dX3_spreadWalks_35 : decode cX3_spreadWalks 35 = .ok (.aload_n 0, 1) := by decide +kernel
theorem dX3_spreadWalks_36 : decode cX3_spreadWalks 36 = .ok (.getfield 21, 3) := by decide +kernel
theorem dX3_spreadWalks_39 : decode cX3_spreadWalks 39 = .ok (.iload 4, 2) := by decide +kernel
theorem dX3_spreadWalks_41 : decode cX3_spreadWalks 41 = .ok (.invokevirtual 170, 3) := by decide +kernel
theorem dX3_spreadWalks_44 : decode cX3_spreadWalks 44 = .ok (.istore 6, 2) := by decide +kernel
theorem dX3_spreadWalks_46 : decode cX3_spreadWalks 46 = .ok (.iload_n 1, 1) := by decide +kernel
theorem dX3_spreadWalks_47 : decode cX3_spreadWalks 47 = .ok (.aload_n 0, 1) := by decide +kernel
theorem dX3_spreadWalks_48 : decode cX3_spreadWalks 48 = .ok (.getfield 21, 3) := by decide +kernel
theorem dX3_spreadWalks_51 : decode cX3_spreadWalks 51 = .ok (.iload 4, 2) := by decide +kernel
theorem dX3_spreadWalks_53 : decode cX3_spreadWalks 53 = .ok (.invokevirtual 152, 3) := by decide +kernel
theorem dX3_spreadWalks_56 : decode cX3_spreadWalks 56 = .ok (.iadd, 1) := by decide +kernel
theorem dX3_spreadWalks_57 : decode cX3_spreadWalks 57 = .ok (.istore 7, 2) := by decide +kernel
theorem dX3_spreadWalks_59 : decode cX3_spreadWalks 59 = .ok (.iload 7, 2) := by decide +kernel
theorem dX3_spreadWalks_61 : decode cX3_spreadWalks 61 = .ok (.bipush 60, 2) := by decide +kernel
theorem dX3_spreadWalks_63 : decode cX3_spreadWalks 63 = .ok (.if_icmp .le 6, 3) := by decide +kernel
theorem dX3_spreadWalks_66 : decode cX3_spreadWalks 66 = .ok (.goto 27, 3) := by decide +kernel
theorem dX3_spreadWalks_69 : decode cX3_spreadWalks 69 = .ok (.aload_n 0, 1) := by decide +kernel
theorem dX3_spreadWalks_70 : decode cX3_spreadWalks 70 = .ok (.iload_n 1, 1) := by decide +kernel
theorem dX3_spreadWalks_71 : decode cX3_spreadWalks 71 = .ok (.iload 7, 2) := by decide +kernel
theorem dX3_spreadWalks_73 : decode cX3_spreadWalks 73 = .ok (.iload 5, 2) := by decide +kernel
theorem dX3_spreadWalks_75 : decode cX3_spreadWalks 75 = .ok (.iload 6, 2) := by decide +kernel
theorem dX3_spreadWalks_77 : decode cX3_spreadWalks 77 = .ok (.iload_n 2, 1) := by decide +kernel
theorem dX3_spreadWalks_78 : decode cX3_spreadWalks 78 = .ok (.invokevirtual 179, 3) := by decide +kernel
theorem dX3_spreadWalks_81 : decode cX3_spreadWalks 81 = .ok (.aload_n 0, 1) := by decide +kernel
theorem dX3_spreadWalks_82 : decode cX3_spreadWalks 82 = .ok (.iload_n 1, 1) := by decide +kernel
theorem dX3_spreadWalks_83 : decode cX3_spreadWalks 83 = .ok (.iload 7, 2) := by decide +kernel
theorem dX3_spreadWalks_85 : decode cX3_spreadWalks 85 = .ok (.iload 6, 2) := by decide +kernel
theorem dX3_spreadWalks_87 : decode cX3_spreadWalks 87 = .ok (.iload 5, 2) := by decide +kernel
theorem dX3_spreadWalks_89 : decode cX3_spreadWalks 89 = .ok (.iload_n 2, 1) := by decide +kernel
theorem dX3_spreadWalks_90 : decode cX3_spreadWalks 90 = .ok (.invokevirtual 179, 3) := by decide +kernel
theorem dX3_spreadWalks_93 : decode cX3_spreadWalks 93 = .ok (.iinc 4 1, 3) := by decide +kernel
theorem dX3_spreadWalks_96 : decode cX3_spreadWalks 96 = .ok (.goto (-93), 3) := by decide +kernel
theorem dX3_spreadWalks_99 : decode cX3_spreadWalks 99 = .ok (.return_, 1) := by decide +kernel
set_option maxRecDepth 20000 in
theorem ggX3_spreadWalk_X4_isOpen : GoodIn wsX3_spreadWalk wsX4_isOpen := goodIn_r _ [8, 9, 10, 11, 12, 13, 7, 14, 15, 16, 17, 18, 19, 70, 71, 72, 73, 74, 75, 76, 77, 78, 79, 80, 81, 82] (by decide +kernel) (by decide +kernel)
set_option maxRecDepth 20000 in
theorem gX3_spreadWalk_X4_isOpen : GoodIn wsX3_spreadWalk (wsV RX3 183 RX4 yX4_isOpen wsX4_isOpen) := goodIn_app (goodIn_of _ (by decide +kernel)) ggX3_spreadWalk_X4_isOpen
set_option maxRecDepth 20000 in
theorem ggX3_spreadWalk_X4_lionAt : GoodIn wsX3_spreadWalk wsX4_lionAt := goodIn_r _ [23, 24, 11, 12, 13, 7, 14, 15, 70, 71, 72, 73, 74, 75, 76, 77, 78, 79, 80, 81, 82] (by decide +kernel) (by decide +kernel)
set_option maxRecDepth 20000 in
theorem gX3_spreadWalk_X4_lionAt : GoodIn wsX3_spreadWalk (wsV RX3 186 RX4 yX4_lionAt wsX4_lionAt) := goodIn_app (goodIn_of _ (by decide +kernel)) ggX3_spreadWalk_X4_lionAt
set_option maxRecDepth 20000 in
theorem ggX3_spreadWalk_X3_setsAt : GoodIn wsX3_spreadWalk wsX3_setsAt := goodIn_r _ [29, 30, 31, 32, 28, 33, 48, 49, 50, 51, 52, 53, 54, 55, 56, 57, 58, 59, 60, 61] (by decide +kernel) (by decide +kernel)
set_option maxRecDepth 20000 in
theorem gX3_spreadWalk_X3_setsAt : GoodIn wsX3_spreadWalk (wsV RX3 126 RX3 yX3_setsAt wsX3_setsAt) := goodIn_app (goodIn_of _ (by decide +kernel)) ggX3_spreadWalk_X3_setsAt
set_option maxRecDepth 20000 in
theorem ggX3_spreadWalk_X3_setsLess : GoodIn wsX3_spreadWalk wsX3_setsLess := goodIn_r _ [36, 37, 38, 39, 40] (by decide +kernel) (by decide +kernel)
set_option maxRecDepth 20000 in
theorem gX3_spreadWalk_X3_setsLess : GoodIn wsX3_spreadWalk (va_wsS RX3 189 yX3_setsLess wsX3_setsLess) := goodIn_app (goodIn_of _ (by decide +kernel)) ggX3_spreadWalk_X3_setsLess
set_option maxRecDepth 20000 in
theorem ggX3_spreadWalk_X3_addSets : GoodIn wsX3_spreadWalk wsX3_addSets := goodIn_r _ [44, 30, 31, 32, 28, 33, 48, 49, 50, 51, 52, 53, 54, 55, 56, 57, 58, 59, 60, 61] (by decide +kernel) (by decide +kernel)
set_option maxRecDepth 20000 in
theorem gX3_spreadWalk_X3_addSets : GoodIn wsX3_spreadWalk (wsV RX3 118 RX3 yX3_addSets wsX3_addSets) := goodIn_app (goodIn_of _ (by decide +kernel)) ggX3_spreadWalk_X3_addSets
set_option maxRecDepth 20000 in
theorem ggX3_spreadWalk_X3_setsWith : GoodIn wsX3_spreadWalk wsX3_setsWith := goodIn_r _ [47, 37, 38, 39, 40] (by decide +kernel) (by decide +kernel)
set_option maxRecDepth 20000 in
theorem gX3_spreadWalk_X3_setsWith : GoodIn wsX3_spreadWalk (va_wsS RX3 192 yX3_setsWith wsX3_setsWith) := goodIn_app (goodIn_of _ (by decide +kernel)) ggX3_spreadWalk_X3_setsWith
theorem dX3_spreadWalk_0 : decode cX3_spreadWalk 0 = .ok (.aload_n 0, 1) := by decide +kernel
theorem dX3_spreadWalk_1 : decode cX3_spreadWalk 1 = .ok (.getfield 21, 3) := by decide +kernel
theorem dX3_spreadWalk_4 : decode cX3_spreadWalk 4 = .ok (.iload 4, 2) := by decide +kernel
theorem dX3_spreadWalk_6 : decode cX3_spreadWalk 6 = .ok (.aload_n 0, 1) := by decide +kernel
theorem dX3_spreadWalk_7 : decode cX3_spreadWalk 7 = .ok (.getfield 25, 3) := by decide +kernel
theorem dX3_spreadWalk_10 : decode cX3_spreadWalk 10 = .ok (.getfield 45, 3) := by decide +kernel
theorem dX3_spreadWalk_13 : decode cX3_spreadWalk 13 = .ok (.iload_n 2, 1) := by decide +kernel
theorem dX3_spreadWalk_14 : decode cX3_spreadWalk 14 = .ok (.iadd, 1) := by decide +kernel
theorem dX3_spreadWalk_15 : decode cX3_spreadWalk 15 = .ok (.invokevirtual 183, 3) := by decide +kernel
theorem dX3_spreadWalk_18 : decode cX3_spreadWalk 18 = .ok (.ifCond .ne 4, 3) := by decide +kernel
theorem dX3_spreadWalk_21 : decode cX3_spreadWalk 21 = .ok (.return_, 1) := by decide +kernel
theorem dX3_spreadWalk_22 : decode cX3_spreadWalk 22 = .ok (.aload_n 0, 1) := by decide +kernel
theorem dX3_spreadWalk_23 : decode cX3_spreadWalk 23 = .ok (.getfield 21, 3) := by decide +kernel
theorem dX3_spreadWalk_26 : decode cX3_spreadWalk 26 = .ok (.iload 4, 2) := by decide +kernel
theorem dX3_spreadWalk_28 : decode cX3_spreadWalk 28 = .ok (.invokevirtual 186, 3) := by decide +kernel
theorem dX3_spreadWalk_31 : decode cX3_spreadWalk 31 = .ok (.istore 6, 2) := by decide +kernel
theorem dX3_spreadWalk_33 : decode cX3_spreadWalk 33 = .ok (.iload 5, 2) := by decide +kernel
theorem dX3_spreadWalk_35 : decode cX3_spreadWalk 35 = .ok (.ifCond .eq 24, 3) := by decide +kernel
theorem dX3_spreadWalk_38 : decode cX3_spreadWalk 38 = .ok (.aload_n 0, 1) := by decide +kernel
theorem dX3_spreadWalk_39 : decode cX3_spreadWalk 39 = .ok (.iload_n 2, 1) := by decide +kernel
theorem dX3_spreadWalk_40 : decode cX3_spreadWalk 40 = .ok (.iload 4, 2) := by decide +kernel
theorem dX3_spreadWalk_42 : decode cX3_spreadWalk 42 = .ok (.aload_n 0, 1) := by decide +kernel
theorem dX3_spreadWalk_43 : decode cX3_spreadWalk 43 = .ok (.iload_n 1, 1) := by decide +kernel
theorem dX3_spreadWalk_44 : decode cX3_spreadWalk 44 = .ok (.iload_n 3, 1) := by decide +kernel
theorem dX3_spreadWalk_45 : decode cX3_spreadWalk 45 = .ok (.invokevirtual 126, 3) := by decide +kernel
theorem dX3_spreadWalk_48 : decode cX3_spreadWalk 48 = .ok (.iload 6, 2) := by decide +kernel
theorem dX3_spreadWalk_50 : decode cX3_spreadWalk 50 = .ok (.invokestatic 189, 3) := by decide +kernel
theorem dX3_spreadWalk_53 : decode cX3_spreadWalk 53 = .ok (.invokevirtual 118, 3) := by decide +kernel
theorem dX3_spreadWalk_56 : decode cX3_spreadWalk 56 = .ok (.goto 21, 3) := by decide +kernel
theorem dX3_spreadWalk_59 : decode cX3_spreadWalk 59 = .ok (.aload_n 0, 1) := by decide +kernel
theorem dX3_spreadWalk_60 : decode cX3_spreadWalk 60 = .ok (.iload_n 1, 1) := by decide +kernel
theorem dX3_spreadWalk_61 : decode cX3_spreadWalk 61 = .ok (.iload_n 3, 1) := by decide +kernel
theorem dX3_spreadWalk_62 : decode cX3_spreadWalk 62 = .ok (.aload_n 0, 1) := by decide +kernel
theorem dX3_spreadWalk_63 : decode cX3_spreadWalk 63 = .ok (.iload_n 2, 1) := by decide +kernel
theorem dX3_spreadWalk_64 : decode cX3_spreadWalk 64 = .ok (.iload 4, 2) := by decide +kernel
theorem dX3_spreadWalk_66 : decode cX3_spreadWalk 66 = .ok (.invokevirtual 126, 3) := by decide +kernel
theorem dX3_spreadWalk_69 : decode cX3_spreadWalk 69 = .ok (.iload 6, 2) := by decide +kernel
theorem dX3_spreadWalk_71 : decode cX3_spreadWalk 71 = .ok (.invokestatic 192, 3) := by decide +kernel
theorem dX3_spreadWalk_74 : decode cX3_spreadWalk 74 = .ok (.invokevirtual 118, 3) := by decide +kernel
theorem dX3_spreadWalk_77 : decode cX3_spreadWalk 77 = .ok (.return_, 1) := by decide +kernel
set_option maxRecDepth 20000 in
theorem ggX3_spreadAsks_X3_isAskMore : GoodIn wsX3_spreadAsks wsX3_isAskMore := goodIn_r _ [7, 1, 8, 9, 10, 11, 12, 13, 14, 15, 16, 17, 18, 19, 20, 21, 22, 23, 24, 25, 26, 6, 27, 28, 29, 30, 31, 32, 33, 34, 35, 36, 37, 38, 39, 40, 41, 42, 43, 44, 45, 46, 47, 48, 49, 50, 51, 52, 53, 54, 55, 56, 57, 58, 59, 60, 61, 62, 63, 64, 65, 66, 67, 68, 69, 70, 71, 72, 73, 74] (by decide +kernel) (by decide +kernel)
set_option maxRecDepth 20000 in
theorem gX3_spreadAsks_X3_isAskMore : GoodIn wsX3_spreadAsks (wsV RX3 195 RX3 yX3_isAskMore wsX3_isAskMore) := goodIn_app (goodIn_of _ (by decide +kernel)) ggX3_spreadAsks_X3_isAskMore
theorem dX3_spreadAsks_0 : decode cX3_spreadAsks 0 = .ok (.iconst 0, 1) := by decide +kernel
theorem dX3_spreadAsks_1 : decode cX3_spreadAsks 1 = .ok (.istore 4, 2) := by decide +kernel
theorem dX3_spreadAsks_3 : decode cX3_spreadAsks 3 = .ok (.iload 4, 2) := by decide +kernel
theorem dX3_spreadAsks_5 : decode cX3_spreadAsks 5 = .ok (.iconst 5, 1) := by decide +kernel
theorem dX3_spreadAsks_6 : decode cX3_spreadAsks 6 = .ok (.if_icmp .ge 59, 3) := by decide +kernel
theorem dX3_spreadAsks_9 : decode cX3_spreadAsks 9 = .ok (.iconst 0, 1) := by decide +kernel
theorem dX3_spreadAsks_10 : decode cX3_spreadAsks 10 = .ok (.istore 5, 2) := by decide +kernel
theorem dX3_spreadAsks_12 : decode cX3_spreadAsks 12 = .ok (.iconst 0, 1) := by decide +kernel
theorem dX3_spreadAsks_13 : decode cX3_spreadAsks 13 = .ok (.istore 6, 2) := by decide +kernel
theorem dX3_spreadAsks_15 : decode cX3_spreadAsks 15 = .ok (.iload 6, 2) := by decide +kernel
theorem dX3_spreadAsks_17 : decode cX3_spreadAsks 17 = .ok (.aload_n 0, 1) := by decide +kernel
theorem dX3_spreadAsks_18 : decode cX3_spreadAsks 18 = .ok (.getfield 21, 3) := by decide +kernel
theorem dX3_spreadAsks_21 : decode cX3_spreadAsks 21 = .ok (.getfield 109, 3) := by decide +kernel
theorem dX3_spreadAsks_24 : decode cX3_spreadAsks 24 = .ok (.if_icmp .ge 29, 3) := by decide +kernel
theorem dX3_spreadAsks_27 : decode cX3_spreadAsks 27 = .ok (.iload 6, 2) := by decide +kernel
theorem dX3_spreadAsks_29 : decode cX3_spreadAsks 29 = .ok (.iload_n 3, 1) := by decide +kernel
theorem dX3_spreadAsks_30 : decode cX3_spreadAsks 30 = .ok (.if_icmp .eq 17, 3) := by decide +kernel
theorem dX3_spreadAsks_33 : decode cX3_spreadAsks 33 = .ok (.aload_n 0, 1) := by decide +kernel
theorem dX3_spreadAsks_34 : decode cX3_spreadAsks 34 = .ok (.iload_n 1, 1) := by decide +kernel
theorem dX3_spreadAsks_35 : decode cX3_spreadAsks 35 = .ok (.iload 6, 2) := by decide +kernel
theorem dX3_spreadAsks_37 : decode cX3_spreadAsks 37 = .ok (.iload_n 2, 1) := by decide +kernel
theorem dX3_spreadAsks_38 : decode cX3_spreadAsks 38 = .ok (.invokevirtual 195, 3) := by decide +kernel
theorem dX3_spreadAsks_41 : decode cX3_spreadAsks 41 = .ok (.ifCond .eq 6, 3) := by decide +kernel
theorem dX3_spreadAsks_44 : decode cX3_spreadAsks 44 = .ok (.iconst 1, 1) := by decide +kernel
theorem dX3_spreadAsks_45 : decode cX3_spreadAsks 45 = .ok (.istore 5, 2) := by decide +kernel
theorem dX3_spreadAsks_47 : decode cX3_spreadAsks 47 = .ok (.iinc 6 1, 3) := by decide +kernel
theorem dX3_spreadAsks_50 : decode cX3_spreadAsks 50 = .ok (.goto (-35), 3) := by decide +kernel
theorem dX3_spreadAsks_53 : decode cX3_spreadAsks 53 = .ok (.iload 5, 2) := by decide +kernel
theorem dX3_spreadAsks_55 : decode cX3_spreadAsks 55 = .ok (.ifCond .ne 4, 3) := by decide +kernel
theorem dX3_spreadAsks_58 : decode cX3_spreadAsks 58 = .ok (.return_, 1) := by decide +kernel
theorem dX3_spreadAsks_59 : decode cX3_spreadAsks 59 = .ok (.iinc 4 1, 3) := by decide +kernel
theorem dX3_spreadAsks_62 : decode cX3_spreadAsks 62 = .ok (.goto (-59), 3) := by decide +kernel
theorem dX3_spreadAsks_65 : decode cX3_spreadAsks 65 = .ok (.return_, 1) := by decide +kernel
set_option maxRecDepth 20000 in
theorem ggX3_isAskMore_X4_hostPlace : GoodIn wsX3_isAskMore wsX4_hostPlace := goodIn_r _ [6, 7, 8, 9, 10, 5, 11, 12, 57, 58, 59, 60, 61, 62, 63, 64, 65, 66, 67, 68, 69] (by decide +kernel) (by decide +kernel)
set_option maxRecDepth 20000 in
theorem gX3_isAskMore_X4_hostPlace : GoodIn wsX3_isAskMore (wsV RX3 199 RX4 yX4_hostPlace wsX4_hostPlace) := goodIn_app (goodIn_of _ (by decide +kernel)) ggX3_isAskMore_X4_hostPlace
set_option maxRecDepth 20000 in
theorem ggX3_isAskMore_X4_hostGives : GoodIn wsX3_isAskMore wsX4_hostGives := goodIn_r _ [16, 17, 8, 9, 10, 5, 11, 12, 57, 58, 59, 60, 61, 62, 63, 64, 65, 66, 67, 68, 69] (by decide +kernel) (by decide +kernel)
set_option maxRecDepth 20000 in
theorem gX3_isAskMore_X4_hostGives : GoodIn wsX3_isAskMore (wsV RX3 164 RX4 yX4_hostGives wsX4_hostGives) := goodIn_app (goodIn_of _ (by decide +kernel)) ggX3_isAskMore_X4_hostGives
set_option maxRecDepth 20000 in
theorem ggX3_isAskMore_X3_setsAt : GoodIn wsX3_isAskMore wsX3_setsAt := goodIn_r _ [22, 23, 24, 25, 21, 26, 43, 44, 45, 46, 47, 48, 49, 50, 51, 52, 53, 54, 55, 56] (by decide +kernel) (by decide +kernel)
set_option maxRecDepth 20000 in
theorem gX3_isAskMore_X3_setsAt : GoodIn wsX3_isAskMore (wsV RX3 126 RX3 yX3_setsAt wsX3_setsAt) := goodIn_app (goodIn_of _ (by decide +kernel)) ggX3_isAskMore_X3_setsAt
set_option maxRecDepth 20000 in
theorem ggX3_isAskMore_X4_hostAsks : GoodIn wsX3_isAskMore wsX4_hostAsks := goodIn_r _ [30, 31, 8, 9, 10, 5, 11, 12, 57, 58, 59, 60, 61, 62, 63, 64, 65, 66, 67, 68, 69] (by decide +kernel) (by decide +kernel)
set_option maxRecDepth 20000 in
theorem gX3_isAskMore_X4_hostAsks : GoodIn wsX3_isAskMore (wsV RX3 202 RX4 yX4_hostAsks wsX4_hostAsks) := goodIn_app (goodIn_of _ (by decide +kernel)) ggX3_isAskMore_X4_hostAsks
set_option maxRecDepth 20000 in
theorem ggX3_isAskMore_X3_setsHaving : GoodIn wsX3_isAskMore wsX3_setsHaving := goodIn_r _ [34, 35, 36, 37, 38] (by decide +kernel) (by decide +kernel)
set_option maxRecDepth 20000 in
theorem gX3_isAskMore_X3_setsHaving : GoodIn wsX3_isAskMore (va_wsS RX3 130 yX3_setsHaving wsX3_setsHaving) := goodIn_app (goodIn_of _ (by decide +kernel)) ggX3_isAskMore_X3_setsHaving
set_option maxRecDepth 20000 in
theorem ggX3_isAskMore_X3_addSets : GoodIn wsX3_isAskMore wsX3_addSets := goodIn_r _ [42, 23, 24, 25, 21, 26, 43, 44, 45, 46, 47, 48, 49, 50, 51, 52, 53, 54, 55, 56] (by decide +kernel) (by decide +kernel)
set_option maxRecDepth 20000 in
theorem gX3_isAskMore_X3_addSets : GoodIn wsX3_isAskMore (wsV RX3 118 RX3 yX3_addSets wsX3_addSets) := goodIn_app (goodIn_of _ (by decide +kernel)) ggX3_isAskMore_X3_addSets
theorem dX3_isAskMore_0 : decode cX3_isAskMore 0 = .ok (.aload_n 0, 1) := by decide +kernel
theorem dX3_isAskMore_1 : decode cX3_isAskMore 1 = .ok (.getfield 21, 3) := by decide +kernel
theorem dX3_isAskMore_4 : decode cX3_isAskMore 4 = .ok (.iload_n 2, 1) := by decide +kernel
theorem dX3_isAskMore_5 : decode cX3_isAskMore 5 = .ok (.invokevirtual 199, 3) := by decide +kernel
theorem dX3_isAskMore_8 : decode cX3_isAskMore 8 = .ok (.istore 4, 2) := by decide +kernel
theorem dX3_isAskMore_10 : decode cX3_isAskMore 10 = .ok (.aload_n 0, 1) := by decide +kernel
theorem dX3_isAskMore_11 : decode cX3_isAskMore 11 = .ok (.getfield 21, 3) := by decide +kernel
theorem dX3_isAskMore_14 : decode cX3_isAskMore 14 = .ok (.iload_n 2, 1) := by decide +kernel
theorem dX3_isAskMore_15 : decode cX3_isAskMore 15 = .ok (.invokevirtual 164, 3) := by decide +kernel
theorem dX3_isAskMore_18 : decode cX3_isAskMore 18 = .ok (.istore 5, 2) := by decide +kernel
theorem dX3_isAskMore_20 : decode cX3_isAskMore 20 = .ok (.aload_n 0, 1) := by decide +kernel
theorem dX3_isAskMore_21 : decode cX3_isAskMore 21 = .ok (.iload_n 1, 1) := by decide +kernel
theorem dX3_isAskMore_22 : decode cX3_isAskMore 22 = .ok (.iload 4, 2) := by decide +kernel
theorem dX3_isAskMore_24 : decode cX3_isAskMore 24 = .ok (.invokevirtual 126, 3) := by decide +kernel
theorem dX3_isAskMore_27 : decode cX3_isAskMore 27 = .ok (.istore 6, 2) := by decide +kernel
theorem dX3_isAskMore_29 : decode cX3_isAskMore 29 = .ok (.aload_n 0, 1) := by decide +kernel
theorem dX3_isAskMore_30 : decode cX3_isAskMore 30 = .ok (.getfield 21, 3) := by decide +kernel
theorem dX3_isAskMore_33 : decode cX3_isAskMore 33 = .ok (.iload_n 2, 1) := by decide +kernel
theorem dX3_isAskMore_34 : decode cX3_isAskMore 34 = .ok (.invokevirtual 202, 3) := by decide +kernel
theorem dX3_isAskMore_37 : decode cX3_isAskMore 37 = .ok (.invokestatic 130, 3) := by decide +kernel
theorem dX3_isAskMore_40 : decode cX3_isAskMore 40 = .ok (.iload 5, 2) := by decide +kernel
theorem dX3_isAskMore_42 : decode cX3_isAskMore 42 = .ok (.invokestatic 130, 3) := by decide +kernel
theorem dX3_isAskMore_45 : decode cX3_isAskMore 45 = .ok (.iconst (-1), 1) := by decide +kernel
theorem dX3_isAskMore_46 : decode cX3_isAskMore 46 = .ok (.ixor, 1) := by decide +kernel
theorem dX3_isAskMore_47 : decode cX3_isAskMore 47 = .ok (.iand, 1) := by decide +kernel
theorem dX3_isAskMore_48 : decode cX3_isAskMore 48 = .ok (.istore 7, 2) := by decide +kernel
theorem dX3_isAskMore_50 : decode cX3_isAskMore 50 = .ok (.aload_n 0, 1) := by decide +kernel
theorem dX3_isAskMore_51 : decode cX3_isAskMore 51 = .ok (.iload_n 1, 1) := by decide +kernel
theorem dX3_isAskMore_52 : decode cX3_isAskMore 52 = .ok (.iload 4, 2) := by decide +kernel
theorem dX3_isAskMore_54 : decode cX3_isAskMore 54 = .ok (.iload_n 3, 1) := by decide +kernel
theorem dX3_isAskMore_55 : decode cX3_isAskMore 55 = .ok (.ifCond .eq 16, 3) := by decide +kernel
theorem dX3_isAskMore_58 : decode cX3_isAskMore 58 = .ok (.iload 6, 2) := by decide +kernel
theorem dX3_isAskMore_60 : decode cX3_isAskMore 60 = .ok (.iload 7, 2) := by decide +kernel
theorem dX3_isAskMore_62 : decode cX3_isAskMore 62 = .ok (.iand, 1) := by decide +kernel
theorem dX3_isAskMore_63 : decode cX3_isAskMore 63 = .ok (.iconst 1, 1) := by decide +kernel
theorem dX3_isAskMore_64 : decode cX3_isAskMore 64 = .ok (.iload 5, 2) := by decide +kernel
theorem dX3_isAskMore_66 : decode cX3_isAskMore 66 = .ok (.ishl, 1) := by decide +kernel
theorem dX3_isAskMore_67 : decode cX3_isAskMore 67 = .ok (.ishl, 1) := by decide +kernel
theorem dX3_isAskMore_68 : decode cX3_isAskMore 68 = .ok (.goto 13, 3) := by decide +kernel
theorem dX3_isAskMore_71 : decode cX3_isAskMore 71 = .ok (.iload 6, 2) := by decide +kernel
theorem dX3_isAskMore_73 : decode cX3_isAskMore 73 = .ok (.iconst 1, 1) := by decide +kernel
theorem dX3_isAskMore_74 : decode cX3_isAskMore 74 = .ok (.iload 5, 2) := by decide +kernel
theorem dX3_isAskMore_76 : decode cX3_isAskMore 76 = .ok (.ishl, 1) := by decide +kernel
theorem dX3_isAskMore_77 : decode cX3_isAskMore 77 = .ok (.iushr, 1) := by decide +kernel
theorem dX3_isAskMore_78 : decode cX3_isAskMore 78 = .ok (.iload 7, 2) := by decide +kernel
theorem dX3_isAskMore_80 : decode cX3_isAskMore 80 = .ok (.iand, 1) := by decide +kernel
theorem dX3_isAskMore_81 : decode cX3_isAskMore 81 = .ok (.invokevirtual 118, 3) := by decide +kernel
theorem dX3_isAskMore_84 : decode cX3_isAskMore 84 = .ok (.aload_n 0, 1) := by decide +kernel
theorem dX3_isAskMore_85 : decode cX3_isAskMore 85 = .ok (.iload_n 1, 1) := by decide +kernel
theorem dX3_isAskMore_86 : decode cX3_isAskMore 86 = .ok (.iload 4, 2) := by decide +kernel
theorem dX3_isAskMore_88 : decode cX3_isAskMore 88 = .ok (.invokevirtual 126, 3) := by decide +kernel
theorem dX3_isAskMore_91 : decode cX3_isAskMore 91 = .ok (.iload 6, 2) := by decide +kernel
theorem dX3_isAskMore_93 : decode cX3_isAskMore 93 = .ok (.if_icmp .eq 7, 3) := by decide +kernel
theorem dX3_isAskMore_96 : decode cX3_isAskMore 96 = .ok (.iconst 1, 1) := by decide +kernel
theorem dX3_isAskMore_97 : decode cX3_isAskMore 97 = .ok (.goto 4, 3) := by decide +kernel
theorem dX3_isAskMore_100 : decode cX3_isAskMore 100 = .ok (.iconst 0, 1) := by decide +kernel
theorem dX3_isAskMore_101 : decode cX3_isAskMore 101 = .ok (.ireturn, 1) := by decide +kernel
set_option maxRecDepth 20000 in
theorem ggX3_canBeHome_X3_isCell : GoodIn wsX3_canBeHome wsX3_isCell := goodIn_r _ [5] (by decide +kernel) (by decide +kernel)
set_option maxRecDepth 20000 in
theorem gX3_canBeHome_X3_isCell : GoodIn wsX3_canBeHome (va_wsS RX3 205 yX3_isCell wsX3_isCell) := goodIn_app (goodIn_of _ (by decide +kernel)) ggX3_canBeHome_X3_isCell
theorem dX3_canBeHome_0 : decode cX3_canBeHome 0 = .ok (.iload_n 1, 1) := by decide +kernel
theorem dX3_canBeHome_1 : decode cX3_canBeHome 1 = .ok (.iload_n 2, 1) := by decide +kernel
theorem dX3_canBeHome_2 : decode cX3_canBeHome 2 = .ok (.invokestatic 205, 3) := by decide +kernel
theorem dX3_canBeHome_5 : decode cX3_canBeHome 5 = .ok (.ifCond .eq 26, 3) := by decide +kernel
theorem dX3_canBeHome_8 : decode cX3_canBeHome 8 = .ok (.aload_n 0, 1) := by decide +kernel
theorem dX3_canBeHome_9 : decode cX3_canBeHome 9 = .ok (.getfield 9, 3) := by decide +kernel
theorem dX3_canBeHome_12 : decode cX3_canBeHome 12 = .ok (.iload_n 1, 1) := by decide +kernel
theorem dX3_canBeHome_13 : decode cX3_canBeHome 13 = .ok (.bipush 7, 2) := by decide +kernel
theorem dX3_canBeHome_15 : decode cX3_canBeHome 15 = .ok (.imul, 1) := by decide +kernel
theorem dX3_canBeHome_16 : decode cX3_canBeHome 16 = .ok (.iload_n 2, 1) := by decide +kernel
theorem dX3_canBeHome_17 : decode cX3_canBeHome 17 = .ok (.iadd, 1) := by decide +kernel
theorem dX3_canBeHome_18 : decode cX3_canBeHome 18 = .ok (.iaload, 1) := by decide +kernel
theorem dX3_canBeHome_19 : decode cX3_canBeHome 19 = .ok (.iload_n 3, 1) := by decide +kernel
theorem dX3_canBeHome_20 : decode cX3_canBeHome 20 = .ok (.iushr, 1) := by decide +kernel
theorem dX3_canBeHome_21 : decode cX3_canBeHome 21 = .ok (.iconst 1, 1) := by decide +kernel
theorem dX3_canBeHome_22 : decode cX3_canBeHome 22 = .ok (.iand, 1) := by decide +kernel
theorem dX3_canBeHome_23 : decode cX3_canBeHome 23 = .ok (.iconst 1, 1) := by decide +kernel
theorem dX3_canBeHome_24 : decode cX3_canBeHome 24 = .ok (.if_icmp .ne 7, 3) := by decide +kernel
theorem dX3_canBeHome_27 : decode cX3_canBeHome 27 = .ok (.iconst 1, 1) := by decide +kernel
theorem dX3_canBeHome_28 : decode cX3_canBeHome 28 = .ok (.goto 4, 3) := by decide +kernel
theorem dX3_canBeHome_31 : decode cX3_canBeHome 31 = .ok (.iconst 0, 1) := by decide +kernel
theorem dX3_canBeHome_32 : decode cX3_canBeHome 32 = .ok (.ireturn, 1) := by decide +kernel
set_option maxRecDepth 20000 in
theorem ggX3_setsAt_X3_isCell : GoodIn wsX3_setsAt wsX3_isCell := goodIn_r _ [5] (by decide +kernel) (by decide +kernel)
set_option maxRecDepth 20000 in
theorem gX3_setsAt_X3_isCell : GoodIn wsX3_setsAt (va_wsS RX3 205 yX3_isCell wsX3_isCell) := goodIn_app (goodIn_of _ (by decide +kernel)) ggX3_setsAt_X3_isCell
theorem dX3_setsAt_0 : decode cX3_setsAt 0 = .ok (.iload_n 1, 1) := by decide +kernel
theorem dX3_setsAt_1 : decode cX3_setsAt 1 = .ok (.iload_n 2, 1) := by decide +kernel
theorem dX3_setsAt_2 : decode cX3_setsAt 2 = .ok (.invokestatic 205, 3) := by decide +kernel
theorem dX3_setsAt_5 : decode cX3_setsAt 5 = .ok (.ifCond .eq 17, 3) := by decide +kernel
theorem dX3_setsAt_8 : decode cX3_setsAt 8 = .ok (.aload_n 0, 1) := by decide +kernel
theorem dX3_setsAt_9 : decode cX3_setsAt 9 = .ok (.getfield 9, 3) := by decide +kernel
theorem dX3_setsAt_12 : decode cX3_setsAt 12 = .ok (.iload_n 1, 1) := by decide +kernel
theorem dX3_setsAt_13 : decode cX3_setsAt 13 = .ok (.bipush 7, 2) := by decide +kernel
theorem dX3_setsAt_15 : decode cX3_setsAt 15 = .ok (.imul, 1) := by decide +kernel
theorem dX3_setsAt_16 : decode cX3_setsAt 16 = .ok (.iload_n 2, 1) := by decide +kernel
theorem dX3_setsAt_17 : decode cX3_setsAt 17 = .ok (.iadd, 1) := by decide +kernel
theorem dX3_setsAt_18 : decode cX3_setsAt 18 = .ok (.iaload, 1) := by decide +kernel
theorem dX3_setsAt_19 : decode cX3_setsAt 19 = .ok (.goto 4, 3) := by decide +kernel
theorem dX3_setsAt_22 : decode cX3_setsAt 22 = .ok (.iconst 0, 1) := by decide +kernel
theorem dX3_setsAt_23 : decode cX3_setsAt 23 = .ok (.ireturn, 1) := by decide +kernel
set_option maxRecDepth 20000 in
theorem ggX3_addSets_X3_isCell : GoodIn wsX3_addSets wsX3_isCell := goodIn_r _ [5] (by decide +kernel) (by decide +kernel)
set_option maxRecDepth 20000 in
theorem gX3_addSets_X3_isCell : GoodIn wsX3_addSets (va_wsS RX3 205 yX3_isCell wsX3_isCell) := goodIn_app (goodIn_of _ (by decide +kernel)) ggX3_addSets_X3_isCell
theorem dX3_addSets_0 : decode cX3_addSets 0 = .ok (.iload_n 1, 1) := by decide +kernel
theorem dX3_addSets_1 : decode cX3_addSets 1 = .ok (.iload_n 2, 1) := by decide +kernel
theorem dX3_addSets_2 : decode cX3_addSets 2 = .ok (.invokestatic 205, 3) := by decide +kernel
theorem dX3_addSets_5 : decode cX3_addSets 5 = .ok (.ifCond .eq 18, 3) := by decide +kernel
theorem dX3_addSets_8 : decode cX3_addSets 8 = .ok (.aload_n 0, 1) := by decide +kernel
theorem dX3_addSets_9 : decode cX3_addSets 9 = .ok (.getfield 9, 3) := by decide +kernel
theorem dX3_addSets_12 : decode cX3_addSets 12 = .ok (.iload_n 1, 1) := by decide +kernel
theorem dX3_addSets_13 : decode cX3_addSets 13 = .ok (.bipush 7, 2) := by decide +kernel
theorem dX3_addSets_15 : decode cX3_addSets 15 = .ok (.imul, 1) := by decide +kernel
theorem dX3_addSets_16 : decode cX3_addSets 16 = .ok (.iload_n 2, 1) := by decide +kernel
theorem dX3_addSets_17 : decode cX3_addSets 17 = .ok (.iadd, 1) := by decide +kernel
theorem dX3_addSets_18 : decode cX3_addSets 18 = .ok (.dup2, 1) := by decide +kernel
theorem dX3_addSets_19 : decode cX3_addSets 19 = .ok (.iaload, 1) := by decide +kernel
theorem dX3_addSets_20 : decode cX3_addSets 20 = .ok (.iload_n 3, 1) := by decide +kernel
theorem dX3_addSets_21 : decode cX3_addSets 21 = .ok (.ior, 1) := by decide +kernel
theorem dX3_addSets_22 : decode cX3_addSets 22 = .ok (.iastore, 1) := by decide +kernel
theorem dX3_addSets_23 : decode cX3_addSets 23 = .ok (.return_, 1) := by decide +kernel
theorem dX3_isCell_0 : decode cX3_isCell 0 = .ok (.iload_n 0, 1) := by decide +kernel
theorem dX3_isCell_1 : decode cX3_isCell 1 = .ok (.ifCond .lt 23, 3) := by decide +kernel
theorem dX3_isCell_4 : decode cX3_isCell 4 = .ok (.iload_n 0, 1) := by decide +kernel
theorem dX3_isCell_5 : decode cX3_isCell 5 = .ok (.bipush 60, 2) := by decide +kernel
theorem dX3_isCell_7 : decode cX3_isCell 7 = .ok (.if_icmp .gt 17, 3) := by decide +kernel
theorem dX3_isCell_10 : decode cX3_isCell 10 = .ok (.iload_n 1, 1) := by decide +kernel
theorem dX3_isCell_11 : decode cX3_isCell 11 = .ok (.ifCond .lt 13, 3) := by decide +kernel
theorem dX3_isCell_14 : decode cX3_isCell 14 = .ok (.iload_n 1, 1) := by decide +kernel
theorem dX3_isCell_15 : decode cX3_isCell 15 = .ok (.bipush 7, 2) := by decide +kernel
theorem dX3_isCell_17 : decode cX3_isCell 17 = .ok (.if_icmp .ge 7, 3) := by decide +kernel
theorem dX3_isCell_20 : decode cX3_isCell 20 = .ok (.iconst 1, 1) := by decide +kernel
theorem dX3_isCell_21 : decode cX3_isCell 21 = .ok (.goto 4, 3) := by decide +kernel
theorem dX3_isCell_24 : decode cX3_isCell 24 = .ok (.iconst 0, 1) := by decide +kernel
theorem dX3_isCell_25 : decode cX3_isCell 25 = .ok (.ireturn, 1) := by decide +kernel
set_option maxRecDepth 20000 in
theorem ggX3_setsHaving_X5_isThing : GoodIn wsX3_setsHaving wsX5_isThing := goodIn_r _ [4] (by decide +kernel) (by decide +kernel)
set_option maxRecDepth 20000 in
theorem gX3_setsHaving_X5_isThing_n208 : GoodIn wsX3_setsHaving (wsX5_isThing) := ggX3_setsHaving_X5_isThing
theorem dX3_setsHaving_0 : decode cX3_setsHaving 0 = .ok (.iload_n 0, 1) := by decide +kernel
theorem dX3_setsHaving_1 : decode cX3_setsHaving 1 = .ok (.invokestatic 208, 3) := by decide +kernel
theorem dX3_setsHaving_4 : decode cX3_setsHaving 4 = .ok (.ifCond .eq 11, 3) := by decide +kernel
theorem dX3_setsHaving_7 : decode cX3_setsHaving 7 = .ok (.getstatic 211, 3) := by decide +kernel
theorem dX3_setsHaving_10 : decode cX3_setsHaving 10 = .ok (.iload_n 0, 1) := by decide +kernel
theorem dX3_setsHaving_11 : decode cX3_setsHaving 11 = .ok (.iaload, 1) := by decide +kernel
theorem dX3_setsHaving_12 : decode cX3_setsHaving 12 = .ok (.goto 4, 3) := by decide +kernel
theorem dX3_setsHaving_15 : decode cX3_setsHaving 15 = .ok (.iconst (-1), 1) := by decide +kernel
theorem dX3_setsHaving_16 : decode cX3_setsHaving 16 = .ok (.ireturn, 1) := by decide +kernel
set_option maxRecDepth 20000 in
theorem ggX3_setsLess_X5_isThing : GoodIn wsX3_setsLess wsX5_isThing := goodIn_r _ [4] (by decide +kernel) (by decide +kernel)
set_option maxRecDepth 20000 in
theorem gX3_setsLess_X5_isThing_n208 : GoodIn wsX3_setsLess (wsX5_isThing) := ggX3_setsLess_X5_isThing
theorem dX3_setsLess_0 : decode cX3_setsLess 0 = .ok (.iload_n 1, 1) := by decide +kernel
theorem dX3_setsLess_1 : decode cX3_setsLess 1 = .ok (.invokestatic 208, 3) := by decide +kernel
theorem dX3_setsLess_4 : decode cX3_setsLess 4 = .ok (.ifCond .eq 17, 3) := by decide +kernel
theorem dX3_setsLess_7 : decode cX3_setsLess 7 = .ok (.iload_n 0, 1) := by decide +kernel
theorem dX3_setsLess_8 : decode cX3_setsLess 8 = .ok (.getstatic 211, 3) := by decide +kernel
theorem dX3_setsLess_11 : decode cX3_setsLess 11 = .ok (.iload_n 1, 1) := by decide +kernel
theorem dX3_setsLess_12 : decode cX3_setsLess 12 = .ok (.iaload, 1) := by decide +kernel
theorem dX3_setsLess_13 : decode cX3_setsLess 13 = .ok (.iand, 1) := by decide +kernel
theorem dX3_setsLess_14 : decode cX3_setsLess 14 = .ok (.iconst 1, 1) := by decide +kernel
theorem dX3_setsLess_15 : decode cX3_setsLess 15 = .ok (.iload_n 1, 1) := by decide +kernel
theorem dX3_setsLess_16 : decode cX3_setsLess 16 = .ok (.ishl, 1) := by decide +kernel
theorem dX3_setsLess_17 : decode cX3_setsLess 17 = .ok (.iushr, 1) := by decide +kernel
theorem dX3_setsLess_18 : decode cX3_setsLess 18 = .ok (.goto 4, 3) := by decide +kernel
theorem dX3_setsLess_21 : decode cX3_setsLess 21 = .ok (.iload_n 0, 1) := by decide +kernel
theorem dX3_setsLess_22 : decode cX3_setsLess 22 = .ok (.ireturn, 1) := by decide +kernel
set_option maxRecDepth 20000 in
theorem ggX3_setsWith_X5_isThing : GoodIn wsX3_setsWith wsX5_isThing := goodIn_r _ [4] (by decide +kernel) (by decide +kernel)
set_option maxRecDepth 20000 in
theorem gX3_setsWith_X5_isThing_n208 : GoodIn wsX3_setsWith (wsX5_isThing) := ggX3_setsWith_X5_isThing
theorem dX3_setsWith_0 : decode cX3_setsWith 0 = .ok (.iload_n 1, 1) := by decide +kernel
theorem dX3_setsWith_1 : decode cX3_setsWith 1 = .ok (.invokestatic 208, 3) := by decide +kernel
theorem dX3_setsWith_4 : decode cX3_setsWith 4 = .ok (.ifCond .eq 17, 3) := by decide +kernel
theorem dX3_setsWith_7 : decode cX3_setsWith 7 = .ok (.iload_n 0, 1) := by decide +kernel
theorem dX3_setsWith_8 : decode cX3_setsWith 8 = .ok (.iconst 1, 1) := by decide +kernel
theorem dX3_setsWith_9 : decode cX3_setsWith 9 = .ok (.iload_n 1, 1) := by decide +kernel
theorem dX3_setsWith_10 : decode cX3_setsWith 10 = .ok (.ishl, 1) := by decide +kernel
theorem dX3_setsWith_11 : decode cX3_setsWith 11 = .ok (.ishl, 1) := by decide +kernel
theorem dX3_setsWith_12 : decode cX3_setsWith 12 = .ok (.getstatic 211, 3) := by decide +kernel
theorem dX3_setsWith_15 : decode cX3_setsWith 15 = .ok (.iload_n 1, 1) := by decide +kernel
theorem dX3_setsWith_16 : decode cX3_setsWith 16 = .ok (.iaload, 1) := by decide +kernel
theorem dX3_setsWith_17 : decode cX3_setsWith 17 = .ok (.iand, 1) := by decide +kernel
theorem dX3_setsWith_18 : decode cX3_setsWith 18 = .ok (.goto 4, 3) := by decide +kernel
theorem dX3_setsWith_21 : decode cX3_setsWith 21 = .ok (.iload_n 0, 1) := by decide +kernel
theorem dX3_setsWith_22 : decode cX3_setsWith 22 = .ok (.ireturn, 1) := by decide +kernel
theorem dX4_init_0 : decode cX4_init 0 = .ok (.aload_n 0, 1) := by decide +kernel
theorem dX4_init_1 : decode cX4_init 1 = .ok (.invokespecial 3, 3) := by decide +kernel
theorem dX4_init_4 : decode cX4_init 4 = .ok (.aload_n 0, 1) := by decide +kernel
theorem dX4_init_5 : decode cX4_init 5 = .ok (.bipush 7, 2) := by decide +kernel
theorem dX4_init_7 : decode cX4_init 7 = .ok (.newarray .int, 2) := by decide +kernel
theorem dX4_init_9 : decode cX4_init 9 = .ok (.putfield 9, 3) := by decide +kernel
theorem dX4_init_12 : decode cX4_init 12 = .ok (.aload_n 0, 1) := by decide +kernel
theorem dX4_init_13 : decode cX4_init 13 = .ok (.bipush 7, 2) := by decide +kernel
theorem dX4_init_15 : decode cX4_init 15 = .ok (.newarray .int, 2) := by decide +kernel
theorem dX4_init_17 : decode cX4_init 17 = .ok (.putfield 15, 3) := by decide +kernel
theorem dX4_init_20 : decode cX4_init 20 = .ok (.aload_n 0, 1) := by decide +kernel
theorem dX4_init_21 : decode cX4_init 21 = .ok (.bipush 7, 2) := by decide +kernel
theorem dX4_init_23 : decode cX4_init 23 = .ok (.newarray .int, 2) := by decide +kernel
theorem dX4_init_25 : decode cX4_init 25 = .ok (.putfield 18, 3) := by decide +kernel
theorem dX4_init_28 : decode cX4_init 28 = .ok (.aload_n 0, 1) := by decide +kernel
theorem dX4_init_29 : decode cX4_init 29 = .ok (.bipush 9, 2) := by decide +kernel
theorem dX4_init_31 : decode cX4_init 31 = .ok (.newarray .int, 2) := by decide +kernel
theorem dX4_init_33 : decode cX4_init 33 = .ok (.putfield 21, 3) := by decide +kernel
theorem dX4_init_36 : decode cX4_init 36 = .ok (.aload_n 0, 1) := by decide +kernel
theorem dX4_init_37 : decode cX4_init 37 = .ok (.bipush 9, 2) := by decide +kernel
theorem dX4_init_39 : decode cX4_init 39 = .ok (.newarray .int, 2) := by decide +kernel
theorem dX4_init_41 : decode cX4_init 41 = .ok (.putfield 24, 3) := by decide +kernel
theorem dX4_init_44 : decode cX4_init 44 = .ok (.aload_n 0, 1) := by decide +kernel
theorem dX4_init_45 : decode cX4_init 45 = .ok (.bipush 9, 2) := by decide +kernel
theorem dX4_init_47 : decode cX4_init 47 = .ok (.newarray .int, 2) := by decide +kernel
theorem dX4_init_49 : decode cX4_init 49 = .ok (.putfield 27, 3) := by decide +kernel
theorem dX4_init_52 : decode cX4_init 52 = .ok (.aload_n 0, 1) := by decide +kernel
theorem dX4_init_53 : decode cX4_init 53 = .ok (.bipush 6, 2) := by decide +kernel
theorem dX4_init_55 : decode cX4_init 55 = .ok (.newarray .int, 2) := by decide +kernel
theorem dX4_init_57 : decode cX4_init 57 = .ok (.putfield 30, 3) := by decide +kernel
theorem dX4_init_60 : decode cX4_init 60 = .ok (.aload_n 0, 1) := by decide +kernel
theorem dX4_init_61 : decode cX4_init 61 = .ok (.bipush 6, 2) := by decide +kernel
theorem dX4_init_63 : decode cX4_init 63 = .ok (.newarray .int, 2) := by decide +kernel
theorem dX4_init_65 : decode cX4_init 65 = .ok (.putfield 33, 3) := by decide +kernel
theorem dX4_init_68 : decode cX4_init 68 = .ok (.aload_n 0, 1) := by decide +kernel
theorem dX4_init_69 : decode cX4_init 69 = .ok (.bipush 6, 2) := by decide +kernel
theorem dX4_init_71 : decode cX4_init 71 = .ok (.newarray .int, 2) := by decide +kernel
theorem dX4_init_73 : decode cX4_init 73 = .ok (.putfield 36, 3) := by decide +kernel
theorem dX4_init_76 : decode cX4_init 76 = .ok (.return_, 1) := by decide +kernel
theorem dX4_forgetAll_0 : decode cX4_forgetAll 0 = .ok (.aload_n 0, 1) := by decide +kernel
theorem dX4_forgetAll_1 : decode cX4_forgetAll 1 = .ok (.iconst 0, 1) := by decide +kernel
theorem dX4_forgetAll_2 : decode cX4_forgetAll 2 = .ok (.putfield 39, 3) := by decide +kernel
theorem dX4_forgetAll_5 : decode cX4_forgetAll 5 = .ok (.aload_n 0, 1) := by decide +kernel
theorem dX4_forgetAll_6 : decode cX4_forgetAll 6 = .ok (.iconst 0, 1) := by decide +kernel
theorem dX4_forgetAll_7 : decode cX4_forgetAll 7 = .ok (.putfield 43, 3) := by decide +kernel
theorem dX4_forgetAll_10 : decode cX4_forgetAll 10 = .ok (.aload_n 0, 1) := by decide +kernel
theorem dX4_forgetAll_11 : decode cX4_forgetAll 11 = .ok (.iconst 0, 1) := by decide +kernel
theorem dX4_forgetAll_12 : decode cX4_forgetAll 12 = .ok (.putfield 46, 3) := by decide +kernel
theorem dX4_forgetAll_15 : decode cX4_forgetAll 15 = .ok (.aload_n 0, 1) := by decide +kernel
theorem dX4_forgetAll_16 : decode cX4_forgetAll 16 = .ok (.iconst 0, 1) := by decide +kernel
theorem dX4_forgetAll_17 : decode cX4_forgetAll 17 = .ok (.putfield 49, 3) := by decide +kernel
theorem dX4_forgetAll_20 : decode cX4_forgetAll 20 = .ok (.return_, 1) := by decide +kernel
theorem dX4_becomeLike_0 : decode cX4_becomeLike 0 = .ok (.aload_n 0, 1) := by decide +kernel
theorem dX4_becomeLike_1 : decode cX4_becomeLike 1 = .ok (.aload_n 1, 1) := by decide +kernel
theorem dX4_becomeLike_2 : decode cX4_becomeLike 2 = .ok (.getfield 39, 3) := by decide +kernel
theorem dX4_becomeLike_5 : decode cX4_becomeLike 5 = .ok (.putfield 39, 3) := by decide +kernel
theorem dX4_becomeLike_8 : decode cX4_becomeLike 8 = .ok (.aload_n 0, 1) := by decide +kernel
theorem dX4_becomeLike_9 : decode cX4_becomeLike 9 = .ok (.aload_n 1, 1) := by decide +kernel
theorem dX4_becomeLike_10 : decode cX4_becomeLike 10 = .ok (.getfield 43, 3) := by decide +kernel
theorem dX4_becomeLike_13 : decode cX4_becomeLike 13 = .ok (.putfield 43, 3) := by decide +kernel
theorem dX4_becomeLike_16 : decode cX4_becomeLike 16 = .ok (.aload_n 0, 1) := by decide +kernel
theorem dX4_becomeLike_17 : decode cX4_becomeLike 17 = .ok (.aload_n 1, 1) := by decide +kernel
theorem dX4_becomeLike_18 : decode cX4_becomeLike 18 = .ok (.getfield 46, 3) := by decide +kernel
theorem dX4_becomeLike_21 : decode cX4_becomeLike 21 = .ok (.putfield 46, 3) := by decide +kernel
theorem dX4_becomeLike_24 : decode cX4_becomeLike 24 = .ok (.aload_n 0, 1) := by decide +kernel
theorem dX4_becomeLike_25 : decode cX4_becomeLike 25 = .ok (.aload_n 1, 1) := by decide +kernel
theorem dX4_becomeLike_26 : decode cX4_becomeLike 26 = .ok (.getfield 49, 3) := by decide +kernel
theorem dX4_becomeLike_29 : decode cX4_becomeLike 29 = .ok (.putfield 49, 3) := by decide +kernel
theorem dX4_becomeLike_32 : decode cX4_becomeLike 32 = .ok (.aload_n 1, 1) := by decide +kernel
theorem dX4_becomeLike_33 : decode cX4_becomeLike 33 = .ok (.getfield 9, 3) := by decide +kernel
theorem dX4_becomeLike_36 : decode cX4_becomeLike 36 = .ok (.iconst 0, 1) := by decide +kernel
theorem dX4_becomeLike_37 : decode cX4_becomeLike 37 = .ok (.aload_n 0, 1) := by decide +kernel
theorem dX4_becomeLike_38 : decode cX4_becomeLike 38 = .ok (.getfield 9, 3) := by decide +kernel
theorem dX4_becomeLike_41 : decode cX4_becomeLike 41 = .ok (.iconst 0, 1) := by decide +kernel
theorem dX4_becomeLike_42 : decode cX4_becomeLike 42 = .ok (.bipush 7, 2) := by decide +kernel
theorem dX4_becomeLike_44 : decode cX4_becomeLike 44 = .ok (.invokestatic 52, 3) := by decide +kernel
theorem dX4_becomeLike_47 : decode cX4_becomeLike 47 = .ok (.aload_n 1, 1) := by decide +kernel
theorem dX4_becomeLike_48 : decode cX4_becomeLike 48 = .ok (.getfield 15, 3) := by decide +kernel
theorem dX4_becomeLike_51 : decode cX4_becomeLike 51 = .ok (.iconst 0, 1) := by decide +kernel
theorem dX4_becomeLike_52 : decode cX4_becomeLike 52 = .ok (.aload_n 0, 1) := by decide +kernel
theorem dX4_becomeLike_53 : decode cX4_becomeLike 53 = .ok (.getfield 15, 3) := by decide +kernel
theorem dX4_becomeLike_56 : decode cX4_becomeLike 56 = .ok (.iconst 0, 1) := by decide +kernel
theorem dX4_becomeLike_57 : decode cX4_becomeLike 57 = .ok (.bipush 7, 2) := by decide +kernel
theorem dX4_becomeLike_59 : decode cX4_becomeLike 59 = .ok (.invokestatic 52, 3) := by decide +kernel
theorem dX4_becomeLike_62 : decode cX4_becomeLike 62 = .ok (.aload_n 1, 1) := by decide +kernel
theorem dX4_becomeLike_63 : decode cX4_becomeLike 63 = .ok (.getfield 18, 3) := by decide +kernel
theorem dX4_becomeLike_66 : decode cX4_becomeLike 66 = .ok (.iconst 0, 1) := by decide +kernel
theorem dX4_becomeLike_67 : decode cX4_becomeLike 67 = .ok (.aload_n 0, 1) := by decide +kernel
theorem dX4_becomeLike_68 : decode cX4_becomeLike 68 = .ok (.getfield 18, 3) := by decide +kernel
theorem dX4_becomeLike_71 : decode cX4_becomeLike 71 = .ok (.iconst 0, 1) := by decide +kernel
theorem dX4_becomeLike_72 : decode cX4_becomeLike 72 = .ok (.bipush 7, 2) := by decide +kernel
theorem dX4_becomeLike_74 : decode cX4_becomeLike 74 = .ok (.invokestatic 52, 3) := by decide +kernel
theorem dX4_becomeLike_77 : decode cX4_becomeLike 77 = .ok (.aload_n 1, 1) := by decide +kernel
theorem dX4_becomeLike_78 : decode cX4_becomeLike 78 = .ok (.getfield 21, 3) := by decide +kernel
theorem dX4_becomeLike_81 : decode cX4_becomeLike 81 = .ok (.iconst 0, 1) := by decide +kernel
theorem dX4_becomeLike_82 : decode cX4_becomeLike 82 = .ok (.aload_n 0, 1) := by decide +kernel
theorem dX4_becomeLike_83 : decode cX4_becomeLike 83 = .ok (.getfield 21, 3) := by decide +kernel
theorem dX4_becomeLike_86 : decode cX4_becomeLike 86 = .ok (.iconst 0, 1) := by decide +kernel
theorem dX4_becomeLike_87 : decode cX4_becomeLike 87 = .ok (.bipush 9, 2) := by decide +kernel
theorem dX4_becomeLike_89 : decode cX4_becomeLike 89 = .ok (.invokestatic 52, 3) := by decide +kernel
theorem dX4_becomeLike_92 : decode cX4_becomeLike 92 = .ok (.aload_n 1, 1) := by decide +kernel
theorem dX4_becomeLike_93 : decode cX4_becomeLike 93 = .ok (.getfield 24, 3) := by decide +kernel
theorem dX4_becomeLike_96 : decode cX4_becomeLike 96 = .ok (.iconst 0, 1) := by decide +kernel
theorem dX4_becomeLike_97 : decode cX4_becomeLike 97 = .ok (.aload_n 0, 1) := by decide +kernel
theorem dX4_becomeLike_98 : decode cX4_becomeLike 98 = .ok (.getfield 24, 3) := by decide +kernel
theorem dX4_becomeLike_101 : decode cX4_becomeLike 101 = .ok (.iconst 0, 1) := by decide +kernel
theorem dX4_becomeLike_102 : decode cX4_becomeLike 102 = .ok (.bipush 9, 2) := by decide +kernel
theorem dX4_becomeLike_104 : decode cX4_becomeLike 104 = .ok (.invokestatic 52, 3) := by decide +kernel
theorem dX4_becomeLike_107 : decode cX4_becomeLike 107 = .ok (.aload_n 1, 1) := by decide +kernel
theorem dX4_becomeLike_108 : decode cX4_becomeLike 108 = .ok (.getfield 27, 3) := by decide +kernel
theorem dX4_becomeLike_111 : decode cX4_becomeLike 111 = .ok (.iconst 0, 1) := by decide +kernel
theorem dX4_becomeLike_112 : decode cX4_becomeLike 112 = .ok (.aload_n 0, 1) := by decide +kernel
theorem dX4_becomeLike_113 : decode cX4_becomeLike 113 = .ok (.getfield 27, 3) := by decide +kernel
theorem dX4_becomeLike_116 : decode cX4_becomeLike 116 = .ok (.iconst 0, 1) := by decide +kernel
theorem dX4_becomeLike_117 : decode cX4_becomeLike 117 = .ok (.bipush 9, 2) := by decide +kernel
theorem dX4_becomeLike_119 : decode cX4_becomeLike 119 = .ok (.invokestatic 52, 3) := by decide +kernel
theorem dX4_becomeLike_122 : decode cX4_becomeLike 122 = .ok (.aload_n 1, 1) := by decide +kernel
theorem dX4_becomeLike_123 : decode cX4_becomeLike 123 = .ok (.getfield 30, 3) := by decide +kernel
theorem dX4_becomeLike_126 : decode cX4_becomeLike 126 = .ok (.iconst 0, 1) := by decide +kernel
theorem dX4_becomeLike_127 : decode cX4_becomeLike 127 = .ok (.aload_n 0, 1) := by decide +kernel
theorem dX4_becomeLike_128 : decode cX4_becomeLike 128 = .ok (.getfield 30, 3) := by decide +kernel
theorem dX4_becomeLike_131 : decode cX4_becomeLike 131 = .ok (.iconst 0, 1) := by decide +kernel
theorem dX4_becomeLike_132 : decode cX4_becomeLike 132 = .ok (.bipush 6, 2) := by decide +kernel
theorem dX4_becomeLike_134 : decode cX4_becomeLike 134 = .ok (.invokestatic 52, 3) := by decide +kernel
theorem dX4_becomeLike_137 : decode cX4_becomeLike 137 = .ok (.aload_n 1, 1) := by decide +kernel
theorem dX4_becomeLike_138 : decode cX4_becomeLike 138 = .ok (.getfield 33, 3) := by decide +kernel
theorem dX4_becomeLike_141 : decode cX4_becomeLike 141 = .ok (.iconst 0, 1) := by decide +kernel
theorem dX4_becomeLike_142 : decode cX4_becomeLike 142 = .ok (.aload_n 0, 1) := by decide +kernel
theorem dX4_becomeLike_143 : decode cX4_becomeLike 143 = .ok (.getfield 33, 3) := by decide +kernel
theorem dX4_becomeLike_146 : decode cX4_becomeLike 146 = .ok (.iconst 0, 1) := by decide +kernel
theorem dX4_becomeLike_147 : decode cX4_becomeLike 147 = .ok (.bipush 6, 2) := by decide +kernel
theorem dX4_becomeLike_149 : decode cX4_becomeLike 149 = .ok (.invokestatic 52, 3) := by decide +kernel
theorem dX4_becomeLike_152 : decode cX4_becomeLike 152 = .ok (.aload_n 1, 1) := by decide +kernel
theorem dX4_becomeLike_153 : decode cX4_becomeLike 153 = .ok (.getfield 36, 3) := by decide +kernel
theorem dX4_becomeLike_156 : decode cX4_becomeLike 156 = .ok (.iconst 0, 1) := by decide +kernel
theorem dX4_becomeLike_157 : decode cX4_becomeLike 157 = .ok (.aload_n 0, 1) := by decide +kernel
theorem dX4_becomeLike_158 : decode cX4_becomeLike 158 = .ok (.getfield 36, 3) := by decide +kernel
theorem dX4_becomeLike_161 : decode cX4_becomeLike 161 = .ok (.iconst 0, 1) := by decide +kernel
theorem dX4_becomeLike_162 : decode cX4_becomeLike 162 = .ok (.bipush 6, 2) := by decide +kernel
theorem dX4_becomeLike_164 : decode cX4_becomeLike 164 = .ok (.invokestatic 52, 3) := by decide +kernel
theorem dX4_becomeLike_167 : decode cX4_becomeLike 167 = .ok (.return_, 1) := by decide +kernel
set_option maxRecDepth 20000 in
theorem ggX4_addPlace_X5_isWithin : GoodIn wsX4_addPlace wsX5_isWithin := goodIn_r _ [7] (by decide +kernel) (by decide +kernel)
set_option maxRecDepth 20000 in
theorem gX4_addPlace_X5_isWithin_n58 : GoodIn wsX4_addPlace (wsX5_isWithin) := ggX4_addPlace_X5_isWithin
theorem dX4_addPlace_0 : decode cX4_addPlace 0 = .ok (.aload_n 0, 1) := by decide +kernel
theorem dX4_addPlace_1 : decode cX4_addPlace 1 = .ok (.getfield 39, 3) := by decide +kernel
theorem dX4_addPlace_4 : decode cX4_addPlace 4 = .ok (.iconst 0, 1) := by decide +kernel
theorem dX4_addPlace_5 : decode cX4_addPlace 5 = .ok (.bipush 6, 2) := by decide +kernel
theorem dX4_addPlace_7 : decode cX4_addPlace 7 = .ok (.invokestatic 58, 3) := by decide +kernel
theorem dX4_addPlace_10 : decode cX4_addPlace 10 = .ok (.ifCond .ne 5, 3) := by decide +kernel
theorem dX4_addPlace_13 : decode cX4_addPlace 13 = .ok (.iconst 0, 1) := by decide +kernel
theorem dX4_addPlace_14 : decode cX4_addPlace 14 = .ok (.ireturn, 1) := by decide +kernel
theorem dX4_addPlace_15 : decode cX4_addPlace 15 = .ok (.aload_n 0, 1) := by decide +kernel
theorem dX4_addPlace_16 : decode cX4_addPlace 16 = .ok (.getfield 9, 3) := by decide +kernel
theorem dX4_addPlace_19 : decode cX4_addPlace 19 = .ok (.aload_n 0, 1) := by decide +kernel
theorem dX4_addPlace_20 : decode cX4_addPlace 20 = .ok (.getfield 39, 3) := by decide +kernel
theorem dX4_addPlace_23 : decode cX4_addPlace 23 = .ok (.bipush 9, 2) := by decide +kernel
theorem dX4_addPlace_25 : decode cX4_addPlace 25 = .ok (.iastore, 1) := by decide +kernel
theorem dX4_addPlace_26 : decode cX4_addPlace 26 = .ok (.aload_n 0, 1) := by decide +kernel
theorem dX4_addPlace_27 : decode cX4_addPlace 27 = .ok (.getfield 15, 3) := by decide +kernel
theorem dX4_addPlace_30 : decode cX4_addPlace 30 = .ok (.aload_n 0, 1) := by decide +kernel
theorem dX4_addPlace_31 : decode cX4_addPlace 31 = .ok (.getfield 39, 3) := by decide +kernel
theorem dX4_addPlace_34 : decode cX4_addPlace 34 = .ok (.bipush (-9), 2) := by decide +kernel
theorem dX4_addPlace_36 : decode cX4_addPlace 36 = .ok (.iastore, 1) := by decide +kernel
theorem dX4_addPlace_37 : decode cX4_addPlace 37 = .ok (.aload_n 0, 1) := by decide +kernel
theorem dX4_addPlace_38 : decode cX4_addPlace 38 = .ok (.getfield 18, 3) := by decide +kernel
theorem dX4_addPlace_41 : decode cX4_addPlace 41 = .ok (.aload_n 0, 1) := by decide +kernel
theorem dX4_addPlace_42 : decode cX4_addPlace 42 = .ok (.getfield 39, 3) := by decide +kernel
theorem dX4_addPlace_45 : decode cX4_addPlace 45 = .ok (.bipush 24, 2) := by decide +kernel
theorem dX4_addPlace_47 : decode cX4_addPlace 47 = .ok (.iastore, 1) := by decide +kernel
theorem dX4_addPlace_48 : decode cX4_addPlace 48 = .ok (.aload_n 0, 1) := by decide +kernel
theorem dX4_addPlace_49 : decode cX4_addPlace 49 = .ok (.dup, 1) := by decide +kernel
theorem dX4_addPlace_50 : decode cX4_addPlace 50 = .ok (.getfield 39, 3) := by decide +kernel
theorem dX4_addPlace_53 : decode cX4_addPlace 53 = .ok (.iconst 1, 1) := by decide +kernel
theorem dX4_addPlace_54 : decode cX4_addPlace 54 = .ok (.iadd, 1) := by decide +kernel
theorem dX4_addPlace_55 : decode cX4_addPlace 55 = .ok (.putfield 39, 3) := by decide +kernel
theorem dX4_addPlace_58 : decode cX4_addPlace 58 = .ok (.iconst 1, 1) := by decide +kernel
theorem dX4_addPlace_59 : decode cX4_addPlace 59 = .ok (.ireturn, 1) := by decide +kernel
set_option maxRecDepth 20000 in
theorem ggX4_addRoad_X5_isWithin : GoodIn wsX4_addRoad wsX5_isWithin := goodIn_r _ [7] (by decide +kernel) (by decide +kernel)
set_option maxRecDepth 20000 in
theorem gX4_addRoad_X5_isWithin_n58 : GoodIn wsX4_addRoad (wsX5_isWithin) := ggX4_addRoad_X5_isWithin
theorem dX4_addRoad_0 : decode cX4_addRoad 0 = .ok (.aload_n 0, 1) := by decide +kernel
theorem dX4_addRoad_1 : decode cX4_addRoad 1 = .ok (.getfield 43, 3) := by decide +kernel
theorem dX4_addRoad_4 : decode cX4_addRoad 4 = .ok (.iconst 0, 1) := by decide +kernel
theorem dX4_addRoad_5 : decode cX4_addRoad 5 = .ok (.bipush 8, 2) := by decide +kernel
theorem dX4_addRoad_7 : decode cX4_addRoad 7 = .ok (.invokestatic 58, 3) := by decide +kernel
theorem dX4_addRoad_10 : decode cX4_addRoad 10 = .ok (.ifCond .ne 5, 3) := by decide +kernel
theorem dX4_addRoad_13 : decode cX4_addRoad 13 = .ok (.iconst 0, 1) := by decide +kernel
theorem dX4_addRoad_14 : decode cX4_addRoad 14 = .ok (.ireturn, 1) := by decide +kernel
theorem dX4_addRoad_15 : decode cX4_addRoad 15 = .ok (.aload_n 0, 1) := by decide +kernel
theorem dX4_addRoad_16 : decode cX4_addRoad 16 = .ok (.getfield 21, 3) := by decide +kernel
theorem dX4_addRoad_19 : decode cX4_addRoad 19 = .ok (.aload_n 0, 1) := by decide +kernel
theorem dX4_addRoad_20 : decode cX4_addRoad 20 = .ok (.getfield 43, 3) := by decide +kernel
theorem dX4_addRoad_23 : decode cX4_addRoad 23 = .ok (.iload_n 1, 1) := by decide +kernel
theorem dX4_addRoad_24 : decode cX4_addRoad 24 = .ok (.iastore, 1) := by decide +kernel
theorem dX4_addRoad_25 : decode cX4_addRoad 25 = .ok (.aload_n 0, 1) := by decide +kernel
theorem dX4_addRoad_26 : decode cX4_addRoad 26 = .ok (.getfield 24, 3) := by decide +kernel
theorem dX4_addRoad_29 : decode cX4_addRoad 29 = .ok (.aload_n 0, 1) := by decide +kernel
theorem dX4_addRoad_30 : decode cX4_addRoad 30 = .ok (.getfield 43, 3) := by decide +kernel
theorem dX4_addRoad_33 : decode cX4_addRoad 33 = .ok (.iload_n 2, 1) := by decide +kernel
theorem dX4_addRoad_34 : decode cX4_addRoad 34 = .ok (.iastore, 1) := by decide +kernel
theorem dX4_addRoad_35 : decode cX4_addRoad 35 = .ok (.aload_n 0, 1) := by decide +kernel
theorem dX4_addRoad_36 : decode cX4_addRoad 36 = .ok (.getfield 27, 3) := by decide +kernel
theorem dX4_addRoad_39 : decode cX4_addRoad 39 = .ok (.aload_n 0, 1) := by decide +kernel
theorem dX4_addRoad_40 : decode cX4_addRoad 40 = .ok (.getfield 43, 3) := by decide +kernel
theorem dX4_addRoad_43 : decode cX4_addRoad 43 = .ok (.iload_n 3, 1) := by decide +kernel
theorem dX4_addRoad_44 : decode cX4_addRoad 44 = .ok (.iastore, 1) := by decide +kernel
theorem dX4_addRoad_45 : decode cX4_addRoad 45 = .ok (.aload_n 0, 1) := by decide +kernel
theorem dX4_addRoad_46 : decode cX4_addRoad 46 = .ok (.dup, 1) := by decide +kernel
theorem dX4_addRoad_47 : decode cX4_addRoad 47 = .ok (.getfield 43, 3) := by decide +kernel
theorem dX4_addRoad_50 : decode cX4_addRoad 50 = .ok (.iconst 1, 1) := by decide +kernel
theorem dX4_addRoad_51 : decode cX4_addRoad 51 = .ok (.iadd, 1) := by decide +kernel
theorem dX4_addRoad_52 : decode cX4_addRoad 52 = .ok (.putfield 43, 3) := by decide +kernel
theorem dX4_addRoad_55 : decode cX4_addRoad 55 = .ok (.iconst 1, 1) := by decide +kernel
theorem dX4_addRoad_56 : decode cX4_addRoad 56 = .ok (.ireturn, 1) := by decide +kernel
set_option maxRecDepth 20000 in
theorem ggX4_addHost_X5_isWithin : GoodIn wsX4_addHost wsX5_isWithin := goodIn_r _ [7] (by decide +kernel) (by decide +kernel)
set_option maxRecDepth 20000 in
theorem gX4_addHost_X5_isWithin_n58 : GoodIn wsX4_addHost (wsX5_isWithin) := ggX4_addHost_X5_isWithin
theorem dX4_addHost_0 : decode cX4_addHost 0 = .ok (.aload_n 0, 1) := by decide +kernel
theorem dX4_addHost_1 : decode cX4_addHost 1 = .ok (.getfield 46, 3) := by decide +kernel
theorem dX4_addHost_4 : decode cX4_addHost 4 = .ok (.iconst 0, 1) := by decide +kernel
theorem dX4_addHost_5 : decode cX4_addHost 5 = .ok (.iconst 5, 1) := by decide +kernel
theorem dX4_addHost_6 : decode cX4_addHost 6 = .ok (.invokestatic 58, 3) := by decide +kernel
theorem dX4_addHost_9 : decode cX4_addHost 9 = .ok (.ifCond .ne 5, 3) := by decide +kernel
theorem dX4_addHost_12 : decode cX4_addHost 12 = .ok (.iconst 0, 1) := by decide +kernel
theorem dX4_addHost_13 : decode cX4_addHost 13 = .ok (.ireturn, 1) := by decide +kernel
theorem dX4_addHost_14 : decode cX4_addHost 14 = .ok (.aload_n 0, 1) := by decide +kernel
theorem dX4_addHost_15 : decode cX4_addHost 15 = .ok (.getfield 30, 3) := by decide +kernel
theorem dX4_addHost_18 : decode cX4_addHost 18 = .ok (.aload_n 0, 1) := by decide +kernel
theorem dX4_addHost_19 : decode cX4_addHost 19 = .ok (.getfield 46, 3) := by decide +kernel
theorem dX4_addHost_22 : decode cX4_addHost 22 = .ok (.iload_n 1, 1) := by decide +kernel
theorem dX4_addHost_23 : decode cX4_addHost 23 = .ok (.iastore, 1) := by decide +kernel
theorem dX4_addHost_24 : decode cX4_addHost 24 = .ok (.aload_n 0, 1) := by decide +kernel
theorem dX4_addHost_25 : decode cX4_addHost 25 = .ok (.getfield 33, 3) := by decide +kernel
theorem dX4_addHost_28 : decode cX4_addHost 28 = .ok (.aload_n 0, 1) := by decide +kernel
theorem dX4_addHost_29 : decode cX4_addHost 29 = .ok (.getfield 46, 3) := by decide +kernel
theorem dX4_addHost_32 : decode cX4_addHost 32 = .ok (.iload_n 2, 1) := by decide +kernel
theorem dX4_addHost_33 : decode cX4_addHost 33 = .ok (.iastore, 1) := by decide +kernel
theorem dX4_addHost_34 : decode cX4_addHost 34 = .ok (.aload_n 0, 1) := by decide +kernel
theorem dX4_addHost_35 : decode cX4_addHost 35 = .ok (.getfield 36, 3) := by decide +kernel
theorem dX4_addHost_38 : decode cX4_addHost 38 = .ok (.aload_n 0, 1) := by decide +kernel
theorem dX4_addHost_39 : decode cX4_addHost 39 = .ok (.getfield 46, 3) := by decide +kernel
theorem dX4_addHost_42 : decode cX4_addHost 42 = .ok (.iload_n 3, 1) := by decide +kernel
theorem dX4_addHost_43 : decode cX4_addHost 43 = .ok (.iastore, 1) := by decide +kernel
theorem dX4_addHost_44 : decode cX4_addHost 44 = .ok (.aload_n 0, 1) := by decide +kernel
theorem dX4_addHost_45 : decode cX4_addHost 45 = .ok (.dup, 1) := by decide +kernel
theorem dX4_addHost_46 : decode cX4_addHost 46 = .ok (.getfield 46, 3) := by decide +kernel
theorem dX4_addHost_49 : decode cX4_addHost 49 = .ok (.iconst 1, 1) := by decide +kernel
theorem dX4_addHost_50 : decode cX4_addHost 50 = .ok (.iadd, 1) := by decide +kernel
theorem dX4_addHost_51 : decode cX4_addHost 51 = .ok (.putfield 46, 3) := by decide +kernel
theorem dX4_addHost_54 : decode cX4_addHost 54 = .ok (.iconst 1, 1) := by decide +kernel
theorem dX4_addHost_55 : decode cX4_addHost 55 = .ok (.ireturn, 1) := by decide +kernel
set_option maxRecDepth 20000 in
theorem ggX4_addLion_X4_hasPlace : GoodIn wsX4_addLion wsX4_hasPlace := goodIn_r _ [6, 7, 8, 9, 10, 11, 12, 13, 14, 15, 16, 17, 18, 19, 20] (by decide +kernel) (by decide +kernel)
set_option maxRecDepth 20000 in
theorem gX4_addLion_X4_hasPlace : GoodIn wsX4_addLion (wsV RX4 62 RX4 yX4_hasPlace wsX4_hasPlace) := goodIn_app (goodIn_of _ (by decide +kernel)) ggX4_addLion_X4_hasPlace
theorem dX4_addLion_0 : decode cX4_addLion 0 = .ok (.aload_n 0, 1) := by decide +kernel
theorem dX4_addLion_1 : decode cX4_addLion 1 = .ok (.iload_n 1, 1) := by decide +kernel
theorem dX4_addLion_2 : decode cX4_addLion 2 = .ok (.invokevirtual 62, 3) := by decide +kernel
theorem dX4_addLion_5 : decode cX4_addLion 5 = .ok (.ifCond .ne 5, 3) := by decide +kernel
theorem dX4_addLion_8 : decode cX4_addLion 8 = .ok (.iconst 0, 1) := by decide +kernel
theorem dX4_addLion_9 : decode cX4_addLion 9 = .ok (.ireturn, 1) := by decide +kernel
theorem dX4_addLion_10 : decode cX4_addLion 10 = .ok (.aload_n 0, 1) := by decide +kernel
theorem dX4_addLion_11 : decode cX4_addLion 11 = .ok (.getfield 9, 3) := by decide +kernel
theorem dX4_addLion_14 : decode cX4_addLion 14 = .ok (.iload_n 1, 1) := by decide +kernel
theorem dX4_addLion_15 : decode cX4_addLion 15 = .ok (.iload_n 2, 1) := by decide +kernel
theorem dX4_addLion_16 : decode cX4_addLion 16 = .ok (.iastore, 1) := by decide +kernel
theorem dX4_addLion_17 : decode cX4_addLion 17 = .ok (.iconst 1, 1) := by decide +kernel
theorem dX4_addLion_18 : decode cX4_addLion 18 = .ok (.ireturn, 1) := by decide +kernel
set_option maxRecDepth 20000 in
theorem ggX4_addGate_X4_hasPlace : GoodIn wsX4_addGate wsX4_hasPlace := goodIn_r _ [7, 8, 9, 10, 11, 12, 13, 14, 15, 16, 17, 18, 19, 20, 21] (by decide +kernel) (by decide +kernel)
set_option maxRecDepth 20000 in
theorem gX4_addGate_X4_hasPlace : GoodIn wsX4_addGate (wsV RX4 62 RX4 yX4_hasPlace wsX4_hasPlace) := goodIn_app (goodIn_of _ (by decide +kernel)) ggX4_addGate_X4_hasPlace
theorem dX4_addGate_0 : decode cX4_addGate 0 = .ok (.aload_n 0, 1) := by decide +kernel
theorem dX4_addGate_1 : decode cX4_addGate 1 = .ok (.iload_n 1, 1) := by decide +kernel
theorem dX4_addGate_2 : decode cX4_addGate 2 = .ok (.invokevirtual 62, 3) := by decide +kernel
theorem dX4_addGate_5 : decode cX4_addGate 5 = .ok (.ifCond .ne 5, 3) := by decide +kernel
theorem dX4_addGate_8 : decode cX4_addGate 8 = .ok (.iconst 0, 1) := by decide +kernel
theorem dX4_addGate_9 : decode cX4_addGate 9 = .ok (.ireturn, 1) := by decide +kernel
theorem dX4_addGate_10 : decode cX4_addGate 10 = .ok (.aload_n 0, 1) := by decide +kernel
theorem dX4_addGate_11 : decode cX4_addGate 11 = .ok (.getfield 15, 3) := by decide +kernel
theorem dX4_addGate_14 : decode cX4_addGate 14 = .ok (.iload_n 1, 1) := by decide +kernel
theorem dX4_addGate_15 : decode cX4_addGate 15 = .ok (.iload_n 2, 1) := by decide +kernel
theorem dX4_addGate_16 : decode cX4_addGate 16 = .ok (.iastore, 1) := by decide +kernel
theorem dX4_addGate_17 : decode cX4_addGate 17 = .ok (.aload_n 0, 1) := by decide +kernel
theorem dX4_addGate_18 : decode cX4_addGate 18 = .ok (.getfield 18, 3) := by decide +kernel
theorem dX4_addGate_21 : decode cX4_addGate 21 = .ok (.iload_n 1, 1) := by decide +kernel
theorem dX4_addGate_22 : decode cX4_addGate 22 = .ok (.iload_n 3, 1) := by decide +kernel
theorem dX4_addGate_23 : decode cX4_addGate 23 = .ok (.iastore, 1) := by decide +kernel
theorem dX4_addGate_24 : decode cX4_addGate 24 = .ok (.iconst 1, 1) := by decide +kernel
theorem dX4_addGate_25 : decode cX4_addGate 25 = .ok (.ireturn, 1) := by decide +kernel
theorem dX4_hasPlace_0 : decode cX4_hasPlace 0 = .ok (.iload_n 1, 1) := by decide +kernel
theorem dX4_hasPlace_1 : decode cX4_hasPlace 1 = .ok (.ifCond .lt 21, 3) := by decide +kernel
theorem dX4_hasPlace_4 : decode cX4_hasPlace 4 = .ok (.iload_n 1, 1) := by decide +kernel
theorem dX4_hasPlace_5 : decode cX4_hasPlace 5 = .ok (.aload_n 0, 1) := by decide +kernel
theorem dX4_hasPlace_6 : decode cX4_hasPlace 6 = .ok (.getfield 39, 3) := by decide +kernel
theorem dX4_hasPlace_9 : decode cX4_hasPlace 9 = .ok (.if_icmp .ge 13, 3) := by decide +kernel
theorem dX4_hasPlace_12 : decode cX4_hasPlace 12 = .ok (.iload_n 1, 1) := by decide +kernel
theorem dX4_hasPlace_13 : decode cX4_hasPlace 13 = .ok (.bipush 7, 2) := by decide +kernel
theorem dX4_hasPlace_15 : decode cX4_hasPlace 15 = .ok (.if_icmp .ge 7, 3) := by decide +kernel
theorem dX4_hasPlace_18 : decode cX4_hasPlace 18 = .ok (.iconst 1, 1) := by decide +kernel
theorem dX4_hasPlace_19 : decode cX4_hasPlace 19 = .ok (.goto 4, 3) := by decide +kernel
theorem dX4_hasPlace_22 : decode cX4_hasPlace 22 = .ok (.iconst 0, 1) := by decide +kernel
theorem dX4_hasPlace_23 : decode cX4_hasPlace 23 = .ok (.ireturn, 1) := by decide +kernel
theorem dX4_hasRoad_0 : decode cX4_hasRoad 0 = .ok (.iload_n 1, 1) := by decide +kernel
theorem dX4_hasRoad_1 : decode cX4_hasRoad 1 = .ok (.ifCond .lt 21, 3) := by decide +kernel
theorem dX4_hasRoad_4 : decode cX4_hasRoad 4 = .ok (.iload_n 1, 1) := by decide +kernel
theorem dX4_hasRoad_5 : decode cX4_hasRoad 5 = .ok (.aload_n 0, 1) := by decide +kernel
theorem dX4_hasRoad_6 : decode cX4_hasRoad 6 = .ok (.getfield 43, 3) := by decide +kernel
theorem dX4_hasRoad_9 : decode cX4_hasRoad 9 = .ok (.if_icmp .ge 13, 3) := by decide +kernel
theorem dX4_hasRoad_12 : decode cX4_hasRoad 12 = .ok (.iload_n 1, 1) := by decide +kernel
theorem dX4_hasRoad_13 : decode cX4_hasRoad 13 = .ok (.bipush 9, 2) := by decide +kernel
theorem dX4_hasRoad_15 : decode cX4_hasRoad 15 = .ok (.if_icmp .ge 7, 3) := by decide +kernel
theorem dX4_hasRoad_18 : decode cX4_hasRoad 18 = .ok (.iconst 1, 1) := by decide +kernel
theorem dX4_hasRoad_19 : decode cX4_hasRoad 19 = .ok (.goto 4, 3) := by decide +kernel
theorem dX4_hasRoad_22 : decode cX4_hasRoad 22 = .ok (.iconst 0, 1) := by decide +kernel
theorem dX4_hasRoad_23 : decode cX4_hasRoad 23 = .ok (.ireturn, 1) := by decide +kernel
theorem dX4_hasHost_0 : decode cX4_hasHost 0 = .ok (.iload_n 1, 1) := by decide +kernel
theorem dX4_hasHost_1 : decode cX4_hasHost 1 = .ok (.ifCond .lt 21, 3) := by decide +kernel
theorem dX4_hasHost_4 : decode cX4_hasHost 4 = .ok (.iload_n 1, 1) := by decide +kernel
theorem dX4_hasHost_5 : decode cX4_hasHost 5 = .ok (.aload_n 0, 1) := by decide +kernel
theorem dX4_hasHost_6 : decode cX4_hasHost 6 = .ok (.getfield 46, 3) := by decide +kernel
theorem dX4_hasHost_9 : decode cX4_hasHost 9 = .ok (.if_icmp .ge 13, 3) := by decide +kernel
theorem dX4_hasHost_12 : decode cX4_hasHost 12 = .ok (.iload_n 1, 1) := by decide +kernel
theorem dX4_hasHost_13 : decode cX4_hasHost 13 = .ok (.bipush 6, 2) := by decide +kernel
theorem dX4_hasHost_15 : decode cX4_hasHost 15 = .ok (.if_icmp .ge 7, 3) := by decide +kernel
theorem dX4_hasHost_18 : decode cX4_hasHost 18 = .ok (.iconst 1, 1) := by decide +kernel
theorem dX4_hasHost_19 : decode cX4_hasHost 19 = .ok (.goto 4, 3) := by decide +kernel
theorem dX4_hasHost_22 : decode cX4_hasHost 22 = .ok (.iconst 0, 1) := by decide +kernel
theorem dX4_hasHost_23 : decode cX4_hasHost 23 = .ok (.ireturn, 1) := by decide +kernel
set_option maxRecDepth 20000 in
theorem ggX4_lionAt_X4_hasPlace : GoodIn wsX4_lionAt wsX4_hasPlace := goodIn_r _ [6, 7, 8, 9, 10, 11, 12, 13, 14, 15, 16, 17, 18, 19, 20] (by decide +kernel) (by decide +kernel)
set_option maxRecDepth 20000 in
theorem gX4_lionAt_X4_hasPlace : GoodIn wsX4_lionAt (wsV RX4 62 RX4 yX4_hasPlace wsX4_hasPlace) := goodIn_app (goodIn_of _ (by decide +kernel)) ggX4_lionAt_X4_hasPlace
theorem dX4_lionAt_0 : decode cX4_lionAt 0 = .ok (.aload_n 0, 1) := by decide +kernel
theorem dX4_lionAt_1 : decode cX4_lionAt 1 = .ok (.iload_n 1, 1) := by decide +kernel
theorem dX4_lionAt_2 : decode cX4_lionAt 2 = .ok (.invokevirtual 62, 3) := by decide +kernel
theorem dX4_lionAt_5 : decode cX4_lionAt 5 = .ok (.ifCond .eq 12, 3) := by decide +kernel
theorem dX4_lionAt_8 : decode cX4_lionAt 8 = .ok (.aload_n 0, 1) := by decide +kernel
theorem dX4_lionAt_9 : decode cX4_lionAt 9 = .ok (.getfield 9, 3) := by decide +kernel
theorem dX4_lionAt_12 : decode cX4_lionAt 12 = .ok (.iload_n 1, 1) := by decide +kernel
theorem dX4_lionAt_13 : decode cX4_lionAt 13 = .ok (.iaload, 1) := by decide +kernel
theorem dX4_lionAt_14 : decode cX4_lionAt 14 = .ok (.goto 5, 3) := by decide +kernel
theorem dX4_lionAt_17 : decode cX4_lionAt 17 = .ok (.bipush 9, 2) := by decide +kernel
theorem dX4_lionAt_19 : decode cX4_lionAt 19 = .ok (.ireturn, 1) := by decide +kernel
set_option maxRecDepth 20000 in
theorem ggX4_gateFromAt_X4_hasPlace : GoodIn wsX4_gateFromAt wsX4_hasPlace := goodIn_r _ [6, 7, 8, 9, 10, 11, 12, 13, 14, 15, 16, 17, 18, 19, 20] (by decide +kernel) (by decide +kernel)
set_option maxRecDepth 20000 in
theorem gX4_gateFromAt_X4_hasPlace : GoodIn wsX4_gateFromAt (wsV RX4 62 RX4 yX4_hasPlace wsX4_hasPlace) := goodIn_app (goodIn_of _ (by decide +kernel)) ggX4_gateFromAt_X4_hasPlace
theorem dX4_gateFromAt_0 : decode cX4_gateFromAt 0 = .ok (.aload_n 0, 1) := by decide +kernel
theorem dX4_gateFromAt_1 : decode cX4_gateFromAt 1 = .ok (.iload_n 1, 1) := by decide +kernel
theorem dX4_gateFromAt_2 : decode cX4_gateFromAt 2 = .ok (.invokevirtual 62, 3) := by decide +kernel
theorem dX4_gateFromAt_5 : decode cX4_gateFromAt 5 = .ok (.ifCond .eq 12, 3) := by decide +kernel
theorem dX4_gateFromAt_8 : decode cX4_gateFromAt 8 = .ok (.aload_n 0, 1) := by decide +kernel
theorem dX4_gateFromAt_9 : decode cX4_gateFromAt 9 = .ok (.getfield 15, 3) := by decide +kernel
theorem dX4_gateFromAt_12 : decode cX4_gateFromAt 12 = .ok (.iload_n 1, 1) := by decide +kernel
theorem dX4_gateFromAt_13 : decode cX4_gateFromAt 13 = .ok (.iaload, 1) := by decide +kernel
theorem dX4_gateFromAt_14 : decode cX4_gateFromAt 14 = .ok (.goto 5, 3) := by decide +kernel
theorem dX4_gateFromAt_17 : decode cX4_gateFromAt 17 = .ok (.bipush (-9), 2) := by decide +kernel
theorem dX4_gateFromAt_19 : decode cX4_gateFromAt 19 = .ok (.ireturn, 1) := by decide +kernel
set_option maxRecDepth 20000 in
theorem ggX4_gateHoursAt_X4_hasPlace : GoodIn wsX4_gateHoursAt wsX4_hasPlace := goodIn_r _ [6, 7, 8, 9, 10, 11, 12, 13, 14, 15, 16, 17, 18, 19, 20] (by decide +kernel) (by decide +kernel)
set_option maxRecDepth 20000 in
theorem gX4_gateHoursAt_X4_hasPlace : GoodIn wsX4_gateHoursAt (wsV RX4 62 RX4 yX4_hasPlace wsX4_hasPlace) := goodIn_app (goodIn_of _ (by decide +kernel)) ggX4_gateHoursAt_X4_hasPlace
theorem dX4_gateHoursAt_0 : decode cX4_gateHoursAt 0 = .ok (.aload_n 0, 1) := by decide +kernel
theorem dX4_gateHoursAt_1 : decode cX4_gateHoursAt 1 = .ok (.iload_n 1, 1) := by decide +kernel
theorem dX4_gateHoursAt_2 : decode cX4_gateHoursAt 2 = .ok (.invokevirtual 62, 3) := by decide +kernel
theorem dX4_gateHoursAt_5 : decode cX4_gateHoursAt 5 = .ok (.ifCond .eq 12, 3) := by decide +kernel
theorem dX4_gateHoursAt_8 : decode cX4_gateHoursAt 8 = .ok (.aload_n 0, 1) := by decide +kernel
theorem dX4_gateHoursAt_9 : decode cX4_gateHoursAt 9 = .ok (.getfield 18, 3) := by decide +kernel
theorem dX4_gateHoursAt_12 : decode cX4_gateHoursAt 12 = .ok (.iload_n 1, 1) := by decide +kernel
theorem dX4_gateHoursAt_13 : decode cX4_gateHoursAt 13 = .ok (.iaload, 1) := by decide +kernel
theorem dX4_gateHoursAt_14 : decode cX4_gateHoursAt 14 = .ok (.goto 5, 3) := by decide +kernel
theorem dX4_gateHoursAt_17 : decode cX4_gateHoursAt 17 = .ok (.bipush 24, 2) := by decide +kernel
theorem dX4_gateHoursAt_19 : decode cX4_gateHoursAt 19 = .ok (.ireturn, 1) := by decide +kernel
set_option maxRecDepth 20000 in
theorem ggX4_roadStart_X4_hasRoad : GoodIn wsX4_roadStart wsX4_hasRoad := goodIn_r _ [6, 7, 8, 9, 10, 11, 12, 13, 14, 15, 16, 17, 18, 19, 20] (by decide +kernel) (by decide +kernel)
set_option maxRecDepth 20000 in
theorem gX4_roadStart_X4_hasRoad : GoodIn wsX4_roadStart (wsV RX4 66 RX4 yX4_hasRoad wsX4_hasRoad) := goodIn_app (goodIn_of _ (by decide +kernel)) ggX4_roadStart_X4_hasRoad
theorem dX4_roadStart_0 : decode cX4_roadStart 0 = .ok (.aload_n 0, 1) := by decide +kernel
theorem dX4_roadStart_1 : decode cX4_roadStart 1 = .ok (.iload_n 1, 1) := by decide +kernel
theorem dX4_roadStart_2 : decode cX4_roadStart 2 = .ok (.invokevirtual 66, 3) := by decide +kernel
theorem dX4_roadStart_5 : decode cX4_roadStart 5 = .ok (.ifCond .eq 12, 3) := by decide +kernel
theorem dX4_roadStart_8 : decode cX4_roadStart 8 = .ok (.aload_n 0, 1) := by decide +kernel
theorem dX4_roadStart_9 : decode cX4_roadStart 9 = .ok (.getfield 21, 3) := by decide +kernel
theorem dX4_roadStart_12 : decode cX4_roadStart 12 = .ok (.iload_n 1, 1) := by decide +kernel
theorem dX4_roadStart_13 : decode cX4_roadStart 13 = .ok (.iaload, 1) := by decide +kernel
theorem dX4_roadStart_14 : decode cX4_roadStart 14 = .ok (.goto 5, 3) := by decide +kernel
theorem dX4_roadStart_17 : decode cX4_roadStart 17 = .ok (.bipush (-9), 2) := by decide +kernel
theorem dX4_roadStart_19 : decode cX4_roadStart 19 = .ok (.ireturn, 1) := by decide +kernel
set_option maxRecDepth 20000 in
theorem ggX4_roadEnd_X4_hasRoad : GoodIn wsX4_roadEnd wsX4_hasRoad := goodIn_r _ [6, 7, 8, 9, 10, 11, 12, 13, 14, 15, 16, 17, 18, 19, 20] (by decide +kernel) (by decide +kernel)
set_option maxRecDepth 20000 in
theorem gX4_roadEnd_X4_hasRoad : GoodIn wsX4_roadEnd (wsV RX4 66 RX4 yX4_hasRoad wsX4_hasRoad) := goodIn_app (goodIn_of _ (by decide +kernel)) ggX4_roadEnd_X4_hasRoad
theorem dX4_roadEnd_0 : decode cX4_roadEnd 0 = .ok (.aload_n 0, 1) := by decide +kernel
theorem dX4_roadEnd_1 : decode cX4_roadEnd 1 = .ok (.iload_n 1, 1) := by decide +kernel
theorem dX4_roadEnd_2 : decode cX4_roadEnd 2 = .ok (.invokevirtual 66, 3) := by decide +kernel
theorem dX4_roadEnd_5 : decode cX4_roadEnd 5 = .ok (.ifCond .eq 12, 3) := by decide +kernel
theorem dX4_roadEnd_8 : decode cX4_roadEnd 8 = .ok (.aload_n 0, 1) := by decide +kernel
theorem dX4_roadEnd_9 : decode cX4_roadEnd 9 = .ok (.getfield 24, 3) := by decide +kernel
theorem dX4_roadEnd_12 : decode cX4_roadEnd 12 = .ok (.iload_n 1, 1) := by decide +kernel
theorem dX4_roadEnd_13 : decode cX4_roadEnd 13 = .ok (.iaload, 1) := by decide +kernel
theorem dX4_roadEnd_14 : decode cX4_roadEnd 14 = .ok (.goto 5, 3) := by decide +kernel
theorem dX4_roadEnd_17 : decode cX4_roadEnd 17 = .ok (.bipush (-9), 2) := by decide +kernel
theorem dX4_roadEnd_19 : decode cX4_roadEnd 19 = .ok (.ireturn, 1) := by decide +kernel
set_option maxRecDepth 20000 in
theorem ggX4_roadHours_X4_hasRoad : GoodIn wsX4_roadHours wsX4_hasRoad := goodIn_r _ [6, 7, 8, 9, 10, 11, 12, 13, 14, 15, 16, 17, 18, 19, 20] (by decide +kernel) (by decide +kernel)
set_option maxRecDepth 20000 in
theorem gX4_roadHours_X4_hasRoad : GoodIn wsX4_roadHours (wsV RX4 66 RX4 yX4_hasRoad wsX4_hasRoad) := goodIn_app (goodIn_of _ (by decide +kernel)) ggX4_roadHours_X4_hasRoad
theorem dX4_roadHours_0 : decode cX4_roadHours 0 = .ok (.aload_n 0, 1) := by decide +kernel
theorem dX4_roadHours_1 : decode cX4_roadHours 1 = .ok (.iload_n 1, 1) := by decide +kernel
theorem dX4_roadHours_2 : decode cX4_roadHours 2 = .ok (.invokevirtual 66, 3) := by decide +kernel
theorem dX4_roadHours_5 : decode cX4_roadHours 5 = .ok (.ifCond .eq 12, 3) := by decide +kernel
theorem dX4_roadHours_8 : decode cX4_roadHours 8 = .ok (.aload_n 0, 1) := by decide +kernel
theorem dX4_roadHours_9 : decode cX4_roadHours 9 = .ok (.getfield 27, 3) := by decide +kernel
theorem dX4_roadHours_12 : decode cX4_roadHours 12 = .ok (.iload_n 1, 1) := by decide +kernel
theorem dX4_roadHours_13 : decode cX4_roadHours 13 = .ok (.iaload, 1) := by decide +kernel
theorem dX4_roadHours_14 : decode cX4_roadHours 14 = .ok (.goto 4, 3) := by decide +kernel
theorem dX4_roadHours_17 : decode cX4_roadHours 17 = .ok (.iconst 0, 1) := by decide +kernel
theorem dX4_roadHours_18 : decode cX4_roadHours 18 = .ok (.ireturn, 1) := by decide +kernel
set_option maxRecDepth 20000 in
theorem ggX4_hostPlace_X4_hasHost : GoodIn wsX4_hostPlace wsX4_hasHost := goodIn_r _ [6, 7, 8, 9, 10, 11, 12, 13, 14, 15, 16, 17, 18, 19, 20] (by decide +kernel) (by decide +kernel)
set_option maxRecDepth 20000 in
theorem gX4_hostPlace_X4_hasHost : GoodIn wsX4_hostPlace (wsV RX4 69 RX4 yX4_hasHost wsX4_hasHost) := goodIn_app (goodIn_of _ (by decide +kernel)) ggX4_hostPlace_X4_hasHost
theorem dX4_hostPlace_0 : decode cX4_hostPlace 0 = .ok (.aload_n 0, 1) := by decide +kernel
theorem dX4_hostPlace_1 : decode cX4_hostPlace 1 = .ok (.iload_n 1, 1) := by decide +kernel
theorem dX4_hostPlace_2 : decode cX4_hostPlace 2 = .ok (.invokevirtual 69, 3) := by decide +kernel
theorem dX4_hostPlace_5 : decode cX4_hostPlace 5 = .ok (.ifCond .eq 12, 3) := by decide +kernel
theorem dX4_hostPlace_8 : decode cX4_hostPlace 8 = .ok (.aload_n 0, 1) := by decide +kernel
theorem dX4_hostPlace_9 : decode cX4_hostPlace 9 = .ok (.getfield 30, 3) := by decide +kernel
theorem dX4_hostPlace_12 : decode cX4_hostPlace 12 = .ok (.iload_n 1, 1) := by decide +kernel
theorem dX4_hostPlace_13 : decode cX4_hostPlace 13 = .ok (.iaload, 1) := by decide +kernel
theorem dX4_hostPlace_14 : decode cX4_hostPlace 14 = .ok (.goto 5, 3) := by decide +kernel
theorem dX4_hostPlace_17 : decode cX4_hostPlace 17 = .ok (.bipush (-9), 2) := by decide +kernel
theorem dX4_hostPlace_19 : decode cX4_hostPlace 19 = .ok (.ireturn, 1) := by decide +kernel
set_option maxRecDepth 20000 in
theorem ggX4_hostGives_X4_hasHost : GoodIn wsX4_hostGives wsX4_hasHost := goodIn_r _ [6, 7, 8, 9, 10, 11, 12, 13, 14, 15, 16, 17, 18, 19, 20] (by decide +kernel) (by decide +kernel)
set_option maxRecDepth 20000 in
theorem gX4_hostGives_X4_hasHost : GoodIn wsX4_hostGives (wsV RX4 69 RX4 yX4_hasHost wsX4_hasHost) := goodIn_app (goodIn_of _ (by decide +kernel)) ggX4_hostGives_X4_hasHost
theorem dX4_hostGives_0 : decode cX4_hostGives 0 = .ok (.aload_n 0, 1) := by decide +kernel
theorem dX4_hostGives_1 : decode cX4_hostGives 1 = .ok (.iload_n 1, 1) := by decide +kernel
theorem dX4_hostGives_2 : decode cX4_hostGives 2 = .ok (.invokevirtual 69, 3) := by decide +kernel
theorem dX4_hostGives_5 : decode cX4_hostGives 5 = .ok (.ifCond .eq 12, 3) := by decide +kernel
theorem dX4_hostGives_8 : decode cX4_hostGives 8 = .ok (.aload_n 0, 1) := by decide +kernel
theorem dX4_hostGives_9 : decode cX4_hostGives 9 = .ok (.getfield 33, 3) := by decide +kernel
theorem dX4_hostGives_12 : decode cX4_hostGives 12 = .ok (.iload_n 1, 1) := by decide +kernel
theorem dX4_hostGives_13 : decode cX4_hostGives 13 = .ok (.iaload, 1) := by decide +kernel
theorem dX4_hostGives_14 : decode cX4_hostGives 14 = .ok (.goto 4, 3) := by decide +kernel
theorem dX4_hostGives_17 : decode cX4_hostGives 17 = .ok (.iconst 0, 1) := by decide +kernel
theorem dX4_hostGives_18 : decode cX4_hostGives 18 = .ok (.ireturn, 1) := by decide +kernel
set_option maxRecDepth 20000 in
theorem ggX4_hostAsks_X4_hasHost : GoodIn wsX4_hostAsks wsX4_hasHost := goodIn_r _ [6, 7, 8, 9, 10, 11, 12, 13, 14, 15, 16, 17, 18, 19, 20] (by decide +kernel) (by decide +kernel)
set_option maxRecDepth 20000 in
theorem gX4_hostAsks_X4_hasHost : GoodIn wsX4_hostAsks (wsV RX4 69 RX4 yX4_hasHost wsX4_hasHost) := goodIn_app (goodIn_of _ (by decide +kernel)) ggX4_hostAsks_X4_hasHost
theorem dX4_hostAsks_0 : decode cX4_hostAsks 0 = .ok (.aload_n 0, 1) := by decide +kernel
theorem dX4_hostAsks_1 : decode cX4_hostAsks 1 = .ok (.iload_n 1, 1) := by decide +kernel
theorem dX4_hostAsks_2 : decode cX4_hostAsks 2 = .ok (.invokevirtual 69, 3) := by decide +kernel
theorem dX4_hostAsks_5 : decode cX4_hostAsks 5 = .ok (.ifCond .eq 12, 3) := by decide +kernel
theorem dX4_hostAsks_8 : decode cX4_hostAsks 8 = .ok (.aload_n 0, 1) := by decide +kernel
theorem dX4_hostAsks_9 : decode cX4_hostAsks 9 = .ok (.getfield 36, 3) := by decide +kernel
theorem dX4_hostAsks_12 : decode cX4_hostAsks 12 = .ok (.iload_n 1, 1) := by decide +kernel
theorem dX4_hostAsks_13 : decode cX4_hostAsks 13 = .ok (.iaload, 1) := by decide +kernel
theorem dX4_hostAsks_14 : decode cX4_hostAsks 14 = .ok (.goto 5, 3) := by decide +kernel
theorem dX4_hostAsks_17 : decode cX4_hostAsks 17 = .ok (.bipush 9, 2) := by decide +kernel
theorem dX4_hostAsks_19 : decode cX4_hostAsks 19 = .ok (.ireturn, 1) := by decide +kernel
set_option maxRecDepth 20000 in
theorem ggX4_farEnd_X4_hasRoad : GoodIn wsX4_farEnd wsX4_hasRoad := goodIn_r _ [7, 8, 9, 10, 11, 12, 13, 14, 15, 16, 17, 18, 19, 20, 21] (by decide +kernel) (by decide +kernel)
set_option maxRecDepth 20000 in
theorem gX4_farEnd_X4_hasRoad : GoodIn wsX4_farEnd (wsV RX4 66 RX4 yX4_hasRoad wsX4_hasRoad) := goodIn_app (goodIn_of _ (by decide +kernel)) ggX4_farEnd_X4_hasRoad
theorem dX4_farEnd_0 : decode cX4_farEnd 0 = .ok (.aload_n 0, 1) := by decide +kernel
theorem dX4_farEnd_1 : decode cX4_farEnd 1 = .ok (.iload_n 1, 1) := by decide +kernel
theorem dX4_farEnd_2 : decode cX4_farEnd 2 = .ok (.invokevirtual 66, 3) := by decide +kernel
theorem dX4_farEnd_5 : decode cX4_farEnd 5 = .ok (.ifCond .ne 6, 3) := by decide +kernel
theorem dX4_farEnd_8 : decode cX4_farEnd 8 = .ok (.bipush (-9), 2) := by decide +kernel
theorem dX4_farEnd_10 : decode cX4_farEnd 10 = .ok (.ireturn, 1) := by decide +kernel
theorem dX4_farEnd_11 : decode cX4_farEnd 11 = .ok (.aload_n 0, 1) := by decide +kernel
theorem dX4_farEnd_12 : decode cX4_farEnd 12 = .ok (.getfield 21, 3) := by decide +kernel
theorem dX4_farEnd_15 : decode cX4_farEnd 15 = .ok (.iload_n 1, 1) := by decide +kernel
theorem dX4_farEnd_16 : decode cX4_farEnd 16 = .ok (.iaload, 1) := by decide +kernel
theorem dX4_farEnd_17 : decode cX4_farEnd 17 = .ok (.iload_n 2, 1) := by decide +kernel
theorem dX4_farEnd_18 : decode cX4_farEnd 18 = .ok (.if_icmp .ne 10, 3) := by decide +kernel
theorem dX4_farEnd_21 : decode cX4_farEnd 21 = .ok (.aload_n 0, 1) := by decide +kernel
theorem dX4_farEnd_22 : decode cX4_farEnd 22 = .ok (.getfield 24, 3) := by decide +kernel
theorem dX4_farEnd_25 : decode cX4_farEnd 25 = .ok (.iload_n 1, 1) := by decide +kernel
theorem dX4_farEnd_26 : decode cX4_farEnd 26 = .ok (.iaload, 1) := by decide +kernel
theorem dX4_farEnd_27 : decode cX4_farEnd 27 = .ok (.ireturn, 1) := by decide +kernel
theorem dX4_farEnd_28 : decode cX4_farEnd 28 = .ok (.aload_n 0, 1) := by decide +kernel
theorem dX4_farEnd_29 : decode cX4_farEnd 29 = .ok (.getfield 24, 3) := by decide +kernel
theorem dX4_farEnd_32 : decode cX4_farEnd 32 = .ok (.iload_n 1, 1) := by decide +kernel
theorem dX4_farEnd_33 : decode cX4_farEnd 33 = .ok (.iaload, 1) := by decide +kernel
theorem dX4_farEnd_34 : decode cX4_farEnd 34 = .ok (.iload_n 2, 1) := by decide +kernel
theorem dX4_farEnd_35 : decode cX4_farEnd 35 = .ok (.if_icmp .ne 12, 3) := by decide +kernel
theorem dX4_farEnd_38 : decode cX4_farEnd 38 = .ok (.aload_n 0, 1) := by decide +kernel
theorem dX4_farEnd_39 : decode cX4_farEnd 39 = .ok (.getfield 21, 3) := by decide +kernel
theorem dX4_farEnd_42 : decode cX4_farEnd 42 = .ok (.iload_n 1, 1) := by decide +kernel
theorem dX4_farEnd_43 : decode cX4_farEnd 43 = .ok (.iaload, 1) := by decide +kernel
theorem dX4_farEnd_44 : decode cX4_farEnd 44 = .ok (.goto 5, 3) := by decide +kernel
theorem dX4_farEnd_47 : decode cX4_farEnd 47 = .ok (.bipush (-9), 2) := by decide +kernel
theorem dX4_farEnd_49 : decode cX4_farEnd 49 = .ok (.ireturn, 1) := by decide +kernel
set_option maxRecDepth 20000 in
theorem ggX4_isOpen_X4_hasPlace : GoodIn wsX4_isOpen wsX4_hasPlace := goodIn_r _ [7, 8, 13, 14, 15, 16, 17, 18, 19, 20, 21, 22, 23, 24, 25] (by decide +kernel) (by decide +kernel)
set_option maxRecDepth 20000 in
theorem gX4_isOpen_X4_hasPlace : GoodIn wsX4_isOpen (wsV RX4 62 RX4 yX4_hasPlace wsX4_hasPlace) := goodIn_app (goodIn_of _ (by decide +kernel)) ggX4_isOpen_X4_hasPlace
set_option maxRecDepth 20000 in
theorem ggX4_isOpen_J9_floorMod_7cf53 : GoodIn wsX4_isOpen wsJ9_floorMod_7cf53 := goodIn_r _ [12] (by decide +kernel) (by decide +kernel)
set_option maxRecDepth 20000 in
theorem gX4_isOpen_J9_floorMod_7cf53 : GoodIn wsX4_isOpen (va_wsS RX4 72 yJ9_floorMod_7cf53 wsJ9_floorMod_7cf53) := goodIn_app (goodIn_of _ (by decide +kernel)) ggX4_isOpen_J9_floorMod_7cf53
theorem dX4_isOpen_0 : decode cX4_isOpen 0 = .ok (.aload_n 0, 1) := by decide +kernel
theorem dX4_isOpen_1 : decode cX4_isOpen 1 = .ok (.iload_n 1, 1) := by decide +kernel
theorem dX4_isOpen_2 : decode cX4_isOpen 2 = .ok (.invokevirtual 62, 3) := by decide +kernel
theorem dX4_isOpen_5 : decode cX4_isOpen 5 = .ok (.ifCond .eq 14, 3) := by decide +kernel
theorem dX4_isOpen_8 : decode cX4_isOpen 8 = .ok (.aload_n 0, 1) := by decide +kernel
theorem dX4_isOpen_9 : decode cX4_isOpen 9 = .ok (.getfield 15, 3) := by decide +kernel
theorem dX4_isOpen_12 : decode cX4_isOpen 12 = .ok (.iload_n 1, 1) := by decide +kernel
theorem dX4_isOpen_13 : decode cX4_isOpen 13 = .ok (.iaload, 1) := by decide +kernel
theorem dX4_isOpen_14 : decode cX4_isOpen 14 = .ok (.bipush (-9), 2) := by decide +kernel
theorem dX4_isOpen_16 : decode cX4_isOpen 16 = .ok (.if_icmp .ne 5, 3) := by decide +kernel
theorem dX4_isOpen_19 : decode cX4_isOpen 19 = .ok (.iconst 1, 1) := by decide +kernel
theorem dX4_isOpen_20 : decode cX4_isOpen 20 = .ok (.ireturn, 1) := by decide +kernel
theorem dX4_isOpen_21 : decode cX4_isOpen 21 = .ok (.iload_n 2, 1) := by decide +kernel
theorem dX4_isOpen_22 : decode cX4_isOpen 22 = .ok (.aload_n 0, 1) := by decide +kernel
theorem dX4_isOpen_23 : decode cX4_isOpen 23 = .ok (.getfield 15, 3) := by decide +kernel
theorem dX4_isOpen_26 : decode cX4_isOpen 26 = .ok (.iload_n 1, 1) := by decide +kernel
theorem dX4_isOpen_27 : decode cX4_isOpen 27 = .ok (.iaload, 1) := by decide +kernel
theorem dX4_isOpen_28 : decode cX4_isOpen 28 = .ok (.isub, 1) := by decide +kernel
theorem dX4_isOpen_29 : decode cX4_isOpen 29 = .ok (.bipush 24, 2) := by decide +kernel
theorem dX4_isOpen_31 : decode cX4_isOpen 31 = .ok (.invokestatic 72, 3) := by decide +kernel
theorem dX4_isOpen_34 : decode cX4_isOpen 34 = .ok (.aload_n 0, 1) := by decide +kernel
theorem dX4_isOpen_35 : decode cX4_isOpen 35 = .ok (.getfield 18, 3) := by decide +kernel
theorem dX4_isOpen_38 : decode cX4_isOpen 38 = .ok (.iload_n 1, 1) := by decide +kernel
theorem dX4_isOpen_39 : decode cX4_isOpen 39 = .ok (.iaload, 1) := by decide +kernel
theorem dX4_isOpen_40 : decode cX4_isOpen 40 = .ok (.if_icmp .ge 7, 3) := by decide +kernel
theorem dX4_isOpen_43 : decode cX4_isOpen 43 = .ok (.iconst 1, 1) := by decide +kernel
theorem dX4_isOpen_44 : decode cX4_isOpen 44 = .ok (.goto 4, 3) := by decide +kernel
theorem dX4_isOpen_47 : decode cX4_isOpen 47 = .ok (.iconst 0, 1) := by decide +kernel
theorem dX4_isOpen_48 : decode cX4_isOpen 48 = .ok (.ireturn, 1) := by decide +kernel
set_option maxRecDepth 20000 in
theorem ggX4_letsIn_X4_isOpen : GoodIn wsX4_letsIn wsX4_isOpen := goodIn_r _ [5, 6, 7, 8, 9, 10, 4, 11, 12, 13, 14, 15, 16, 28, 29, 30, 31, 32, 33, 34, 35, 36, 37, 38, 39, 40] (by decide +kernel) (by decide +kernel)
set_option maxRecDepth 20000 in
theorem gX4_letsIn_X4_isOpen : GoodIn wsX4_letsIn (wsV RX4 78 RX4 yX4_isOpen wsX4_isOpen) := goodIn_app (goodIn_of _ (by decide +kernel)) ggX4_letsIn_X4_isOpen
set_option maxRecDepth 20000 in
theorem ggX4_letsIn_X4_lionAt : GoodIn wsX4_letsIn wsX4_lionAt := goodIn_r _ [20, 21, 8, 9, 10, 4, 11, 12, 28, 29, 30, 31, 32, 33, 34, 35, 36, 37, 38, 39, 40] (by decide +kernel) (by decide +kernel)
set_option maxRecDepth 20000 in
theorem gX4_letsIn_X4_lionAt : GoodIn wsX4_letsIn (wsV RX4 82 RX4 yX4_lionAt wsX4_lionAt) := goodIn_app (goodIn_of _ (by decide +kernel)) ggX4_letsIn_X4_lionAt
set_option maxRecDepth 20000 in
theorem ggX4_letsIn_X5_hasThing : GoodIn wsX4_letsIn wsX5_hasThing := goodIn_r _ [24, 25, 26, 23, 27] (by decide +kernel) (by decide +kernel)
set_option maxRecDepth 20000 in
theorem gX4_letsIn_X5_hasThing_n86 : GoodIn wsX4_letsIn (wsX5_hasThing) := ggX4_letsIn_X5_hasThing
theorem dX4_letsIn_0 : decode cX4_letsIn 0 = .ok (.aload_n 0, 1) := by decide +kernel
theorem dX4_letsIn_1 : decode cX4_letsIn 1 = .ok (.iload_n 1, 1) := by decide +kernel
theorem dX4_letsIn_2 : decode cX4_letsIn 2 = .ok (.iload_n 2, 1) := by decide +kernel
theorem dX4_letsIn_3 : decode cX4_letsIn 3 = .ok (.invokevirtual 78, 3) := by decide +kernel
theorem dX4_letsIn_6 : decode cX4_letsIn 6 = .ok (.ifCond .eq 19, 3) := by decide +kernel
theorem dX4_letsIn_9 : decode cX4_letsIn 9 = .ok (.iload_n 3, 1) := by decide +kernel
theorem dX4_letsIn_10 : decode cX4_letsIn 10 = .ok (.aload_n 0, 1) := by decide +kernel
theorem dX4_letsIn_11 : decode cX4_letsIn 11 = .ok (.iload_n 1, 1) := by decide +kernel
theorem dX4_letsIn_12 : decode cX4_letsIn 12 = .ok (.invokevirtual 82, 3) := by decide +kernel
theorem dX4_letsIn_15 : decode cX4_letsIn 15 = .ok (.invokestatic 86, 3) := by decide +kernel
theorem dX4_letsIn_18 : decode cX4_letsIn 18 = .ok (.ifCond .eq 7, 3) := by decide +kernel
theorem dX4_letsIn_21 : decode cX4_letsIn 21 = .ok (.iconst 1, 1) := by decide +kernel
theorem dX4_letsIn_22 : decode cX4_letsIn 22 = .ok (.goto 4, 3) := by decide +kernel
theorem dX4_letsIn_25 : decode cX4_letsIn 25 = .ok (.iconst 0, 1) := by decide +kernel
theorem dX4_letsIn_26 : decode cX4_letsIn 26 = .ok (.ireturn, 1) := by decide +kernel
set_option maxRecDepth 20000 in
theorem ggX4_thingsInside_X4_lionAt : GoodIn wsX4_thingsInside wsX4_lionAt := goodIn_r _ [5, 6, 7, 8, 9, 4, 10, 11, 15, 16, 17, 18, 19, 20, 21, 22, 23, 24, 25, 26, 27] (by decide +kernel) (by decide +kernel)
set_option maxRecDepth 20000 in
theorem gX4_thingsInside_X4_lionAt : GoodIn wsX4_thingsInside (wsV RX4 82 RX4 yX4_lionAt wsX4_lionAt) := goodIn_app (goodIn_of _ (by decide +kernel)) ggX4_thingsInside_X4_lionAt
set_option maxRecDepth 20000 in
theorem ggX4_thingsInside_X5_isThing : GoodIn wsX4_thingsInside wsX5_isThing := goodIn_r _ [14] (by decide +kernel) (by decide +kernel)
set_option maxRecDepth 20000 in
theorem gX4_thingsInside_X5_isThing_n89 : GoodIn wsX4_thingsInside (wsX5_isThing) := ggX4_thingsInside_X5_isThing
theorem dX4_thingsInside_0 : decode cX4_thingsInside 0 = .ok (.aload_n 0, 1) := by decide +kernel
theorem dX4_thingsInside_1 : decode cX4_thingsInside 1 = .ok (.iload_n 1, 1) := by decide +kernel
theorem dX4_thingsInside_2 : decode cX4_thingsInside 2 = .ok (.invokevirtual 82, 3) := by decide +kernel
theorem dX4_thingsInside_5 : decode cX4_thingsInside 5 = .ok (.istore_n 3, 1) := by decide +kernel
theorem dX4_thingsInside_6 : decode cX4_thingsInside 6 = .ok (.iload_n 3, 1) := by decide +kernel
theorem dX4_thingsInside_7 : decode cX4_thingsInside 7 = .ok (.invokestatic 89, 3) := by decide +kernel
theorem dX4_thingsInside_10 : decode cX4_thingsInside 10 = .ok (.ifCond .eq 13, 3) := by decide +kernel
theorem dX4_thingsInside_13 : decode cX4_thingsInside 13 = .ok (.iload_n 2, 1) := by decide +kernel
theorem dX4_thingsInside_14 : decode cX4_thingsInside 14 = .ok (.iconst 1, 1) := by decide +kernel
theorem dX4_thingsInside_15 : decode cX4_thingsInside 15 = .ok (.iload_n 3, 1) := by decide +kernel
theorem dX4_thingsInside_16 : decode cX4_thingsInside 16 = .ok (.ishl, 1) := by decide +kernel
theorem dX4_thingsInside_17 : decode cX4_thingsInside 17 = .ok (.iconst (-1), 1) := by decide +kernel
theorem dX4_thingsInside_18 : decode cX4_thingsInside 18 = .ok (.ixor, 1) := by decide +kernel
theorem dX4_thingsInside_19 : decode cX4_thingsInside 19 = .ok (.iand, 1) := by decide +kernel
theorem dX4_thingsInside_20 : decode cX4_thingsInside 20 = .ok (.goto 4, 3) := by decide +kernel
theorem dX4_thingsInside_23 : decode cX4_thingsInside 23 = .ok (.iload_n 2, 1) := by decide +kernel
theorem dX4_thingsInside_24 : decode cX4_thingsInside 24 = .ok (.ireturn, 1) := by decide +kernel
set_option maxRecDepth 20000 in
theorem ggX4_isGiven_X4_hasHost : GoodIn wsX4_isGiven wsX4_hasHost := goodIn_r _ [8, 9, 16, 17, 18, 19, 20, 21, 22, 23, 24, 25, 26, 27, 28] (by decide +kernel) (by decide +kernel)
set_option maxRecDepth 20000 in
theorem gX4_isGiven_X4_hasHost : GoodIn wsX4_isGiven (wsV RX4 69 RX4 yX4_hasHost wsX4_hasHost) := goodIn_app (goodIn_of _ (by decide +kernel)) ggX4_isGiven_X4_hasHost
set_option maxRecDepth 20000 in
theorem ggX4_isGiven_X5_hasThing : GoodIn wsX4_isGiven wsX5_hasThing := goodIn_r _ [12, 13, 14, 11, 15] (by decide +kernel) (by decide +kernel)
set_option maxRecDepth 20000 in
theorem gX4_isGiven_X5_hasThing_n86 : GoodIn wsX4_isGiven (wsX5_hasThing) := ggX4_isGiven_X5_hasThing
theorem dX4_isGiven_0 : decode cX4_isGiven 0 = .ok (.aload_n 0, 1) := by decide +kernel
theorem dX4_isGiven_1 : decode cX4_isGiven 1 = .ok (.iload_n 1, 1) := by decide +kernel
theorem dX4_isGiven_2 : decode cX4_isGiven 2 = .ok (.invokevirtual 69, 3) := by decide +kernel
theorem dX4_isGiven_5 : decode cX4_isGiven 5 = .ok (.ifCond .eq 43, 3) := by decide +kernel
theorem dX4_isGiven_8 : decode cX4_isGiven 8 = .ok (.aload_n 0, 1) := by decide +kernel
theorem dX4_isGiven_9 : decode cX4_isGiven 9 = .ok (.getfield 30, 3) := by decide +kernel
theorem dX4_isGiven_12 : decode cX4_isGiven 12 = .ok (.iload_n 1, 1) := by decide +kernel
theorem dX4_isGiven_13 : decode cX4_isGiven 13 = .ok (.iaload, 1) := by decide +kernel
theorem dX4_isGiven_14 : decode cX4_isGiven 14 = .ok (.iload_n 2, 1) := by decide +kernel
theorem dX4_isGiven_15 : decode cX4_isGiven 15 = .ok (.if_icmp .ne 33, 3) := by decide +kernel
theorem dX4_isGiven_18 : decode cX4_isGiven 18 = .ok (.iload_n 3, 1) := by decide +kernel
theorem dX4_isGiven_19 : decode cX4_isGiven 19 = .ok (.aload_n 0, 1) := by decide +kernel
theorem dX4_isGiven_20 : decode cX4_isGiven 20 = .ok (.getfield 36, 3) := by decide +kernel
theorem dX4_isGiven_23 : decode cX4_isGiven 23 = .ok (.iload_n 1, 1) := by decide +kernel
theorem dX4_isGiven_24 : decode cX4_isGiven 24 = .ok (.iaload, 1) := by decide +kernel
theorem dX4_isGiven_25 : decode cX4_isGiven 25 = .ok (.invokestatic 86, 3) := by decide +kernel
theorem dX4_isGiven_28 : decode cX4_isGiven 28 = .ok (.ifCond .eq 20, 3) := by decide +kernel
theorem dX4_isGiven_31 : decode cX4_isGiven 31 = .ok (.iload_n 3, 1) := by decide +kernel
theorem dX4_isGiven_32 : decode cX4_isGiven 32 = .ok (.aload_n 0, 1) := by decide +kernel
theorem dX4_isGiven_33 : decode cX4_isGiven 33 = .ok (.getfield 33, 3) := by decide +kernel
theorem dX4_isGiven_36 : decode cX4_isGiven 36 = .ok (.iload_n 1, 1) := by decide +kernel
theorem dX4_isGiven_37 : decode cX4_isGiven 37 = .ok (.iaload, 1) := by decide +kernel
theorem dX4_isGiven_38 : decode cX4_isGiven 38 = .ok (.invokestatic 86, 3) := by decide +kernel
theorem dX4_isGiven_41 : decode cX4_isGiven 41 = .ok (.ifCond .ne 7, 3) := by decide +kernel
theorem dX4_isGiven_44 : decode cX4_isGiven 44 = .ok (.iconst 1, 1) := by decide +kernel
theorem dX4_isGiven_45 : decode cX4_isGiven 45 = .ok (.goto 4, 3) := by decide +kernel
theorem dX4_isGiven_48 : decode cX4_isGiven 48 = .ok (.iconst 0, 1) := by decide +kernel
theorem dX4_isGiven_49 : decode cX4_isGiven 49 = .ok (.ireturn, 1) := by decide +kernel
theorem dX4_hoursAround_0 : decode cX4_hoursAround 0 = .ok (.iconst 2, 1) := by decide +kernel
theorem dX4_hoursAround_1 : decode cX4_hoursAround 1 = .ok (.aload_n 0, 1) := by decide +kernel
theorem dX4_hoursAround_2 : decode cX4_hoursAround 2 = .ok (.getfield 49, 3) := by decide +kernel
theorem dX4_hoursAround_5 : decode cX4_hoursAround 5 = .ok (.imul, 1) := by decide +kernel
theorem dX4_hoursAround_6 : decode cX4_hoursAround 6 = .ok (.iconst 1, 1) := by decide +kernel
theorem dX4_hoursAround_7 : decode cX4_hoursAround 7 = .ok (.iadd, 1) := by decide +kernel
theorem dX4_hoursAround_8 : decode cX4_hoursAround 8 = .ok (.ireturn, 1) := by decide +kernel
set_option maxRecDepth 20000 in
theorem ggX4_openAround_X4_isOpen : GoodIn wsX4_openAround wsX4_isOpen := goodIn_r _ [6, 7, 8, 9, 10, 11, 5, 12, 13, 14, 15, 16, 17, 18, 19, 20, 21, 22, 23, 24, 25, 26, 27, 28, 29, 30] (by decide +kernel) (by decide +kernel)
set_option maxRecDepth 20000 in
theorem gX4_openAround_X4_isOpen : GoodIn wsX4_openAround (wsV RX4 78 RX4 yX4_isOpen wsX4_isOpen) := goodIn_app (goodIn_of _ (by decide +kernel)) ggX4_openAround_X4_isOpen
theorem dX4_openAround_0 : decode cX4_openAround 0 = .ok (.iconst 0, 1) := by decide +kernel
theorem dX4_openAround_1 : decode cX4_openAround 1 = .ok (.istore_n 3, 1) := by decide +kernel
theorem dX4_openAround_2 : decode cX4_openAround 2 = .ok (.aload_n 0, 1) := by decide +kernel
theorem dX4_openAround_3 : decode cX4_openAround 3 = .ok (.getfield 49, 3) := by decide +kernel
theorem dX4_openAround_6 : decode cX4_openAround 6 = .ok (.ineg, 1) := by decide +kernel
theorem dX4_openAround_7 : decode cX4_openAround 7 = .ok (.istore 4, 2) := by decide +kernel
theorem dX4_openAround_9 : decode cX4_openAround 9 = .ok (.iload 4, 2) := by decide +kernel
theorem dX4_openAround_11 : decode cX4_openAround 11 = .ok (.aload_n 0, 1) := by decide +kernel
theorem dX4_openAround_12 : decode cX4_openAround 12 = .ok (.getfield 49, 3) := by decide +kernel
theorem dX4_openAround_15 : decode cX4_openAround 15 = .ok (.if_icmp .gt 24, 3) := by decide +kernel
theorem dX4_openAround_18 : decode cX4_openAround 18 = .ok (.aload_n 0, 1) := by decide +kernel
theorem dX4_openAround_19 : decode cX4_openAround 19 = .ok (.iload_n 1, 1) := by decide +kernel
theorem dX4_openAround_20 : decode cX4_openAround 20 = .ok (.iload_n 2, 1) := by decide +kernel
theorem dX4_openAround_21 : decode cX4_openAround 21 = .ok (.iload 4, 2) := by decide +kernel
theorem dX4_openAround_23 : decode cX4_openAround 23 = .ok (.iadd, 1) := by decide +kernel
theorem dX4_openAround_24 : decode cX4_openAround 24 = .ok (.invokevirtual 78, 3) := by decide +kernel
theorem dX4_openAround_27 : decode cX4_openAround 27 = .ok (.ifCond .eq 6, 3) := by decide +kernel
theorem dX4_openAround_30 : decode cX4_openAround 30 = .ok (.iinc 3 1, 3) := by decide +kernel
theorem dX4_openAround_33 : decode cX4_openAround 33 = .ok (.iinc 4 1, 3) := by decide +kernel
theorem dX4_openAround_36 : decode cX4_openAround 36 = .ok (.goto (-27), 3) := by decide +kernel
theorem dX4_openAround_39 : decode cX4_openAround 39 = .ok (.iload_n 3, 1) := by decide +kernel
theorem dX4_openAround_40 : decode cX4_openAround 40 = .ok (.ireturn, 1) := by decide +kernel
set_option maxRecDepth 20000 in
theorem ggX5_init_X4_init : GoodIn wsX5_init wsX4_init := goodIn_r _ [32, 33, 2, 3, 4, 34, 35, 36, 37, 38, 39, 40, 41, 42, 84, 85, 86, 87, 88, 89, 90, 91, 92, 93, 94, 95, 96] (by decide +kernel) (by decide +kernel)
set_option maxRecDepth 20000 in
theorem gX5_init_X4_init_n19 : GoodIn wsX5_init (wsX4_init) := ggX5_init_X4_init
set_option maxRecDepth 20000 in
theorem ggX5_init_X1_init : GoodIn wsX5_init wsX1_init := goodIn_r _ [45, 46, 2, 3, 47, 48, 97, 98, 99, 100, 101, 102, 103, 104] (by decide +kernel) (by decide +kernel)
set_option maxRecDepth 20000 in
theorem gX5_init_X1_init : GoodIn wsX5_init (wsX1_init) := ggX5_init_X1_init
set_option maxRecDepth 20000 in
theorem ggX5_init_X2_init : GoodIn wsX5_init wsX2_init := goodIn_r _ [50, 51, 2, 3, 4, 52, 53, 54, 105, 106, 107, 108, 109, 110, 111, 112] (by decide +kernel) (by decide +kernel)
set_option maxRecDepth 20000 in
theorem gX5_init_X2_init_n38 : GoodIn wsX5_init (wsX2_init) := ggX5_init_X2_init
set_option maxRecDepth 20000 in
theorem ggX5_init_X3_init : GoodIn wsX5_init wsX3_init := goodIn_r _ [57, 58, 2, 3, 4, 59, 60, 61, 62, 63, 64, 113, 114, 115, 116, 117, 118, 119, 120, 121, 122, 123, 124, 125, 126] (by decide +kernel) (by decide +kernel)
set_option maxRecDepth 20000 in
theorem gX5_init_X3_init : GoodIn wsX5_init (wsX3_init) := ggX5_init_X3_init
set_option maxRecDepth 20000 in
theorem ggX5_init_X0_init : GoodIn wsX5_init wsX0_init := goodIn_r _ [66, 67, 2, 3, 4, 68, 69, 70, 71, 72, 127, 128, 129, 130, 131, 132, 133, 134] (by decide +kernel) (by decide +kernel)
set_option maxRecDepth 20000 in
theorem gX5_init_X0_init_n60 : GoodIn wsX5_init (wsX0_init) := ggX5_init_X0_init
