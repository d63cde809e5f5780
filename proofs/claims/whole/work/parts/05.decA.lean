theorem dX0_init_0 : decode cX0_init 0 = .ok (.aload_n 0, 1) := by decide +kernel
theorem dX0_init_1 : decode cX0_init 1 = .ok (.invokespecial 3, 3) := by decide +kernel
theorem dX0_init_4 : decode cX0_init 4 = .ok (.aload_n 0, 1) := by decide +kernel
theorem dX0_init_5 : decode cX0_init 5 = .ok (.sipush 4096, 3) := by decide +kernel
theorem dX0_init_8 : decode cX0_init 8 = .ok (.newarray .int, 2) := by decide +kernel
theorem dX0_init_10 : decode cX0_init 10 = .ok (.putfield 9, 3) := by decide +kernel
theorem dX0_init_13 : decode cX0_init 13 = .ok (.aload_n 0, 1) := by decide +kernel
theorem dX0_init_14 : decode cX0_init 14 = .ok (.bipush 64, 2) := by decide +kernel
theorem dX0_init_16 : decode cX0_init 16 = .ok (.newarray .int, 2) := by decide +kernel
theorem dX0_init_18 : decode cX0_init 18 = .ok (.putfield 15, 3) := by decide +kernel
theorem dX0_init_21 : decode cX0_init 21 = .ok (.aload_n 0, 1) := by decide +kernel
theorem dX0_init_22 : decode cX0_init 22 = .ok (.iconst 1, 1) := by decide +kernel
theorem dX0_init_23 : decode cX0_init 23 = .ok (.putfield 18, 3) := by decide +kernel
theorem dX0_init_26 : decode cX0_init 26 = .ok (.aload_n 0, 1) := by decide +kernel
theorem dX0_init_27 : decode cX0_init 27 = .ok (.iconst 0, 1) := by decide +kernel
theorem dX0_init_28 : decode cX0_init 28 = .ok (.putfield 22, 3) := by decide +kernel
theorem dX0_init_31 : decode cX0_init 31 = .ok (.return_, 1) := by decide +kernel
theorem dX0_size_0 : decode cX0_size 0 = .ok (.aload_n 0, 1) := by decide +kernel
theorem dX0_size_1 : decode cX0_size 1 = .ok (.getfield 18, 3) := by decide +kernel
theorem dX0_size_4 : decode cX0_size 4 = .ok (.ireturn, 1) := by decide +kernel
theorem dX0_at_0 : decode cX0_at 0 = .ok (.iload_n 1, 1) := by decide +kernel
theorem dX0_at_1 : decode cX0_at 1 = .ok (.ifCond .lt 29, 3) := by decide +kernel
theorem dX0_at_4 : decode cX0_at 4 = .ok (.iload_n 1, 1) := by decide +kernel
theorem dX0_at_5 : decode cX0_at 5 = .ok (.aload_n 0, 1) := by decide +kernel
theorem dX0_at_6 : decode cX0_at 6 = .ok (.getfield 18, 3) := by decide +kernel
theorem dX0_at_9 : decode cX0_at 9 = .ok (.if_icmp .ge 21, 3) := by decide +kernel
theorem dX0_at_12 : decode cX0_at 12 = .ok (.iload_n 1, 1) := by decide +kernel
theorem dX0_at_13 : decode cX0_at 13 = .ok (.aload_n 0, 1) := by decide +kernel
theorem dX0_at_14 : decode cX0_at 14 = .ok (.getfield 9, 3) := by decide +kernel
theorem dX0_at_17 : decode cX0_at 17 = .ok (.arraylength, 1) := by decide +kernel
theorem dX0_at_18 : decode cX0_at 18 = .ok (.if_icmp .ge 12, 3) := by decide +kernel
theorem dX0_at_21 : decode cX0_at 21 = .ok (.aload_n 0, 1) := by decide +kernel
theorem dX0_at_22 : decode cX0_at 22 = .ok (.getfield 9, 3) := by decide +kernel
theorem dX0_at_25 : decode cX0_at 25 = .ok (.iload_n 1, 1) := by decide +kernel
theorem dX0_at_26 : decode cX0_at 26 = .ok (.iaload, 1) := by decide +kernel
theorem dX0_at_27 : decode cX0_at 27 = .ok (.goto 4, 3) := by decide +kernel
theorem dX0_at_30 : decode cX0_at 30 = .ok (.iconst (-1), 1) := by decide +kernel
theorem dX0_at_31 : decode cX0_at 31 = .ok (.ireturn, 1) := by decide +kernel
theorem dX0_startAnew_0 : decode cX0_startAnew 0 = .ok (.aload_n 0, 1) := by decide +kernel
theorem dX0_startAnew_1 : decode cX0_startAnew 1 = .ok (.getfield 9, 3) := by decide +kernel
theorem dX0_startAnew_4 : decode cX0_startAnew 4 = .ok (.iconst 0, 1) := by decide +kernel
theorem dX0_startAnew_5 : decode cX0_startAnew 5 = .ok (.iconst 0, 1) := by decide +kernel
theorem dX0_startAnew_6 : decode cX0_startAnew 6 = .ok (.iastore, 1) := by decide +kernel
theorem dX0_startAnew_7 : decode cX0_startAnew 7 = .ok (.aload_n 0, 1) := by decide +kernel
theorem dX0_startAnew_8 : decode cX0_startAnew 8 = .ok (.iconst 1, 1) := by decide +kernel
theorem dX0_startAnew_9 : decode cX0_startAnew 9 = .ok (.putfield 18, 3) := by decide +kernel
theorem dX0_startAnew_12 : decode cX0_startAnew 12 = .ok (.aload_n 0, 1) := by decide +kernel
theorem dX0_startAnew_13 : decode cX0_startAnew 13 = .ok (.iconst 0, 1) := by decide +kernel
theorem dX0_startAnew_14 : decode cX0_startAnew 14 = .ok (.putfield 22, 3) := by decide +kernel
theorem dX0_startAnew_17 : decode cX0_startAnew 17 = .ok (.return_, 1) := by decide +kernel
theorem dX0_addTopic_0 : decode cX0_addTopic 0 = .ok (.aload_n 0, 1) := by decide +kernel
theorem dX0_addTopic_1 : decode cX0_addTopic 1 = .ok (.getfield 18, 3) := by decide +kernel
theorem dX0_addTopic_4 : decode cX0_addTopic 4 = .ok (.istore_n 3, 1) := by decide +kernel
theorem dX0_addTopic_5 : decode cX0_addTopic 5 = .ok (.iconst 0, 1) := by decide +kernel
theorem dX0_addTopic_6 : decode cX0_addTopic 6 = .ok (.istore 4, 2) := by decide +kernel
theorem dX0_addTopic_8 : decode cX0_addTopic 8 = .ok (.iload 4, 2) := by decide +kernel
theorem dX0_addTopic_10 : decode cX0_addTopic 10 = .ok (.iload_n 3, 1) := by decide +kernel
theorem dX0_addTopic_11 : decode cX0_addTopic 11 = .ok (.if_icmp .ge 64, 3) := by decide +kernel
theorem dX0_addTopic_14 : decode cX0_addTopic 14 = .ok (.aload_n 0, 1) := by decide +kernel
theorem dX0_addTopic_15 : decode cX0_addTopic 15 = .ok (.getfield 18, 3) := by decide +kernel
theorem dX0_addTopic_18 : decode cX0_addTopic 18 = .ok (.aload_n 0, 1) := by decide +kernel
theorem dX0_addTopic_19 : decode cX0_addTopic 19 = .ok (.getfield 9, 3) := by decide +kernel
theorem dX0_addTopic_22 : decode cX0_addTopic 22 = .ok (.arraylength, 1) := by decide +kernel
theorem dX0_addTopic_23 : decode cX0_addTopic 23 = .ok (.if_icmp .ge 52, 3) := by decide +kernel
theorem dX0_addTopic_26 : decode cX0_addTopic 26 = .ok (.aload_n 0, 1) := by decide +kernel
theorem dX0_addTopic_27 : decode cX0_addTopic 27 = .ok (.getfield 9, 3) := by decide +kernel
theorem dX0_addTopic_30 : decode cX0_addTopic 30 = .ok (.iload 4, 2) := by decide +kernel
theorem dX0_addTopic_32 : decode cX0_addTopic 32 = .ok (.iaload, 1) := by decide +kernel
theorem dX0_addTopic_33 : decode cX0_addTopic 33 = .ok (.iload_n 2, 1) := by decide +kernel
theorem dX0_addTopic_34 : decode cX0_addTopic 34 = .ok (.iand, 1) := by decide +kernel
theorem dX0_addTopic_35 : decode cX0_addTopic 35 = .ok (.iload_n 2, 1) := by decide +kernel
theorem dX0_addTopic_36 : decode cX0_addTopic 36 = .ok (.if_icmp .ne 33, 3) := by decide +kernel
theorem dX0_addTopic_39 : decode cX0_addTopic 39 = .ok (.aload_n 0, 1) := by decide +kernel
theorem dX0_addTopic_40 : decode cX0_addTopic 40 = .ok (.getfield 9, 3) := by decide +kernel
theorem dX0_addTopic_43 : decode cX0_addTopic 43 = .ok (.aload_n 0, 1) := by decide +kernel
theorem dX0_addTopic_44 : decode cX0_addTopic 44 = .ok (.getfield 18, 3) := by decide +kernel
theorem dX0_addTopic_47 : decode cX0_addTopic 47 = .ok (.aload_n 0, 1) := by decide +kernel
theorem dX0_addTopic_48 : decode cX0_addTopic 48 = .ok (.getfield 9, 3) := by decide +kernel
theorem dX0_addTopic_51 : decode cX0_addTopic 51 = .ok (.iload 4, 2) := by decide +kernel
theorem dX0_addTopic_53 : decode cX0_addTopic 53 = .ok (.iaload, 1) := by decide +kernel
theorem dX0_addTopic_54 : decode cX0_addTopic 54 = .ok (.iconst 1, 1) := by decide +kernel
theorem dX0_addTopic_55 : decode cX0_addTopic 55 = .ok (.iload_n 1, 1) := by decide +kernel
theorem dX0_addTopic_56 : decode cX0_addTopic 56 = .ok (.ishl, 1) := by decide +kernel
theorem dX0_addTopic_57 : decode cX0_addTopic 57 = .ok (.ior, 1) := by decide +kernel
theorem dX0_addTopic_58 : decode cX0_addTopic 58 = .ok (.iastore, 1) := by decide +kernel
theorem dX0_addTopic_59 : decode cX0_addTopic 59 = .ok (.aload_n 0, 1) := by decide +kernel
theorem dX0_addTopic_60 : decode cX0_addTopic 60 = .ok (.dup, 1) := by decide +kernel
theorem dX0_addTopic_61 : decode cX0_addTopic 61 = .ok (.getfield 18, 3) := by decide +kernel
theorem dX0_addTopic_64 : decode cX0_addTopic 64 = .ok (.iconst 1, 1) := by decide +kernel
theorem dX0_addTopic_65 : decode cX0_addTopic 65 = .ok (.iadd, 1) := by decide +kernel
theorem dX0_addTopic_66 : decode cX0_addTopic 66 = .ok (.putfield 18, 3) := by decide +kernel
theorem dX0_addTopic_69 : decode cX0_addTopic 69 = .ok (.iinc 4 1, 3) := by decide +kernel
theorem dX0_addTopic_72 : decode cX0_addTopic 72 = .ok (.goto (-64), 3) := by decide +kernel
theorem dX0_addTopic_75 : decode cX0_addTopic 75 = .ok (.return_, 1) := by decide +kernel
set_option maxRecDepth 20000 in
theorem ggX0_accept_X0_countHaving : GoodIn wsX0_accept wsX0_countHaving := goodIn_r _ [7, 8, 9, 10, 11] (by decide +kernel) (by decide +kernel)
set_option maxRecDepth 20000 in
theorem gX0_accept_X0_countHaving : GoodIn wsX0_accept (va_wsS RX0 25 yX0_countHaving wsX0_countHaving) := goodIn_app (goodIn_of _ (by decide +kernel)) ggX0_accept_X0_countHaving
set_option maxRecDepth 20000 in
theorem ggX0_accept_X0_keep : GoodIn wsX0_accept wsX0_keep := goodIn_r _ [15, 2, 1, 16, 17, 6, 18, 19, 20, 21, 22] (by decide +kernel) (by decide +kernel)
set_option maxRecDepth 20000 in
theorem gX0_accept_X0_keep : GoodIn wsX0_accept (wsV RX0 29 RX0 yX0_keep wsX0_keep) := goodIn_app (goodIn_of _ (by decide +kernel)) ggX0_accept_X0_keep
theorem dX0_accept_0 : decode cX0_accept 0 = .ok (.aload_n 0, 1) := by decide +kernel
theorem dX0_accept_1 : decode cX0_accept 1 = .ok (.getfield 9, 3) := by decide +kernel
theorem dX0_accept_4 : decode cX0_accept 4 = .ok (.iconst 0, 1) := by decide +kernel
theorem dX0_accept_5 : decode cX0_accept 5 = .ok (.aload_n 0, 1) := by decide +kernel
theorem dX0_accept_6 : decode cX0_accept 6 = .ok (.getfield 18, 3) := by decide +kernel
theorem dX0_accept_9 : decode cX0_accept 9 = .ok (.iload_n 1, 1) := by decide +kernel
theorem dX0_accept_10 : decode cX0_accept 10 = .ok (.invokestatic 25, 3) := by decide +kernel
theorem dX0_accept_13 : decode cX0_accept 13 = .ok (.istore_n 3, 1) := by decide +kernel
theorem dX0_accept_14 : decode cX0_accept 14 = .ok (.iload_n 2, 1) := by decide +kernel
theorem dX0_accept_15 : decode cX0_accept 15 = .ok (.ifCond .eq 7, 3) := by decide +kernel
theorem dX0_accept_18 : decode cX0_accept 18 = .ok (.iload_n 3, 1) := by decide +kernel
theorem dX0_accept_19 : decode cX0_accept 19 = .ok (.goto 9, 3) := by decide +kernel
theorem dX0_accept_22 : decode cX0_accept 22 = .ok (.aload_n 0, 1) := by decide +kernel
theorem dX0_accept_23 : decode cX0_accept 23 = .ok (.getfield 18, 3) := by decide +kernel
theorem dX0_accept_26 : decode cX0_accept 26 = .ok (.iload_n 3, 1) := by decide +kernel
theorem dX0_accept_27 : decode cX0_accept 27 = .ok (.isub, 1) := by decide +kernel
theorem dX0_accept_28 : decode cX0_accept 28 = .ok (.istore 4, 2) := by decide +kernel
theorem dX0_accept_30 : decode cX0_accept 30 = .ok (.aload_n 0, 1) := by decide +kernel
theorem dX0_accept_31 : decode cX0_accept 31 = .ok (.getfield 22, 3) := by decide +kernel
theorem dX0_accept_34 : decode cX0_accept 34 = .ok (.iload_n 1, 1) := by decide +kernel
theorem dX0_accept_35 : decode cX0_accept 35 = .ok (.ishr, 1) := by decide +kernel
theorem dX0_accept_36 : decode cX0_accept 36 = .ok (.iconst 1, 1) := by decide +kernel
theorem dX0_accept_37 : decode cX0_accept 37 = .ok (.iand, 1) := by decide +kernel
theorem dX0_accept_38 : decode cX0_accept 38 = .ok (.iconst 1, 1) := by decide +kernel
theorem dX0_accept_39 : decode cX0_accept 39 = .ok (.if_icmp .eq 8, 3) := by decide +kernel
theorem dX0_accept_42 : decode cX0_accept 42 = .ok (.iload 4, 2) := by decide +kernel
theorem dX0_accept_44 : decode cX0_accept 44 = .ok (.ifCond .ne 5, 3) := by decide +kernel
theorem dX0_accept_47 : decode cX0_accept 47 = .ok (.iconst (-1), 1) := by decide +kernel
theorem dX0_accept_48 : decode cX0_accept 48 = .ok (.ireturn, 1) := by decide +kernel
theorem dX0_accept_49 : decode cX0_accept 49 = .ok (.aload_n 0, 1) := by decide +kernel
theorem dX0_accept_50 : decode cX0_accept 50 = .ok (.dup, 1) := by decide +kernel
theorem dX0_accept_51 : decode cX0_accept 51 = .ok (.getfield 22, 3) := by decide +kernel
theorem dX0_accept_54 : decode cX0_accept 54 = .ok (.iconst 1, 1) := by decide +kernel
theorem dX0_accept_55 : decode cX0_accept 55 = .ok (.iload_n 1, 1) := by decide +kernel
theorem dX0_accept_56 : decode cX0_accept 56 = .ok (.ishl, 1) := by decide +kernel
theorem dX0_accept_57 : decode cX0_accept 57 = .ok (.ior, 1) := by decide +kernel
theorem dX0_accept_58 : decode cX0_accept 58 = .ok (.putfield 22, 3) := by decide +kernel
theorem dX0_accept_61 : decode cX0_accept 61 = .ok (.aload_n 0, 1) := by decide +kernel
theorem dX0_accept_62 : decode cX0_accept 62 = .ok (.iload_n 1, 1) := by decide +kernel
theorem dX0_accept_63 : decode cX0_accept 63 = .ok (.iload_n 2, 1) := by decide +kernel
theorem dX0_accept_64 : decode cX0_accept 64 = .ok (.invokevirtual 29, 3) := by decide +kernel
theorem dX0_accept_67 : decode cX0_accept 67 = .ok (.aload_n 0, 1) := by decide +kernel
theorem dX0_accept_68 : decode cX0_accept 68 = .ok (.getfield 18, 3) := by decide +kernel
theorem dX0_accept_71 : decode cX0_accept 71 = .ok (.ireturn, 1) := by decide +kernel
set_option maxRecDepth 20000 in
theorem ggX0_keep_X0_has : GoodIn wsX0_keep wsX0_has := goodIn_r _ [6] (by decide +kernel) (by decide +kernel)
set_option maxRecDepth 20000 in
theorem gX0_keep_X0_has : GoodIn wsX0_keep (va_wsS RX0 33 yX0_has wsX0_has) := goodIn_app (goodIn_of _ (by decide +kernel)) ggX0_keep_X0_has
theorem dX0_keep_0 : decode cX0_keep 0 = .ok (.iconst 0, 1) := by decide +kernel
theorem dX0_keep_1 : decode cX0_keep 1 = .ok (.istore_n 3, 1) := by decide +kernel
theorem dX0_keep_2 : decode cX0_keep 2 = .ok (.iconst 0, 1) := by decide +kernel
theorem dX0_keep_3 : decode cX0_keep 3 = .ok (.istore 4, 2) := by decide +kernel
theorem dX0_keep_5 : decode cX0_keep 5 = .ok (.iload 4, 2) := by decide +kernel
theorem dX0_keep_7 : decode cX0_keep 7 = .ok (.aload_n 0, 1) := by decide +kernel
theorem dX0_keep_8 : decode cX0_keep 8 = .ok (.getfield 18, 3) := by decide +kernel
theorem dX0_keep_11 : decode cX0_keep 11 = .ok (.if_icmp .ge 50, 3) := by decide +kernel
theorem dX0_keep_14 : decode cX0_keep 14 = .ok (.iload 4, 2) := by decide +kernel
theorem dX0_keep_16 : decode cX0_keep 16 = .ok (.aload_n 0, 1) := by decide +kernel
theorem dX0_keep_17 : decode cX0_keep 17 = .ok (.getfield 9, 3) := by decide +kernel
theorem dX0_keep_20 : decode cX0_keep 20 = .ok (.arraylength, 1) := by decide +kernel
theorem dX0_keep_21 : decode cX0_keep 21 = .ok (.if_icmp .ge 40, 3) := by decide +kernel
theorem dX0_keep_24 : decode cX0_keep 24 = .ok (.aload_n 0, 1) := by decide +kernel
theorem dX0_keep_25 : decode cX0_keep 25 = .ok (.getfield 9, 3) := by decide +kernel
theorem dX0_keep_28 : decode cX0_keep 28 = .ok (.iload 4, 2) := by decide +kernel
theorem dX0_keep_30 : decode cX0_keep 30 = .ok (.iaload, 1) := by decide +kernel
theorem dX0_keep_31 : decode cX0_keep 31 = .ok (.iload_n 1, 1) := by decide +kernel
theorem dX0_keep_32 : decode cX0_keep 32 = .ok (.invokestatic 33, 3) := by decide +kernel
theorem dX0_keep_35 : decode cX0_keep 35 = .ok (.iload_n 2, 1) := by decide +kernel
theorem dX0_keep_36 : decode cX0_keep 36 = .ok (.if_icmp .ne 19, 3) := by decide +kernel
theorem dX0_keep_39 : decode cX0_keep 39 = .ok (.aload_n 0, 1) := by decide +kernel
theorem dX0_keep_40 : decode cX0_keep 40 = .ok (.getfield 9, 3) := by decide +kernel
theorem dX0_keep_43 : decode cX0_keep 43 = .ok (.iload_n 3, 1) := by decide +kernel
theorem dX0_keep_44 : decode cX0_keep 44 = .ok (.aload_n 0, 1) := by decide +kernel
theorem dX0_keep_45 : decode cX0_keep 45 = .ok (.getfield 9, 3) := by decide +kernel
theorem dX0_keep_48 : decode cX0_keep 48 = .ok (.iload 4, 2) := by decide +kernel
theorem dX0_keep_50 : decode cX0_keep 50 = .ok (.iaload, 1) := by decide +kernel
theorem dX0_keep_51 : decode cX0_keep 51 = .ok (.iastore, 1) := by decide +kernel
theorem dX0_keep_52 : decode cX0_keep 52 = .ok (.iinc 3 1, 3) := by decide +kernel
theorem dX0_keep_55 : decode cX0_keep 55 = .ok (.iinc 4 1, 3) := by decide +kernel
theorem dX0_keep_58 : decode cX0_keep 58 = .ok (.goto (-53), 3) := by decide +kernel
theorem dX0_keep_61 : decode cX0_keep 61 = .ok (.aload_n 0, 1) := by decide +kernel
theorem dX0_keep_62 : decode cX0_keep 62 = .ok (.iload_n 3, 1) := by decide +kernel
theorem dX0_keep_63 : decode cX0_keep 63 = .ok (.putfield 18, 3) := by decide +kernel
theorem dX0_keep_66 : decode cX0_keep 66 = .ok (.return_, 1) := by decide +kernel
theorem dX0_inCommon_0 : decode cX0_inCommon 0 = .ok (.sipush 4095, 3) := by decide +kernel
theorem dX0_inCommon_3 : decode cX0_inCommon 3 = .ok (.istore_n 1, 1) := by decide +kernel
theorem dX0_inCommon_4 : decode cX0_inCommon 4 = .ok (.iconst 0, 1) := by decide +kernel
theorem dX0_inCommon_5 : decode cX0_inCommon 5 = .ok (.istore_n 2, 1) := by decide +kernel
theorem dX0_inCommon_6 : decode cX0_inCommon 6 = .ok (.iload_n 2, 1) := by decide +kernel
theorem dX0_inCommon_7 : decode cX0_inCommon 7 = .ok (.aload_n 0, 1) := by decide +kernel
theorem dX0_inCommon_8 : decode cX0_inCommon 8 = .ok (.getfield 18, 3) := by decide +kernel
theorem dX0_inCommon_11 : decode cX0_inCommon 11 = .ok (.if_icmp .ge 27, 3) := by decide +kernel
theorem dX0_inCommon_14 : decode cX0_inCommon 14 = .ok (.iload_n 2, 1) := by decide +kernel
theorem dX0_inCommon_15 : decode cX0_inCommon 15 = .ok (.aload_n 0, 1) := by decide +kernel
theorem dX0_inCommon_16 : decode cX0_inCommon 16 = .ok (.getfield 9, 3) := by decide +kernel
theorem dX0_inCommon_19 : decode cX0_inCommon 19 = .ok (.arraylength, 1) := by decide +kernel
theorem dX0_inCommon_20 : decode cX0_inCommon 20 = .ok (.if_icmp .ge 18, 3) := by decide +kernel
theorem dX0_inCommon_23 : decode cX0_inCommon 23 = .ok (.iload_n 1, 1) := by decide +kernel
theorem dX0_inCommon_24 : decode cX0_inCommon 24 = .ok (.aload_n 0, 1) := by decide +kernel
theorem dX0_inCommon_25 : decode cX0_inCommon 25 = .ok (.getfield 9, 3) := by decide +kernel
theorem dX0_inCommon_28 : decode cX0_inCommon 28 = .ok (.iload_n 2, 1) := by decide +kernel
theorem dX0_inCommon_29 : decode cX0_inCommon 29 = .ok (.iaload, 1) := by decide +kernel
theorem dX0_inCommon_30 : decode cX0_inCommon 30 = .ok (.iand, 1) := by decide +kernel
theorem dX0_inCommon_31 : decode cX0_inCommon 31 = .ok (.istore_n 1, 1) := by decide +kernel
theorem dX0_inCommon_32 : decode cX0_inCommon 32 = .ok (.iinc 2 1, 3) := by decide +kernel
theorem dX0_inCommon_35 : decode cX0_inCommon 35 = .ok (.goto (-29), 3) := by decide +kernel
theorem dX0_inCommon_38 : decode cX0_inCommon 38 = .ok (.iload_n 1, 1) := by decide +kernel
theorem dX0_inCommon_39 : decode cX0_inCommon 39 = .ok (.ireturn, 1) := by decide +kernel
set_option maxRecDepth 20000 in
theorem ggX0_nextQuestion_X0_bestTopic : GoodIn wsX0_nextQuestion wsX0_bestTopic := goodIn_r _ [6, 7, 8, 9, 10, 11, 12, 5, 13] (by decide +kernel) (by decide +kernel)
set_option maxRecDepth 20000 in
theorem gX0_nextQuestion_X0_bestTopic : GoodIn wsX0_nextQuestion (va_wsS RX0 37 yX0_bestTopic wsX0_bestTopic) := goodIn_app (goodIn_of _ (by decide +kernel)) ggX0_nextQuestion_X0_bestTopic
theorem dX0_nextQuestion_0 : decode cX0_nextQuestion 0 = .ok (.aload_n 0, 1) := by decide +kernel
theorem dX0_nextQuestion_1 : decode cX0_nextQuestion 1 = .ok (.getfield 9, 3) := by decide +kernel
theorem dX0_nextQuestion_4 : decode cX0_nextQuestion 4 = .ok (.iconst 0, 1) := by decide +kernel
theorem dX0_nextQuestion_5 : decode cX0_nextQuestion 5 = .ok (.aload_n 0, 1) := by decide +kernel
theorem dX0_nextQuestion_6 : decode cX0_nextQuestion 6 = .ok (.getfield 18, 3) := by decide +kernel
theorem dX0_nextQuestion_9 : decode cX0_nextQuestion 9 = .ok (.invokestatic 37, 3) := by decide +kernel
theorem dX0_nextQuestion_12 : decode cX0_nextQuestion 12 = .ok (.ireturn, 1) := by decide +kernel
set_option maxRecDepth 20000 in
theorem ggX0_mostQuestions_X0_questionsUntilOne : GoodIn wsX0_mostQuestions wsX0_questionsUntilOne := goodIn_r _ [7, 8, 9, 10, 11, 12, 13, 6, 14, 15, 16, 17, 18, 19, 20, 21, 22, 23, 4, 5] (by decide +kernel) (by decide +kernel)
set_option maxRecDepth 20000 in
theorem gX0_mostQuestions_X0_questionsUntilOne : GoodIn wsX0_mostQuestions (va_wsS RX0 41 yX0_questionsUntilOne wsX0_questionsUntilOne) := goodIn_app (goodIn_of _ (by decide +kernel)) ggX0_mostQuestions_X0_questionsUntilOne
theorem dX0_mostQuestions_0 : decode cX0_mostQuestions 0 = .ok (.aload_n 0, 1) := by decide +kernel
theorem dX0_mostQuestions_1 : decode cX0_mostQuestions 1 = .ok (.getfield 18, 3) := by decide +kernel
theorem dX0_mostQuestions_4 : decode cX0_mostQuestions 4 = .ok (.aload_n 0, 1) := by decide +kernel
theorem dX0_mostQuestions_5 : decode cX0_mostQuestions 5 = .ok (.getfield 15, 3) := by decide +kernel
theorem dX0_mostQuestions_8 : decode cX0_mostQuestions 8 = .ok (.arraylength, 1) := by decide +kernel
theorem dX0_mostQuestions_9 : decode cX0_mostQuestions 9 = .ok (.if_icmp .le 5, 3) := by decide +kernel
theorem dX0_mostQuestions_12 : decode cX0_mostQuestions 12 = .ok (.iconst (-1), 1) := by decide +kernel
theorem dX0_mostQuestions_13 : decode cX0_mostQuestions 13 = .ok (.ireturn, 1) := by decide +kernel
theorem dX0_mostQuestions_14 : decode cX0_mostQuestions 14 = .ok (.iconst 0, 1) := by decide +kernel
theorem dX0_mostQuestions_15 : decode cX0_mostQuestions 15 = .ok (.istore_n 1, 1) := by decide +kernel
theorem dX0_mostQuestions_16 : decode cX0_mostQuestions 16 = .ok (.iload_n 1, 1) := by decide +kernel
theorem dX0_mostQuestions_17 : decode cX0_mostQuestions 17 = .ok (.aload_n 0, 1) := by decide +kernel
theorem dX0_mostQuestions_18 : decode cX0_mostQuestions 18 = .ok (.getfield 18, 3) := by decide +kernel
theorem dX0_mostQuestions_21 : decode cX0_mostQuestions 21 = .ok (.if_icmp .ge 30, 3) := by decide +kernel
theorem dX0_mostQuestions_24 : decode cX0_mostQuestions 24 = .ok (.iload_n 1, 1) := by decide +kernel
theorem dX0_mostQuestions_25 : decode cX0_mostQuestions 25 = .ok (.aload_n 0, 1) := by decide +kernel
theorem dX0_mostQuestions_26 : decode cX0_mostQuestions 26 = .ok (.getfield 9, 3) := by decide +kernel
theorem dX0_mostQuestions_29 : decode cX0_mostQuestions 29 = .ok (.arraylength, 1) := by decide +kernel
theorem dX0_mostQuestions_30 : decode cX0_mostQuestions 30 = .ok (.if_icmp .ge 21, 3) := by decide +kernel
theorem dX0_mostQuestions_33 : decode cX0_mostQuestions 33 = .ok (.aload_n 0, 1) := by decide +kernel
theorem dX0_mostQuestions_34 : decode cX0_mostQuestions 34 = .ok (.getfield 15, 3) := by decide +kernel
theorem dX0_mostQuestions_37 : decode cX0_mostQuestions 37 = .ok (.iload_n 1, 1) := by decide +kernel
theorem dX0_mostQuestions_38 : decode cX0_mostQuestions 38 = .ok (.aload_n 0, 1) := by decide +kernel
theorem dX0_mostQuestions_39 : decode cX0_mostQuestions 39 = .ok (.getfield 9, 3) := by decide +kernel
theorem dX0_mostQuestions_42 : decode cX0_mostQuestions 42 = .ok (.iload_n 1, 1) := by decide +kernel
theorem dX0_mostQuestions_43 : decode cX0_mostQuestions 43 = .ok (.iaload, 1) := by decide +kernel
theorem dX0_mostQuestions_44 : decode cX0_mostQuestions 44 = .ok (.iastore, 1) := by decide +kernel
theorem dX0_mostQuestions_45 : decode cX0_mostQuestions 45 = .ok (.iinc 1 1, 3) := by decide +kernel
theorem dX0_mostQuestions_48 : decode cX0_mostQuestions 48 = .ok (.goto (-32), 3) := by decide +kernel
theorem dX0_mostQuestions_51 : decode cX0_mostQuestions 51 = .ok (.aload_n 0, 1) := by decide +kernel
theorem dX0_mostQuestions_52 : decode cX0_mostQuestions 52 = .ok (.getfield 15, 3) := by decide +kernel
theorem dX0_mostQuestions_55 : decode cX0_mostQuestions 55 = .ok (.iconst 0, 1) := by decide +kernel
theorem dX0_mostQuestions_56 : decode cX0_mostQuestions 56 = .ok (.aload_n 0, 1) := by decide +kernel
theorem dX0_mostQuestions_57 : decode cX0_mostQuestions 57 = .ok (.getfield 18, 3) := by decide +kernel
theorem dX0_mostQuestions_60 : decode cX0_mostQuestions 60 = .ok (.iconst 0, 1) := by decide +kernel
theorem dX0_mostQuestions_61 : decode cX0_mostQuestions 61 = .ok (.invokestatic 41, 3) := by decide +kernel
theorem dX0_mostQuestions_64 : decode cX0_mostQuestions 64 = .ok (.ireturn, 1) := by decide +kernel
set_option maxRecDepth 20000 in
theorem ggX0_questionsUntilOne_X0_bestTopic : GoodIn wsX0_questionsUntilOne wsX0_bestTopic := goodIn_r _ [8, 1, 2, 3, 4, 9, 10, 7, 11] (by decide +kernel) (by decide +kernel)
set_option maxRecDepth 20000 in
theorem gX0_questionsUntilOne_X0_bestTopic : GoodIn wsX0_questionsUntilOne (va_wsS RX0 37 yX0_bestTopic wsX0_bestTopic) := goodIn_app (goodIn_of _ (by decide +kernel)) ggX0_questionsUntilOne_X0_bestTopic
set_option maxRecDepth 20000 in
theorem ggX0_questionsUntilOne_X0_split : GoodIn wsX0_questionsUntilOne wsX0_split := goodIn_r _ [14, 1, 2, 3, 4, 15, 16, 7, 17] (by decide +kernel) (by decide +kernel)
set_option maxRecDepth 20000 in
theorem gX0_questionsUntilOne_X0_split : GoodIn wsX0_questionsUntilOne (va_wsS RX0 44 yX0_split wsX0_split) := goodIn_app (goodIn_of _ (by decide +kernel)) ggX0_questionsUntilOne_X0_split
set_option maxRecDepth 20000 in
theorem ggX0_questionsUntilOne_X0_questionsUntilOne : GoodIn wsX0_questionsUntilOne wsX0_questionsUntilOne := goodIn_r _ [0, 1, 2, 3, 4, 5, 6, 7, 8, 9, 10, 11, 12, 13, 14, 15, 16, 17, 18, 19] (by decide +kernel) (by decide +kernel)
set_option maxRecDepth 20000 in
theorem gX0_questionsUntilOne_X0_questionsUntilOne : GoodIn wsX0_questionsUntilOne (va_wsS RX0 41 yX0_questionsUntilOne wsX0_questionsUntilOne) := goodIn_app (goodIn_of _ (by decide +kernel)) ggX0_questionsUntilOne_X0_questionsUntilOne
theorem dX0_questionsUntilOne_0 : decode cX0_questionsUntilOne 0 = .ok (.aload_n 0, 1) := by decide +kernel
theorem dX0_questionsUntilOne_1 : decode cX0_questionsUntilOne 1 = .ok (.iload_n 1, 1) := by decide +kernel
theorem dX0_questionsUntilOne_2 : decode cX0_questionsUntilOne 2 = .ok (.iload_n 2, 1) := by decide +kernel
theorem dX0_questionsUntilOne_3 : decode cX0_questionsUntilOne 3 = .ok (.invokestatic 37, 3) := by decide +kernel
theorem dX0_questionsUntilOne_6 : decode cX0_questionsUntilOne 6 = .ok (.istore 4, 2) := by decide +kernel
theorem dX0_questionsUntilOne_8 : decode cX0_questionsUntilOne 8 = .ok (.iload 4, 2) := by decide +kernel
theorem dX0_questionsUntilOne_10 : decode cX0_questionsUntilOne 10 = .ok (.iconst (-1), 1) := by decide +kernel
theorem dX0_questionsUntilOne_11 : decode cX0_questionsUntilOne 11 = .ok (.if_icmp .eq 9, 3) := by decide +kernel
theorem dX0_questionsUntilOne_14 : decode cX0_questionsUntilOne 14 = .ok (.iload_n 3, 1) := by decide +kernel
theorem dX0_questionsUntilOne_15 : decode cX0_questionsUntilOne 15 = .ok (.bipush 12, 2) := by decide +kernel
theorem dX0_questionsUntilOne_17 : decode cX0_questionsUntilOne 17 = .ok (.if_icmp .lt 5, 3) := by decide +kernel
theorem dX0_questionsUntilOne_20 : decode cX0_questionsUntilOne 20 = .ok (.iconst 0, 1) := by decide +kernel
theorem dX0_questionsUntilOne_21 : decode cX0_questionsUntilOne 21 = .ok (.ireturn, 1) := by decide +kernel
theorem dX0_questionsUntilOne_22 : decode cX0_questionsUntilOne 22 = .ok (.aload_n 0, 1) := by decide +kernel
theorem dX0_questionsUntilOne_23 : decode cX0_questionsUntilOne 23 = .ok (.iload_n 1, 1) := by decide +kernel
theorem dX0_questionsUntilOne_24 : decode cX0_questionsUntilOne 24 = .ok (.iload_n 2, 1) := by decide +kernel
theorem dX0_questionsUntilOne_25 : decode cX0_questionsUntilOne 25 = .ok (.iload 4, 2) := by decide +kernel
theorem dX0_questionsUntilOne_27 : decode cX0_questionsUntilOne 27 = .ok (.invokestatic 44, 3) := by decide +kernel
theorem dX0_questionsUntilOne_30 : decode cX0_questionsUntilOne 30 = .ok (.istore 5, 2) := by decide +kernel
theorem dX0_questionsUntilOne_32 : decode cX0_questionsUntilOne 32 = .ok (.aload_n 0, 1) := by decide +kernel
theorem dX0_questionsUntilOne_33 : decode cX0_questionsUntilOne 33 = .ok (.iload_n 1, 1) := by decide +kernel
theorem dX0_questionsUntilOne_34 : decode cX0_questionsUntilOne 34 = .ok (.iload 5, 2) := by decide +kernel
theorem dX0_questionsUntilOne_36 : decode cX0_questionsUntilOne 36 = .ok (.iload_n 3, 1) := by decide +kernel
theorem dX0_questionsUntilOne_37 : decode cX0_questionsUntilOne 37 = .ok (.iconst 1, 1) := by decide +kernel
theorem dX0_questionsUntilOne_38 : decode cX0_questionsUntilOne 38 = .ok (.iadd, 1) := by decide +kernel
theorem dX0_questionsUntilOne_39 : decode cX0_questionsUntilOne 39 = .ok (.invokestatic 41, 3) := by decide +kernel
theorem dX0_questionsUntilOne_42 : decode cX0_questionsUntilOne 42 = .ok (.istore 6, 2) := by decide +kernel
theorem dX0_questionsUntilOne_44 : decode cX0_questionsUntilOne 44 = .ok (.aload_n 0, 1) := by decide +kernel
theorem dX0_questionsUntilOne_45 : decode cX0_questionsUntilOne 45 = .ok (.iload 5, 2) := by decide +kernel
theorem dX0_questionsUntilOne_47 : decode cX0_questionsUntilOne 47 = .ok (.iload_n 2, 1) := by decide +kernel
theorem dX0_questionsUntilOne_48 : decode cX0_questionsUntilOne 48 = .ok (.iload_n 3, 1) := by decide +kernel
theorem dX0_questionsUntilOne_49 : decode cX0_questionsUntilOne 49 = .ok (.iconst 1, 1) := by decide +kernel
theorem dX0_questionsUntilOne_50 : decode cX0_questionsUntilOne 50 = .ok (.iadd, 1) := by decide +kernel
theorem dX0_questionsUntilOne_51 : decode cX0_questionsUntilOne 51 = .ok (.invokestatic 41, 3) := by decide +kernel
theorem dX0_questionsUntilOne_54 : decode cX0_questionsUntilOne 54 = .ok (.istore 7, 2) := by decide +kernel
theorem dX0_questionsUntilOne_56 : decode cX0_questionsUntilOne 56 = .ok (.iconst 1, 1) := by decide +kernel
theorem dX0_questionsUntilOne_57 : decode cX0_questionsUntilOne 57 = .ok (.iload 6, 2) := by decide +kernel
theorem dX0_questionsUntilOne_59 : decode cX0_questionsUntilOne 59 = .ok (.iload 7, 2) := by decide +kernel
theorem dX0_questionsUntilOne_61 : decode cX0_questionsUntilOne 61 = .ok (.invokestatic 47, 3) := by decide +kernel
theorem dX0_questionsUntilOne_64 : decode cX0_questionsUntilOne 64 = .ok (.iadd, 1) := by decide +kernel
theorem dX0_questionsUntilOne_65 : decode cX0_questionsUntilOne 65 = .ok (.ireturn, 1) := by decide +kernel
set_option maxRecDepth 20000 in
theorem ggX0_bestTopic_X0_countHaving : GoodIn wsX0_bestTopic wsX0_countHaving := goodIn_r _ [8, 1, 2, 3, 4] (by decide +kernel) (by decide +kernel)
set_option maxRecDepth 20000 in
theorem gX0_bestTopic_X0_countHaving : GoodIn wsX0_bestTopic (va_wsS RX0 25 yX0_countHaving wsX0_countHaving) := goodIn_app (goodIn_of _ (by decide +kernel)) ggX0_bestTopic_X0_countHaving
theorem dX0_bestTopic_0 : decode cX0_bestTopic 0 = .ok (.iconst (-1), 1) := by decide +kernel
theorem dX0_bestTopic_1 : decode cX0_bestTopic 1 = .ok (.istore_n 3, 1) := by decide +kernel
theorem dX0_bestTopic_2 : decode cX0_bestTopic 2 = .ok (.iload_n 2, 1) := by decide +kernel
theorem dX0_bestTopic_3 : decode cX0_bestTopic 3 = .ok (.iload_n 1, 1) := by decide +kernel
theorem dX0_bestTopic_4 : decode cX0_bestTopic 4 = .ok (.isub, 1) := by decide +kernel
theorem dX0_bestTopic_5 : decode cX0_bestTopic 5 = .ok (.istore 4, 2) := by decide +kernel
theorem dX0_bestTopic_7 : decode cX0_bestTopic 7 = .ok (.iconst 0, 1) := by decide +kernel
theorem dX0_bestTopic_8 : decode cX0_bestTopic 8 = .ok (.istore 5, 2) := by decide +kernel
theorem dX0_bestTopic_10 : decode cX0_bestTopic 10 = .ok (.iload 5, 2) := by decide +kernel
theorem dX0_bestTopic_12 : decode cX0_bestTopic 12 = .ok (.bipush 12, 2) := by decide +kernel
theorem dX0_bestTopic_14 : decode cX0_bestTopic 14 = .ok (.if_icmp .ge 46, 3) := by decide +kernel
theorem dX0_bestTopic_17 : decode cX0_bestTopic 17 = .ok (.aload_n 0, 1) := by decide +kernel
theorem dX0_bestTopic_18 : decode cX0_bestTopic 18 = .ok (.iload_n 1, 1) := by decide +kernel
theorem dX0_bestTopic_19 : decode cX0_bestTopic 19 = .ok (.iload_n 2, 1) := by decide +kernel
theorem dX0_bestTopic_20 : decode cX0_bestTopic 20 = .ok (.iload 5, 2) := by decide +kernel
theorem dX0_bestTopic_22 : decode cX0_bestTopic 22 = .ok (.invokestatic 25, 3) := by decide +kernel
theorem dX0_bestTopic_25 : decode cX0_bestTopic 25 = .ok (.istore 6, 2) := by decide +kernel
theorem dX0_bestTopic_27 : decode cX0_bestTopic 27 = .ok (.iload 6, 2) := by decide +kernel
theorem dX0_bestTopic_29 : decode cX0_bestTopic 29 = .ok (.iload_n 2, 1) := by decide +kernel
theorem dX0_bestTopic_30 : decode cX0_bestTopic 30 = .ok (.iload_n 1, 1) := by decide +kernel
theorem dX0_bestTopic_31 : decode cX0_bestTopic 31 = .ok (.isub, 1) := by decide +kernel
theorem dX0_bestTopic_32 : decode cX0_bestTopic 32 = .ok (.iload 6, 2) := by decide +kernel
theorem dX0_bestTopic_34 : decode cX0_bestTopic 34 = .ok (.isub, 1) := by decide +kernel
theorem dX0_bestTopic_35 : decode cX0_bestTopic 35 = .ok (.invokestatic 47, 3) := by decide +kernel
theorem dX0_bestTopic_38 : decode cX0_bestTopic 38 = .ok (.istore 7, 2) := by decide +kernel
theorem dX0_bestTopic_40 : decode cX0_bestTopic 40 = .ok (.iload 7, 2) := by decide +kernel
theorem dX0_bestTopic_42 : decode cX0_bestTopic 42 = .ok (.iload 4, 2) := by decide +kernel
theorem dX0_bestTopic_44 : decode cX0_bestTopic 44 = .ok (.if_icmp .ge 10, 3) := by decide +kernel
theorem dX0_bestTopic_47 : decode cX0_bestTopic 47 = .ok (.iload 5, 2) := by decide +kernel
theorem dX0_bestTopic_49 : decode cX0_bestTopic 49 = .ok (.istore_n 3, 1) := by decide +kernel
theorem dX0_bestTopic_50 : decode cX0_bestTopic 50 = .ok (.iload 7, 2) := by decide +kernel
theorem dX0_bestTopic_52 : decode cX0_bestTopic 52 = .ok (.istore 4, 2) := by decide +kernel
theorem dX0_bestTopic_54 : decode cX0_bestTopic 54 = .ok (.iinc 5 1, 3) := by decide +kernel
theorem dX0_bestTopic_57 : decode cX0_bestTopic 57 = .ok (.goto (-47), 3) := by decide +kernel
theorem dX0_bestTopic_60 : decode cX0_bestTopic 60 = .ok (.iload_n 3, 1) := by decide +kernel
theorem dX0_bestTopic_61 : decode cX0_bestTopic 61 = .ok (.ireturn, 1) := by decide +kernel
theorem dX0_countHaving_0 : decode cX0_countHaving 0 = .ok (.iconst 0, 1) := by decide +kernel
theorem dX0_countHaving_1 : decode cX0_countHaving 1 = .ok (.istore 4, 2) := by decide +kernel
theorem dX0_countHaving_3 : decode cX0_countHaving 3 = .ok (.iload_n 1, 1) := by decide +kernel
theorem dX0_countHaving_4 : decode cX0_countHaving 4 = .ok (.iconst 0, 1) := by decide +kernel
theorem dX0_countHaving_5 : decode cX0_countHaving 5 = .ok (.invokestatic 47, 3) := by decide +kernel
theorem dX0_countHaving_8 : decode cX0_countHaving 8 = .ok (.istore 5, 2) := by decide +kernel
theorem dX0_countHaving_10 : decode cX0_countHaving 10 = .ok (.iload 5, 2) := by decide +kernel
theorem dX0_countHaving_12 : decode cX0_countHaving 12 = .ok (.iload_n 2, 1) := by decide +kernel
theorem dX0_countHaving_13 : decode cX0_countHaving 13 = .ok (.if_icmp .ge 29, 3) := by decide +kernel
theorem dX0_countHaving_16 : decode cX0_countHaving 16 = .ok (.iload 5, 2) := by decide +kernel
theorem dX0_countHaving_18 : decode cX0_countHaving 18 = .ok (.aload_n 0, 1) := by decide +kernel
theorem dX0_countHaving_19 : decode cX0_countHaving 19 = .ok (.arraylength, 1) := by decide +kernel
theorem dX0_countHaving_20 : decode cX0_countHaving 20 = .ok (.if_icmp .ge 22, 3) := by decide +kernel
theorem dX0_countHaving_23 : decode cX0_countHaving 23 = .ok (.iload 4, 2) := by decide +kernel
theorem dX0_countHaving_25 : decode cX0_countHaving 25 = .ok (.aload_n 0, 1) := by decide +kernel
theorem dX0_countHaving_26 : decode cX0_countHaving 26 = .ok (.iload 5, 2) := by decide +kernel
theorem dX0_countHaving_28 : decode cX0_countHaving 28 = .ok (.iaload, 1) := by decide +kernel
theorem dX0_countHaving_29 : decode cX0_countHaving 29 = .ok (.iload_n 3, 1) := by decide +kernel
theorem dX0_countHaving_30 : decode cX0_countHaving 30 = .ok (.ishr, 1) := by decide +kernel
theorem dX0_countHaving_31 : decode cX0_countHaving 31 = .ok (.iconst 1, 1) := by decide +kernel
theorem dX0_countHaving_32 : decode cX0_countHaving 32 = .ok (.iand, 1) := by decide +kernel
theorem dX0_countHaving_33 : decode cX0_countHaving 33 = .ok (.iadd, 1) := by decide +kernel
theorem dX0_countHaving_34 : decode cX0_countHaving 34 = .ok (.istore 4, 2) := by decide +kernel
theorem dX0_countHaving_36 : decode cX0_countHaving 36 = .ok (.iinc 5 1, 3) := by decide +kernel
theorem dX0_countHaving_39 : decode cX0_countHaving 39 = .ok (.goto (-29), 3) := by decide +kernel
theorem dX0_countHaving_42 : decode cX0_countHaving 42 = .ok (.iload 4, 2) := by decide +kernel
theorem dX0_countHaving_44 : decode cX0_countHaving 44 = .ok (.ireturn, 1) := by decide +kernel
set_option maxRecDepth 20000 in
theorem ggX0_split_X0_has : GoodIn wsX0_split wsX0_has := goodIn_r _ [8] (by decide +kernel) (by decide +kernel)
set_option maxRecDepth 20000 in
theorem gX0_split_X0_has : GoodIn wsX0_split (va_wsS RX0 33 yX0_has wsX0_has) := goodIn_app (goodIn_of _ (by decide +kernel)) ggX0_split_X0_has
theorem dX0_split_0 : decode cX0_split 0 = .ok (.iload_n 1, 1) := by decide +kernel
theorem dX0_split_1 : decode cX0_split 1 = .ok (.iconst 0, 1) := by decide +kernel
theorem dX0_split_2 : decode cX0_split 2 = .ok (.invokestatic 47, 3) := by decide +kernel
theorem dX0_split_5 : decode cX0_split 5 = .ok (.istore 4, 2) := by decide +kernel
theorem dX0_split_7 : decode cX0_split 7 = .ok (.iload 4, 2) := by decide +kernel
theorem dX0_split_9 : decode cX0_split 9 = .ok (.istore 5, 2) := by decide +kernel
theorem dX0_split_11 : decode cX0_split 11 = .ok (.iload 5, 2) := by decide +kernel
theorem dX0_split_13 : decode cX0_split 13 = .ok (.iload_n 2, 1) := by decide +kernel
theorem dX0_split_14 : decode cX0_split 14 = .ok (.if_icmp .ge 48, 3) := by decide +kernel
theorem dX0_split_17 : decode cX0_split 17 = .ok (.iload 5, 2) := by decide +kernel
theorem dX0_split_19 : decode cX0_split 19 = .ok (.aload_n 0, 1) := by decide +kernel
theorem dX0_split_20 : decode cX0_split 20 = .ok (.arraylength, 1) := by decide +kernel
theorem dX0_split_21 : decode cX0_split 21 = .ok (.if_icmp .ge 41, 3) := by decide +kernel
theorem dX0_split_24 : decode cX0_split 24 = .ok (.aload_n 0, 1) := by decide +kernel
theorem dX0_split_25 : decode cX0_split 25 = .ok (.iload 5, 2) := by decide +kernel
theorem dX0_split_27 : decode cX0_split 27 = .ok (.iaload, 1) := by decide +kernel
theorem dX0_split_28 : decode cX0_split 28 = .ok (.istore 6, 2) := by decide +kernel
theorem dX0_split_30 : decode cX0_split 30 = .ok (.iload 6, 2) := by decide +kernel
theorem dX0_split_32 : decode cX0_split 32 = .ok (.iload_n 3, 1) := by decide +kernel
theorem dX0_split_33 : decode cX0_split 33 = .ok (.invokestatic 33, 3) := by decide +kernel
theorem dX0_split_36 : decode cX0_split 36 = .ok (.ifCond .ne 20, 3) := by decide +kernel
theorem dX0_split_39 : decode cX0_split 39 = .ok (.aload_n 0, 1) := by decide +kernel
theorem dX0_split_40 : decode cX0_split 40 = .ok (.iload 5, 2) := by decide +kernel
theorem dX0_split_42 : decode cX0_split 42 = .ok (.aload_n 0, 1) := by decide +kernel
theorem dX0_split_43 : decode cX0_split 43 = .ok (.iload 4, 2) := by decide +kernel
theorem dX0_split_45 : decode cX0_split 45 = .ok (.iaload, 1) := by decide +kernel
theorem dX0_split_46 : decode cX0_split 46 = .ok (.iastore, 1) := by decide +kernel
theorem dX0_split_47 : decode cX0_split 47 = .ok (.aload_n 0, 1) := by decide +kernel
theorem dX0_split_48 : decode cX0_split 48 = .ok (.iload 4, 2) := by decide +kernel
theorem dX0_split_50 : decode cX0_split 50 = .ok (.iload 6, 2) := by decide +kernel
theorem dX0_split_52 : decode cX0_split 52 = .ok (.iastore, 1) := by decide +kernel
theorem dX0_split_53 : decode cX0_split 53 = .ok (.iinc 4 1, 3) := by decide +kernel
theorem dX0_split_56 : decode cX0_split 56 = .ok (.iinc 5 1, 3) := by decide +kernel
theorem dX0_split_59 : decode cX0_split 59 = .ok (.goto (-48), 3) := by decide +kernel
theorem dX0_split_62 : decode cX0_split 62 = .ok (.iload 4, 2) := by decide +kernel
theorem dX0_split_64 : decode cX0_split 64 = .ok (.ireturn, 1) := by decide +kernel
theorem dX0_has_0 : decode cX0_has 0 = .ok (.iload_n 0, 1) := by decide +kernel
theorem dX0_has_1 : decode cX0_has 1 = .ok (.iload_n 1, 1) := by decide +kernel
theorem dX0_has_2 : decode cX0_has 2 = .ok (.ishr, 1) := by decide +kernel
theorem dX0_has_3 : decode cX0_has 3 = .ok (.iconst 1, 1) := by decide +kernel
theorem dX0_has_4 : decode cX0_has 4 = .ok (.iand, 1) := by decide +kernel
theorem dX0_has_5 : decode cX0_has 5 = .ok (.iconst 1, 1) := by decide +kernel
theorem dX0_has_6 : decode cX0_has 6 = .ok (.if_icmp .ne 7, 3) := by decide +kernel
theorem dX0_has_9 : decode cX0_has 9 = .ok (.iconst 1, 1) := by decide +kernel
theorem dX0_has_10 : decode cX0_has 10 = .ok (.goto 4, 3) := by decide +kernel
theorem dX0_has_13 : decode cX0_has 13 = .ok (.iconst 0, 1) := by decide +kernel
theorem dX0_has_14 : decode cX0_has 14 = .ok (.ireturn, 1) := by decide +kernel
theorem dX1_init_0 : decode cX1_init 0 = .ok (.aload_n 0, 1) := by decide +kernel
theorem dX1_init_1 : decode cX1_init 1 = .ok (.invokespecial 1, 3) := by decide +kernel
theorem dX1_init_4 : decode cX1_init 4 = .ok (.aload_n 0, 1) := by decide +kernel
theorem dX1_init_5 : decode cX1_init 5 = .ok (.iload_n 1, 1) := by decide +kernel
theorem dX1_init_6 : decode cX1_init 6 = .ok (.putfield 7, 3) := by decide +kernel
theorem dX1_init_9 : decode cX1_init 9 = .ok (.aload_n 0, 1) := by decide +kernel
theorem dX1_init_10 : decode cX1_init 10 = .ok (.iload_n 2, 1) := by decide +kernel
theorem dX1_init_11 : decode cX1_init 11 = .ok (.putfield 13, 3) := by decide +kernel
theorem dX1_init_14 : decode cX1_init 14 = .ok (.aload_n 0, 1) := by decide +kernel
theorem dX1_init_15 : decode cX1_init 15 = .ok (.iload_n 3, 1) := by decide +kernel
theorem dX1_init_16 : decode cX1_init 16 = .ok (.putfield 16, 3) := by decide +kernel
theorem dX1_init_19 : decode cX1_init 19 = .ok (.aload_n 0, 1) := by decide +kernel
theorem dX1_init_20 : decode cX1_init 20 = .ok (.iload 4, 2) := by decide +kernel
theorem dX1_init_22 : decode cX1_init 22 = .ok (.putfield 19, 3) := by decide +kernel
theorem dX1_init_25 : decode cX1_init 25 = .ok (.aload_n 0, 1) := by decide +kernel
theorem dX1_init_26 : decode cX1_init 26 = .ok (.iload 5, 2) := by decide +kernel
theorem dX1_init_28 : decode cX1_init 28 = .ok (.putfield 22, 3) := by decide +kernel
theorem dX1_init_31 : decode cX1_init 31 = .ok (.return_, 1) := by decide +kernel
theorem dX1_isOpenTo_0 : decode cX1_isOpenTo 0 = .ok (.iload_n 1, 1) := by decide +kernel
theorem dX1_isOpenTo_1 : decode cX1_isOpenTo 1 = .ok (.aload_n 0, 1) := by decide +kernel
theorem dX1_isOpenTo_2 : decode cX1_isOpenTo 2 = .ok (.getfield 7, 3) := by decide +kernel
theorem dX1_isOpenTo_5 : decode cX1_isOpenTo 5 = .ok (.iand, 1) := by decide +kernel
theorem dX1_isOpenTo_6 : decode cX1_isOpenTo 6 = .ok (.aload_n 0, 1) := by decide +kernel
theorem dX1_isOpenTo_7 : decode cX1_isOpenTo 7 = .ok (.getfield 7, 3) := by decide +kernel
theorem dX1_isOpenTo_10 : decode cX1_isOpenTo 10 = .ok (.if_icmp .ne 23, 3) := by decide +kernel
theorem dX1_isOpenTo_13 : decode cX1_isOpenTo 13 = .ok (.aload_n 0, 1) := by decide +kernel
theorem dX1_isOpenTo_14 : decode cX1_isOpenTo 14 = .ok (.getfield 13, 3) := by decide +kernel
theorem dX1_isOpenTo_17 : decode cX1_isOpenTo 17 = .ok (.ifCond .eq 12, 3) := by decide +kernel
theorem dX1_isOpenTo_20 : decode cX1_isOpenTo 20 = .ok (.iload_n 1, 1) := by decide +kernel
theorem dX1_isOpenTo_21 : decode cX1_isOpenTo 21 = .ok (.aload_n 0, 1) := by decide +kernel
theorem dX1_isOpenTo_22 : decode cX1_isOpenTo 22 = .ok (.getfield 13, 3) := by decide +kernel
theorem dX1_isOpenTo_25 : decode cX1_isOpenTo 25 = .ok (.iand, 1) := by decide +kernel
theorem dX1_isOpenTo_26 : decode cX1_isOpenTo 26 = .ok (.ifCond .eq 7, 3) := by decide +kernel
theorem dX1_isOpenTo_29 : decode cX1_isOpenTo 29 = .ok (.iconst 1, 1) := by decide +kernel
theorem dX1_isOpenTo_30 : decode cX1_isOpenTo 30 = .ok (.goto 4, 3) := by decide +kernel
theorem dX1_isOpenTo_33 : decode cX1_isOpenTo 33 = .ok (.iconst 0, 1) := by decide +kernel
theorem dX1_isOpenTo_34 : decode cX1_isOpenTo 34 = .ok (.ireturn, 1) := by decide +kernel
theorem dX1_needed_0 : decode cX1_needed 0 = .ok (.aload_n 0, 1) := by decide +kernel
theorem dX1_needed_1 : decode cX1_needed 1 = .ok (.getfield 7, 3) := by decide +kernel
theorem dX1_needed_4 : decode cX1_needed 4 = .ok (.ireturn, 1) := by decide +kernel
theorem dX1_brings_0 : decode cX1_brings 0 = .ok (.iload_n 1, 1) := by decide +kernel
theorem dX1_brings_1 : decode cX1_brings 1 = .ok (.ifCond .eq 10, 3) := by decide +kernel
theorem dX1_brings_4 : decode cX1_brings 4 = .ok (.aload_n 0, 1) := by decide +kernel
theorem dX1_brings_5 : decode cX1_brings 5 = .ok (.getfield 19, 3) := by decide +kernel
theorem dX1_brings_8 : decode cX1_brings 8 = .ok (.goto 7, 3) := by decide +kernel
theorem dX1_brings_11 : decode cX1_brings 11 = .ok (.aload_n 0, 1) := by decide +kernel
theorem dX1_brings_12 : decode cX1_brings 12 = .ok (.getfield 16, 3) := by decide +kernel
theorem dX1_brings_15 : decode cX1_brings 15 = .ok (.ireturn, 1) := by decide +kernel
theorem dX1_minutesAt_0 : decode cX1_minutesAt 0 = .ok (.aload_n 0, 1) := by decide +kernel
theorem dX1_minutesAt_1 : decode cX1_minutesAt 1 = .ok (.getfield 22, 3) := by decide +kernel
theorem dX1_minutesAt_4 : decode cX1_minutesAt 4 = .ok (.iload_n 1, 1) := by decide +kernel
theorem dX1_minutesAt_5 : decode cX1_minutesAt 5 = .ok (.imul, 1) := by decide +kernel
theorem dX1_minutesAt_6 : decode cX1_minutesAt 6 = .ok (.istore_n 3, 1) := by decide +kernel
theorem dX1_minutesAt_7 : decode cX1_minutesAt 7 = .ok (.iload_n 2, 1) := by decide +kernel
theorem dX1_minutesAt_8 : decode cX1_minutesAt 8 = .ok (.ifCond .eq 11, 3) := by decide +kernel
theorem dX1_minutesAt_11 : decode cX1_minutesAt 11 = .ok (.iload_n 3, 1) := by decide +kernel
theorem dX1_minutesAt_12 : decode cX1_minutesAt 12 = .ok (.iconst 2, 1) := by decide +kernel
theorem dX1_minutesAt_13 : decode cX1_minutesAt 13 = .ok (.iadd, 1) := by decide +kernel
theorem dX1_minutesAt_14 : decode cX1_minutesAt 14 = .ok (.iconst 3, 1) := by decide +kernel
theorem dX1_minutesAt_15 : decode cX1_minutesAt 15 = .ok (.idiv, 1) := by decide +kernel
theorem dX1_minutesAt_16 : decode cX1_minutesAt 16 = .ok (.goto 4, 3) := by decide +kernel
theorem dX1_minutesAt_19 : decode cX1_minutesAt 19 = .ok (.iload_n 3, 1) := by decide +kernel
theorem dX1_minutesAt_20 : decode cX1_minutesAt 20 = .ok (.ireturn, 1) := by decide +kernel
theorem dX2_init_0 : decode cX2_init 0 = .ok (.aload_n 0, 1) := by decide +kernel
theorem dX2_init_1 : decode cX2_init 1 = .ok (.invokespecial 3, 3) := by decide +kernel
theorem dX2_init_4 : decode cX2_init 4 = .ok (.aload_n 0, 1) := by decide +kernel
theorem dX2_init_5 : decode cX2_init 5 = .ok (.bipush 12, 2) := by decide +kernel
theorem dX2_init_7 : decode cX2_init 7 = .ok (.newarray .int, 2) := by decide +kernel
theorem dX2_init_9 : decode cX2_init 9 = .ok (.putfield 9, 3) := by decide +kernel
theorem dX2_init_12 : decode cX2_init 12 = .ok (.aload_n 0, 1) := by decide +kernel
theorem dX2_init_13 : decode cX2_init 13 = .ok (.iconst 0, 1) := by decide +kernel
theorem dX2_init_14 : decode cX2_init 14 = .ok (.putfield 15, 3) := by decide +kernel
theorem dX2_init_17 : decode cX2_init 17 = .ok (.return_, 1) := by decide +kernel
theorem dX2_size_0 : decode cX2_size 0 = .ok (.aload_n 0, 1) := by decide +kernel
theorem dX2_size_1 : decode cX2_size 1 = .ok (.getfield 15, 3) := by decide +kernel
theorem dX2_size_4 : decode cX2_size 4 = .ok (.ireturn, 1) := by decide +kernel
theorem dX2_at_0 : decode cX2_at 0 = .ok (.iload_n 1, 1) := by decide +kernel
theorem dX2_at_1 : decode cX2_at 1 = .ok (.ifCond .lt 29, 3) := by decide +kernel
theorem dX2_at_4 : decode cX2_at 4 = .ok (.iload_n 1, 1) := by decide +kernel
theorem dX2_at_5 : decode cX2_at 5 = .ok (.aload_n 0, 1) := by decide +kernel
theorem dX2_at_6 : decode cX2_at 6 = .ok (.getfield 15, 3) := by decide +kernel
theorem dX2_at_9 : decode cX2_at 9 = .ok (.if_icmp .ge 21, 3) := by decide +kernel
theorem dX2_at_12 : decode cX2_at 12 = .ok (.iload_n 1, 1) := by decide +kernel
theorem dX2_at_13 : decode cX2_at 13 = .ok (.aload_n 0, 1) := by decide +kernel
theorem dX2_at_14 : decode cX2_at 14 = .ok (.getfield 9, 3) := by decide +kernel
theorem dX2_at_17 : decode cX2_at 17 = .ok (.arraylength, 1) := by decide +kernel
theorem dX2_at_18 : decode cX2_at 18 = .ok (.if_icmp .ge 12, 3) := by decide +kernel
theorem dX2_at_21 : decode cX2_at 21 = .ok (.aload_n 0, 1) := by decide +kernel
theorem dX2_at_22 : decode cX2_at 22 = .ok (.getfield 9, 3) := by decide +kernel
theorem dX2_at_25 : decode cX2_at 25 = .ok (.iload_n 1, 1) := by decide +kernel
theorem dX2_at_26 : decode cX2_at 26 = .ok (.iaload, 1) := by decide +kernel
theorem dX2_at_27 : decode cX2_at 27 = .ok (.goto 4, 3) := by decide +kernel
theorem dX2_at_30 : decode cX2_at 30 = .ok (.iconst (-1), 1) := by decide +kernel
theorem dX2_at_31 : decode cX2_at 31 = .ok (.ireturn, 1) := by decide +kernel
theorem dX2_clear_0 : decode cX2_clear 0 = .ok (.aload_n 0, 1) := by decide +kernel
theorem dX2_clear_1 : decode cX2_clear 1 = .ok (.iconst 0, 1) := by decide +kernel
theorem dX2_clear_2 : decode cX2_clear 2 = .ok (.putfield 15, 3) := by decide +kernel
theorem dX2_clear_5 : decode cX2_clear 5 = .ok (.return_, 1) := by decide +kernel
theorem dX2_add_0 : decode cX2_add 0 = .ok (.aload_n 0, 1) := by decide +kernel
theorem dX2_add_1 : decode cX2_add 1 = .ok (.getfield 15, 3) := by decide +kernel
theorem dX2_add_4 : decode cX2_add 4 = .ok (.ifCond .lt 35, 3) := by decide +kernel
theorem dX2_add_7 : decode cX2_add 7 = .ok (.aload_n 0, 1) := by decide +kernel
theorem dX2_add_8 : decode cX2_add 8 = .ok (.getfield 15, 3) := by decide +kernel
theorem dX2_add_11 : decode cX2_add 11 = .ok (.aload_n 0, 1) := by decide +kernel
theorem dX2_add_12 : decode cX2_add 12 = .ok (.getfield 9, 3) := by decide +kernel
theorem dX2_add_15 : decode cX2_add 15 = .ok (.arraylength, 1) := by decide +kernel
theorem dX2_add_16 : decode cX2_add 16 = .ok (.if_icmp .ge 23, 3) := by decide +kernel
theorem dX2_add_19 : decode cX2_add 19 = .ok (.aload_n 0, 1) := by decide +kernel
theorem dX2_add_20 : decode cX2_add 20 = .ok (.getfield 9, 3) := by decide +kernel
theorem dX2_add_23 : decode cX2_add 23 = .ok (.aload_n 0, 1) := by decide +kernel
theorem dX2_add_24 : decode cX2_add 24 = .ok (.getfield 15, 3) := by decide +kernel
theorem dX2_add_27 : decode cX2_add 27 = .ok (.iload_n 1, 1) := by decide +kernel
theorem dX2_add_28 : decode cX2_add 28 = .ok (.iastore, 1) := by decide +kernel
theorem dX2_add_29 : decode cX2_add 29 = .ok (.aload_n 0, 1) := by decide +kernel
theorem dX2_add_30 : decode cX2_add 30 = .ok (.dup, 1) := by decide +kernel
theorem dX2_add_31 : decode cX2_add 31 = .ok (.getfield 15, 3) := by decide +kernel
theorem dX2_add_34 : decode cX2_add 34 = .ok (.iconst 1, 1) := by decide +kernel
theorem dX2_add_35 : decode cX2_add 35 = .ok (.iadd, 1) := by decide +kernel
theorem dX2_add_36 : decode cX2_add 36 = .ok (.putfield 15, 3) := by decide +kernel
theorem dX2_add_39 : decode cX2_add 39 = .ok (.return_, 1) := by decide +kernel
set_option maxRecDepth 20000 in
theorem ggX2_become_X2_clear : GoodIn wsX2_become wsX2_clear := goodIn_r _ [5, 6, 20, 21] (by decide +kernel) (by decide +kernel)
set_option maxRecDepth 20000 in
theorem gX2_become_X2_clear : GoodIn wsX2_become (wsV RX2 19 RX2 yX2_clear wsX2_clear) := goodIn_app (goodIn_of _ (by decide +kernel)) ggX2_become_X2_clear
set_option maxRecDepth 20000 in
theorem ggX2_become_X2_size : GoodIn wsX2_become wsX2_size := goodIn_r _ [10, 6, 20, 21] (by decide +kernel) (by decide +kernel)
set_option maxRecDepth 20000 in
theorem gX2_become_X2_size : GoodIn wsX2_become (wsV RX2 22 RX2 yX2_size wsX2_size) := goodIn_app (goodIn_of _ (by decide +kernel)) ggX2_become_X2_size
set_option maxRecDepth 20000 in
theorem ggX2_become_X2_at : GoodIn wsX2_become wsX2_at := goodIn_r _ [14, 6, 15, 20, 21] (by decide +kernel) (by decide +kernel)
set_option maxRecDepth 20000 in
theorem gX2_become_X2_at : GoodIn wsX2_become (wsV RX2 26 RX2 yX2_at wsX2_at) := goodIn_app (goodIn_of _ (by decide +kernel)) ggX2_become_X2_at
set_option maxRecDepth 20000 in
theorem ggX2_become_X2_add : GoodIn wsX2_become wsX2_add := goodIn_r _ [19, 6, 15, 20, 21] (by decide +kernel) (by decide +kernel)
set_option maxRecDepth 20000 in
theorem gX2_become_X2_add : GoodIn wsX2_become (wsV RX2 30 RX2 yX2_add wsX2_add) := goodIn_app (goodIn_of _ (by decide +kernel)) ggX2_become_X2_add
theorem dX2_become_0 : decode cX2_become 0 = .ok (.aload_n 0, 1) := by decide +kernel
theorem dX2_become_1 : decode cX2_become 1 = .ok (.invokevirtual 19, 3) := by decide +kernel
theorem dX2_become_4 : decode cX2_become 4 = .ok (.iconst 0, 1) := by decide +kernel
theorem dX2_become_5 : decode cX2_become 5 = .ok (.istore_n 2, 1) := by decide +kernel
theorem dX2_become_6 : decode cX2_become 6 = .ok (.iload_n 2, 1) := by decide +kernel
theorem dX2_become_7 : decode cX2_become 7 = .ok (.aload_n 1, 1) := by decide +kernel
theorem dX2_become_8 : decode cX2_become 8 = .ok (.invokevirtual 22, 3) := by decide +kernel
theorem dX2_become_11 : decode cX2_become 11 = .ok (.if_icmp .ge 18, 3) := by decide +kernel
theorem dX2_become_14 : decode cX2_become 14 = .ok (.aload_n 0, 1) := by decide +kernel
theorem dX2_become_15 : decode cX2_become 15 = .ok (.aload_n 1, 1) := by decide +kernel
theorem dX2_become_16 : decode cX2_become 16 = .ok (.iload_n 2, 1) := by decide +kernel
theorem dX2_become_17 : decode cX2_become 17 = .ok (.invokevirtual 26, 3) := by decide +kernel
theorem dX2_become_20 : decode cX2_become 20 = .ok (.invokevirtual 30, 3) := by decide +kernel
theorem dX2_become_23 : decode cX2_become 23 = .ok (.iinc 2 1, 3) := by decide +kernel
theorem dX2_become_26 : decode cX2_become 26 = .ok (.goto (-20), 3) := by decide +kernel
theorem dX2_become_29 : decode cX2_become 29 = .ok (.return_, 1) := by decide +kernel
set_option maxRecDepth 20000 in
theorem ggX3_init_Jx4a65c_init_da8c8 : GoodIn wsX3_init wsJx4a65c_init_da8c8 := goodIn_r _ [11, 12, 13, 14, 15, 16, 17, 18, 19, 20, 21, 22, 23, 2, 3, 24, 25, 26] (by decide +kernel) (by decide +kernel)
set_option maxRecDepth 20000 in
theorem gX3_init_Jx4a65c_init_da8c8 : GoodIn wsX3_init (wsJx4a65c_init_da8c8) := ggX3_init_Jx4a65c_init_da8c8
theorem dX3_init_0 : decode cX3_init 0 = .ok (.aload_n 0, 1) := by decide +kernel
theorem dX3_init_1 : decode cX3_init 1 = .ok (.invokespecial 3, 3) := by decide +kernel
theorem dX3_init_4 : decode cX3_init 4 = .ok (.aload_n 0, 1) := by decide +kernel
theorem dX3_init_5 : decode cX3_init 5 = .ok (.new 9, 3) := by decide +kernel
theorem dX3_init_8 : decode cX3_init 8 = .ok (.dup, 1) := by decide +kernel
theorem dX3_init_9 : decode cX3_init 9 = .ok (.invokespecial 11, 3) := by decide +kernel
theorem dX3_init_12 : decode cX3_init 12 = .ok (.putfield 12, 3) := by decide +kernel
theorem dX3_init_15 : decode cX3_init 15 = .ok (.aload_n 0, 1) := by decide +kernel
theorem dX3_init_16 : decode cX3_init 16 = .ok (.iconst 2, 1) := by decide +kernel
theorem dX3_init_17 : decode cX3_init 17 = .ok (.putfield 18, 3) := by decide +kernel
theorem dX3_init_20 : decode cX3_init 20 = .ok (.return_, 1) := by decide +kernel
set_option maxRecDepth 20000 in
theorem ggX3_size_Jx4a65c_size_8abf5 : GoodIn wsX3_size wsJx4a65c_size_8abf5 := goodIn_r _ [6, 7, 10, 11, 12] (by decide +kernel) (by decide +kernel)
set_option maxRecDepth 20000 in
theorem gX3_size_Jx4a65c_size_8abf5_f22Jx4a65c : GoodIn wsX3_size (va_wsF RX3 22 RJx4a65c ⟨"java/util/List", "size", "()I"⟩ yJx4a65c_size_8abf5 wsJx4a65c_size_8abf5) := goodIn_app (goodIn_of _ (by decide +kernel)) ggX3_size_Jx4a65c_size_8abf5
theorem dX3_size_0 : decode cX3_size 0 = .ok (.aload_n 0, 1) := by decide +kernel
theorem dX3_size_1 : decode cX3_size 1 = .ok (.getfield 12, 3) := by decide +kernel
theorem dX3_size_4 : decode cX3_size 4 = .ok (.invokeinterface 22 1, 5) := by decide +kernel
theorem dX3_size_9 : decode cX3_size 9 = .ok (.ireturn, 1) := by decide +kernel
theorem dX3_currentPace_0 : decode cX3_currentPace 0 = .ok (.aload_n 0, 1) := by decide +kernel
theorem dX3_currentPace_1 : decode cX3_currentPace 1 = .ok (.getfield 18, 3) := by decide +kernel
theorem dX3_currentPace_4 : decode cX3_currentPace 4 = .ok (.ireturn, 1) := by decide +kernel
theorem dX3_changePace_0 : decode cX3_changePace 0 = .ok (.aload_n 0, 1) := by decide +kernel
theorem dX3_changePace_1 : decode cX3_changePace 1 = .ok (.getfield 18, 3) := by decide +kernel
theorem dX3_changePace_4 : decode cX3_changePace 4 = .ok (.istore_n 2, 1) := by decide +kernel
theorem dX3_changePace_5 : decode cX3_changePace 5 = .ok (.aload_n 0, 1) := by decide +kernel
theorem dX3_changePace_6 : decode cX3_changePace 6 = .ok (.iload_n 1, 1) := by decide +kernel
theorem dX3_changePace_7 : decode cX3_changePace 7 = .ok (.putfield 18, 3) := by decide +kernel
theorem dX3_changePace_10 : decode cX3_changePace 10 = .ok (.iload_n 2, 1) := by decide +kernel
theorem dX3_changePace_11 : decode cX3_changePace 11 = .ok (.ireturn, 1) := by decide +kernel
set_option maxRecDepth 20000 in
theorem ggX3_add_Jx4a65c_size_8abf5 : GoodIn wsX3_add wsJx4a65c_size_8abf5 := goodIn_r _ [6, 7, 64, 65, 66] (by decide +kernel) (by decide +kernel)
set_option maxRecDepth 20000 in
theorem gX3_add_Jx4a65c_size_8abf5_f22Jx4a65c : GoodIn wsX3_add (va_wsF RX3 22 RJx4a65c ⟨"java/util/List", "size", "()I"⟩ yJx4a65c_size_8abf5 wsJx4a65c_size_8abf5) := goodIn_app (goodIn_of _ (by decide +kernel)) ggX3_add_Jx4a65c_size_8abf5
set_option maxRecDepth 20000 in
theorem ggX3_add_Jx4a65c_add_9ea2d : GoodIn wsX3_add wsJx4a65c_add_9ea2d := goodIn_r _ [11, 12, 13, 14, 7, 15, 16, 17, 5, 18, 19, 20, 21, 22, 23, 24, 25, 26, 27, 28, 29, 30, 31, 32, 33, 34, 35, 36, 37, 38, 39, 40, 41, 42, 43, 44, 45, 46, 47, 48, 49, 50, 51, 52, 53, 54, 55, 56, 57, 58, 59, 60, 61, 64, 65, 66] (by decide +kernel) (by decide +kernel)
set_option maxRecDepth 20000 in
theorem gX3_add_Jx4a65c_add_9ea2d_f28Jx4a65c : GoodIn wsX3_add (va_wsF RX3 28 RJx4a65c ⟨"java/util/List", "add", "(Ljava/lang/Object;)Z"⟩ yJx4a65c_add_9ea2d wsJx4a65c_add_9ea2d) := goodIn_app (goodIn_of _ (by decide +kernel)) ggX3_add_Jx4a65c_add_9ea2d
theorem dX3_add_0 : decode cX3_add 0 = .ok (.aload_n 0, 1) := by decide +kernel
theorem dX3_add_1 : decode cX3_add 1 = .ok (.getfield 12, 3) := by decide +kernel
theorem dX3_add_4 : decode cX3_add 4 = .ok (.invokeinterface 22 1, 5) := by decide +kernel
theorem dX3_add_9 : decode cX3_add 9 = .ok (.bipush 14, 2) := by decide +kernel
theorem dX3_add_11 : decode cX3_add 11 = .ok (.if_icmp .lt 5, 3) := by decide +kernel
theorem dX3_add_14 : decode cX3_add 14 = .ok (.iconst (-1), 1) := by decide +kernel
theorem dX3_add_15 : decode cX3_add 15 = .ok (.ireturn, 1) := by decide +kernel
theorem dX3_add_16 : decode cX3_add 16 = .ok (.aload_n 0, 1) := by decide +kernel
theorem dX3_add_17 : decode cX3_add 17 = .ok (.getfield 12, 3) := by decide +kernel
theorem dX3_add_20 : decode cX3_add 20 = .ok (.aload_n 1, 1) := by decide +kernel
theorem dX3_add_21 : decode cX3_add 21 = .ok (.invokeinterface 28 2, 5) := by decide +kernel
theorem dX3_add_26 : decode cX3_add 26 = .ok (.pop, 1) := by decide +kernel
theorem dX3_add_27 : decode cX3_add 27 = .ok (.aload_n 0, 1) := by decide +kernel
theorem dX3_add_28 : decode cX3_add 28 = .ok (.getfield 12, 3) := by decide +kernel
theorem dX3_add_31 : decode cX3_add 31 = .ok (.invokeinterface 22 1, 5) := by decide +kernel
theorem dX3_add_36 : decode cX3_add 36 = .ok (.iconst 1, 1) := by decide +kernel
theorem dX3_add_37 : decode cX3_add 37 = .ok (.isub, 1) := by decide +kernel
theorem dX3_add_38 : decode cX3_add 38 = .ok (.ireturn, 1) := by decide +kernel
set_option maxRecDepth 20000 in
theorem ggX3_removeLast_Jx4a65c_isEmpty_aae02 : GoodIn wsX3_removeLast wsJx4a65c_isEmpty_aae02 := goodIn_r _ [6, 7, 37, 38, 39] (by decide +kernel) (by decide +kernel)
set_option maxRecDepth 20000 in
theorem gX3_removeLast_Jx4a65c_isEmpty_aae02_f32Jx4a65c : GoodIn wsX3_removeLast (va_wsF RX3 32 RJx4a65c ⟨"java/util/List", "isEmpty", "()Z"⟩ yJx4a65c_isEmpty_aae02 wsJx4a65c_isEmpty_aae02) := goodIn_app (goodIn_of _ (by decide +kernel)) ggX3_removeLast_Jx4a65c_isEmpty_aae02
set_option maxRecDepth 20000 in
theorem ggX3_removeLast_Jx4a65c_size_8abf5 : GoodIn wsX3_removeLast wsJx4a65c_size_8abf5 := goodIn_r _ [11, 7, 37, 38, 39] (by decide +kernel) (by decide +kernel)
set_option maxRecDepth 20000 in
theorem gX3_removeLast_Jx4a65c_size_8abf5_f22Jx4a65c : GoodIn wsX3_removeLast (va_wsF RX3 22 RJx4a65c ⟨"java/util/List", "size", "()I"⟩ yJx4a65c_size_8abf5 wsJx4a65c_size_8abf5) := goodIn_app (goodIn_of _ (by decide +kernel)) ggX3_removeLast_Jx4a65c_size_8abf5
set_option maxRecDepth 20000 in
theorem ggX3_removeLast_Jx4a65c_remove_915e3 : GoodIn wsX3_removeLast wsJx4a65c_remove_915e3 := goodIn_r _ [15, 7, 16, 17, 18, 19, 20, 21, 22, 23, 24, 25, 26, 27, 5, 28, 29, 30, 31, 32, 33, 34, 37, 38, 39] (by decide +kernel) (by decide +kernel)
set_option maxRecDepth 20000 in
theorem gX3_removeLast_Jx4a65c_remove_915e3_f36Jx4a65c : GoodIn wsX3_removeLast (va_wsF RX3 36 RJx4a65c ⟨"java/util/List", "remove", "(I)Ljava/lang/Object;"⟩ yJx4a65c_remove_915e3 wsJx4a65c_remove_915e3) := goodIn_app (goodIn_of _ (by decide +kernel)) ggX3_removeLast_Jx4a65c_remove_915e3
theorem dX3_removeLast_0 : decode cX3_removeLast 0 = .ok (.aload_n 0, 1) := by decide +kernel
theorem dX3_removeLast_1 : decode cX3_removeLast 1 = .ok (.getfield 12, 3) := by decide +kernel
theorem dX3_removeLast_4 : decode cX3_removeLast 4 = .ok (.invokeinterface 32 1, 5) := by decide +kernel
theorem dX3_removeLast_9 : decode cX3_removeLast 9 = .ok (.ifCond .eq 5, 3) := by decide +kernel
theorem dX3_removeLast_12 : decode cX3_removeLast 12 = .ok (.iconst (-1), 1) := by decide +kernel
theorem dX3_removeLast_13 : decode cX3_removeLast 13 = .ok (.ireturn, 1) := by decide +kernel
theorem dX3_removeLast_14 : decode cX3_removeLast 14 = .ok (.aload_n 0, 1) := by decide +kernel
theorem dX3_removeLast_15 : decode cX3_removeLast 15 = .ok (.getfield 12, 3) := by decide +kernel
theorem dX3_removeLast_18 : decode cX3_removeLast 18 = .ok (.aload_n 0, 1) := by decide +kernel
theorem dX3_removeLast_19 : decode cX3_removeLast 19 = .ok (.getfield 12, 3) := by decide +kernel
theorem dX3_removeLast_22 : decode cX3_removeLast 22 = .ok (.invokeinterface 22 1, 5) := by decide +kernel
theorem dX3_removeLast_27 : decode cX3_removeLast 27 = .ok (.iconst 1, 1) := by decide +kernel
theorem dX3_removeLast_28 : decode cX3_removeLast 28 = .ok (.isub, 1) := by decide +kernel
theorem dX3_removeLast_29 : decode cX3_removeLast 29 = .ok (.invokeinterface 36 2, 5) := by decide +kernel
theorem dX3_removeLast_34 : decode cX3_removeLast 34 = .ok (.pop, 1) := by decide +kernel
theorem dX3_removeLast_35 : decode cX3_removeLast 35 = .ok (.aload_n 0, 1) := by decide +kernel
theorem dX3_removeLast_36 : decode cX3_removeLast 36 = .ok (.getfield 12, 3) := by decide +kernel
theorem dX3_removeLast_39 : decode cX3_removeLast 39 = .ok (.invokeinterface 22 1, 5) := by decide +kernel
theorem dX3_removeLast_44 : decode cX3_removeLast 44 = .ok (.ireturn, 1) := by decide +kernel
set_option maxRecDepth 20000 in
theorem ggX3_pieceOf_Jx4a65c_size_8abf5 : GoodIn wsX3_pieceOf wsJx4a65c_size_8abf5 := goodIn_r _ [7, 8, 28, 29, 30] (by decide +kernel) (by decide +kernel)
set_option maxRecDepth 20000 in
theorem gX3_pieceOf_Jx4a65c_size_8abf5_f22Jx4a65c : GoodIn wsX3_pieceOf (va_wsF RX3 22 RJx4a65c ⟨"java/util/List", "size", "()I"⟩ yJx4a65c_size_8abf5 wsJx4a65c_size_8abf5) := goodIn_app (goodIn_of _ (by decide +kernel)) ggX3_pieceOf_Jx4a65c_size_8abf5
set_option maxRecDepth 20000 in
theorem ggX3_pieceOf_Jx4a65c_get_915e3 : GoodIn wsX3_pieceOf wsJx4a65c_get_915e3 := goodIn_r _ [12, 8, 13, 14, 15, 16, 17, 18, 19, 20, 21, 22, 23, 6, 24, 25, 28, 29, 30] (by decide +kernel) (by decide +kernel)
set_option maxRecDepth 20000 in
theorem gX3_pieceOf_Jx4a65c_get_915e3_f40Jx4a65c : GoodIn wsX3_pieceOf (va_wsF RX3 40 RJx4a65c ⟨"java/util/List", "get", "(I)Ljava/lang/Object;"⟩ yJx4a65c_get_915e3 wsJx4a65c_get_915e3) := goodIn_app (goodIn_of _ (by decide +kernel)) ggX3_pieceOf_Jx4a65c_get_915e3
theorem dX3_pieceOf_0 : decode cX3_pieceOf 0 = .ok (.iload_n 1, 1) := by decide +kernel
theorem dX3_pieceOf_1 : decode cX3_pieceOf 1 = .ok (.iconst 1, 1) := by decide +kernel
theorem dX3_pieceOf_2 : decode cX3_pieceOf 2 = .ok (.ishr, 1) := by decide +kernel
theorem dX3_pieceOf_3 : decode cX3_pieceOf 3 = .ok (.istore_n 2, 1) := by decide +kernel
theorem dX3_pieceOf_4 : decode cX3_pieceOf 4 = .ok (.iload_n 2, 1) := by decide +kernel
theorem dX3_pieceOf_5 : decode cX3_pieceOf 5 = .ok (.ifCond .lt 32, 3) := by decide +kernel
theorem dX3_pieceOf_8 : decode cX3_pieceOf 8 = .ok (.iload_n 2, 1) := by decide +kernel
theorem dX3_pieceOf_9 : decode cX3_pieceOf 9 = .ok (.aload_n 0, 1) := by decide +kernel
theorem dX3_pieceOf_10 : decode cX3_pieceOf 10 = .ok (.getfield 12, 3) := by decide +kernel
theorem dX3_pieceOf_13 : decode cX3_pieceOf 13 = .ok (.invokeinterface 22 1, 5) := by decide +kernel
theorem dX3_pieceOf_18 : decode cX3_pieceOf 18 = .ok (.if_icmp .ge 19, 3) := by decide +kernel
theorem dX3_pieceOf_21 : decode cX3_pieceOf 21 = .ok (.aload_n 0, 1) := by decide +kernel
theorem dX3_pieceOf_22 : decode cX3_pieceOf 22 = .ok (.getfield 12, 3) := by decide +kernel
theorem dX3_pieceOf_25 : decode cX3_pieceOf 25 = .ok (.iload_n 2, 1) := by decide +kernel
theorem dX3_pieceOf_26 : decode cX3_pieceOf 26 = .ok (.invokeinterface 40 2, 5) := by decide +kernel
theorem dX3_pieceOf_31 : decode cX3_pieceOf 31 = .ok (.checkcast 43, 3) := by decide +kernel
theorem dX3_pieceOf_34 : decode cX3_pieceOf 34 = .ok (.goto 4, 3) := by decide +kernel
theorem dX3_pieceOf_37 : decode cX3_pieceOf 37 = .ok (.aconst_null, 1) := by decide +kernel
theorem dX3_pieceOf_38 : decode cX3_pieceOf 38 = .ok (.areturn, 1) := by decide +kernel
set_option maxRecDepth 20000 in
theorem ggX3_minutesOf_X3_pieceOf : GoodIn wsX3_minutesOf wsX3_pieceOf := goodIn_r _ [6, 7, 8, 9, 10, 11, 12, 13, 14, 15, 16, 17, 18, 19, 20, 21, 22, 23, 24, 25, 26, 27, 28, 29, 30, 31, 41, 42, 43, 44, 45] (by decide +kernel) (by decide +kernel)
set_option maxRecDepth 20000 in
theorem gX3_minutesOf_X3_pieceOf : GoodIn wsX3_minutesOf (wsV RX3 45 RX3 yX3_pieceOf wsX3_pieceOf) := goodIn_app (goodIn_of _ (by decide +kernel)) ggX3_minutesOf_X3_pieceOf
set_option maxRecDepth 20000 in
theorem ggX3_minutesOf_X7_isSkimmed : GoodIn wsX3_minutesOf wsX7_isSkimmed := goodIn_r _ [34] (by decide +kernel) (by decide +kernel)
set_option maxRecDepth 20000 in
theorem gX3_minutesOf_X7_isSkimmed_n49 : GoodIn wsX3_minutesOf (wsX7_isSkimmed) := ggX3_minutesOf_X7_isSkimmed
set_option maxRecDepth 20000 in
theorem ggX3_minutesOf_X1_minutesAt : GoodIn wsX3_minutesOf wsX1_minutesAt := goodIn_r _ [39, 40, 46, 47, 48, 49, 50] (by decide +kernel) (by decide +kernel)
set_option maxRecDepth 20000 in
theorem gX3_minutesOf_X1_minutesAt : GoodIn wsX3_minutesOf (wsV RX3 53 RX1 yX1_minutesAt wsX1_minutesAt) := goodIn_app (goodIn_of _ (by decide +kernel)) ggX3_minutesOf_X1_minutesAt
theorem dX3_minutesOf_0 : decode cX3_minutesOf 0 = .ok (.aload_n 0, 1) := by decide +kernel
theorem dX3_minutesOf_1 : decode cX3_minutesOf 1 = .ok (.iload_n 1, 1) := by decide +kernel
theorem dX3_minutesOf_2 : decode cX3_minutesOf 2 = .ok (.invokevirtual 45, 3) := by decide +kernel
theorem dX3_minutesOf_5 : decode cX3_minutesOf 5 = .ok (.astore_n 2, 1) := by decide +kernel
theorem dX3_minutesOf_6 : decode cX3_minutesOf 6 = .ok (.aload_n 2, 1) := by decide +kernel
theorem dX3_minutesOf_7 : decode cX3_minutesOf 7 = .ok (.ifnonnull 7, 3) := by decide +kernel
theorem dX3_minutesOf_10 : decode cX3_minutesOf 10 = .ok (.iconst (-1), 1) := by decide +kernel
theorem dX3_minutesOf_11 : decode cX3_minutesOf 11 = .ok (.goto 15, 3) := by decide +kernel
theorem dX3_minutesOf_14 : decode cX3_minutesOf 14 = .ok (.aload_n 2, 1) := by decide +kernel
theorem dX3_minutesOf_15 : decode cX3_minutesOf 15 = .ok (.aload_n 0, 1) := by decide +kernel
theorem dX3_minutesOf_16 : decode cX3_minutesOf 16 = .ok (.getfield 18, 3) := by decide +kernel
theorem dX3_minutesOf_19 : decode cX3_minutesOf 19 = .ok (.iload_n 1, 1) := by decide +kernel
theorem dX3_minutesOf_20 : decode cX3_minutesOf 20 = .ok (.invokestatic 49, 3) := by decide +kernel
theorem dX3_minutesOf_23 : decode cX3_minutesOf 23 = .ok (.invokevirtual 53, 3) := by decide +kernel
theorem dX3_minutesOf_26 : decode cX3_minutesOf 26 = .ok (.ireturn, 1) := by decide +kernel
set_option maxRecDepth 20000 in
theorem ggX3_readAllOpenTo_Jx4a65c_size_8abf5 : GoodIn wsX3_readAllOpenTo wsJx4a65c_size_8abf5 := goodIn_r _ [7, 8, 41, 42, 43] (by decide +kernel) (by decide +kernel)
set_option maxRecDepth 20000 in
theorem gX3_readAllOpenTo_Jx4a65c_size_8abf5_f22Jx4a65c : GoodIn wsX3_readAllOpenTo (va_wsF RX3 22 RJx4a65c ⟨"java/util/List", "size", "()I"⟩ yJx4a65c_size_8abf5 wsJx4a65c_size_8abf5) := goodIn_app (goodIn_of _ (by decide +kernel)) ggX3_readAllOpenTo_Jx4a65c_size_8abf5
set_option maxRecDepth 20000 in
theorem ggX3_readAllOpenTo_Jx4a65c_get_915e3 : GoodIn wsX3_readAllOpenTo wsJx4a65c_get_915e3 := goodIn_r _ [12, 8, 13, 14, 15, 16, 17, 18, 19, 20, 21, 22, 23, 6, 24, 25, 41, 42, 43] (by decide +kernel) (by decide +kernel)
set_option maxRecDepth 20000 in
theorem gX3_readAllOpenTo_Jx4a65c_get_915e3_f40Jx4a65c : GoodIn wsX3_readAllOpenTo (va_wsF RX3 40 RJx4a65c ⟨"java/util/List", "get", "(I)Ljava/lang/Object;"⟩ yJx4a65c_get_915e3 wsJx4a65c_get_915e3) := goodIn_app (goodIn_of _ (by decide +kernel)) ggX3_readAllOpenTo_Jx4a65c_get_915e3
set_option maxRecDepth 20000 in
theorem ggX3_readAllOpenTo_X1_isOpenTo : GoodIn wsX3_readAllOpenTo wsX1_isOpenTo := goodIn_r _ [30, 31, 32, 44, 45, 46, 47, 48] (by decide +kernel) (by decide +kernel)
set_option maxRecDepth 20000 in
theorem gX3_readAllOpenTo_X1_isOpenTo : GoodIn wsX3_readAllOpenTo (wsV RX3 57 RX1 yX1_isOpenTo wsX1_isOpenTo) := goodIn_app (goodIn_of _ (by decide +kernel)) ggX3_readAllOpenTo_X1_isOpenTo
set_option maxRecDepth 20000 in
theorem ggX3_readAllOpenTo_X1_brings : GoodIn wsX3_readAllOpenTo wsX1_brings := goodIn_r _ [36, 37, 38, 44, 45, 46, 47, 48] (by decide +kernel) (by decide +kernel)
set_option maxRecDepth 20000 in
theorem gX3_readAllOpenTo_X1_brings : GoodIn wsX3_readAllOpenTo (wsV RX3 60 RX1 yX1_brings wsX1_brings) := goodIn_app (goodIn_of _ (by decide +kernel)) ggX3_readAllOpenTo_X1_brings
theorem dX3_readAllOpenTo_0 : decode cX3_readAllOpenTo 0 = .ok (.iload_n 1, 1) := by decide +kernel
theorem dX3_readAllOpenTo_1 : decode cX3_readAllOpenTo 1 = .ok (.istore_n 2, 1) := by decide +kernel
theorem dX3_readAllOpenTo_2 : decode cX3_readAllOpenTo 2 = .ok (.iconst 0, 1) := by decide +kernel
theorem dX3_readAllOpenTo_3 : decode cX3_readAllOpenTo 3 = .ok (.istore_n 3, 1) := by decide +kernel
theorem dX3_readAllOpenTo_4 : decode cX3_readAllOpenTo 4 = .ok (.iload_n 3, 1) := by decide +kernel
theorem dX3_readAllOpenTo_5 : decode cX3_readAllOpenTo 5 = .ok (.aload_n 0, 1) := by decide +kernel
theorem dX3_readAllOpenTo_6 : decode cX3_readAllOpenTo 6 = .ok (.getfield 12, 3) := by decide +kernel
theorem dX3_readAllOpenTo_9 : decode cX3_readAllOpenTo 9 = .ok (.invokeinterface 22 1, 5) := by decide +kernel
theorem dX3_readAllOpenTo_14 : decode cX3_readAllOpenTo 14 = .ok (.if_icmp .ge 42, 3) := by decide +kernel
theorem dX3_readAllOpenTo_17 : decode cX3_readAllOpenTo 17 = .ok (.aload_n 0, 1) := by decide +kernel
theorem dX3_readAllOpenTo_18 : decode cX3_readAllOpenTo 18 = .ok (.getfield 12, 3) := by decide +kernel
theorem dX3_readAllOpenTo_21 : decode cX3_readAllOpenTo 21 = .ok (.iload_n 3, 1) := by decide +kernel
theorem dX3_readAllOpenTo_22 : decode cX3_readAllOpenTo 22 = .ok (.invokeinterface 40 2, 5) := by decide +kernel
theorem dX3_readAllOpenTo_27 : decode cX3_readAllOpenTo 27 = .ok (.checkcast 43, 3) := by decide +kernel
theorem dX3_readAllOpenTo_30 : decode cX3_readAllOpenTo 30 = .ok (.astore 4, 2) := by decide +kernel
theorem dX3_readAllOpenTo_32 : decode cX3_readAllOpenTo 32 = .ok (.aload 4, 2) := by decide +kernel
theorem dX3_readAllOpenTo_34 : decode cX3_readAllOpenTo 34 = .ok (.iload_n 2, 1) := by decide +kernel
theorem dX3_readAllOpenTo_35 : decode cX3_readAllOpenTo 35 = .ok (.invokevirtual 57, 3) := by decide +kernel
theorem dX3_readAllOpenTo_38 : decode cX3_readAllOpenTo 38 = .ok (.ifCond .eq 12, 3) := by decide +kernel
theorem dX3_readAllOpenTo_41 : decode cX3_readAllOpenTo 41 = .ok (.iload_n 2, 1) := by decide +kernel
theorem dX3_readAllOpenTo_42 : decode cX3_readAllOpenTo 42 = .ok (.aload 4, 2) := by decide +kernel
theorem dX3_readAllOpenTo_44 : decode cX3_readAllOpenTo 44 = .ok (.iconst 0, 1) := by decide +kernel
theorem dX3_readAllOpenTo_45 : decode cX3_readAllOpenTo 45 = .ok (.invokevirtual 60, 3) := by decide +kernel
theorem dX3_readAllOpenTo_48 : decode cX3_readAllOpenTo 48 = .ok (.ior, 1) := by decide +kernel
theorem dX3_readAllOpenTo_49 : decode cX3_readAllOpenTo 49 = .ok (.istore_n 2, 1) := by decide +kernel
theorem dX3_readAllOpenTo_50 : decode cX3_readAllOpenTo 50 = .ok (.iinc 3 1, 3) := by decide +kernel
theorem dX3_readAllOpenTo_53 : decode cX3_readAllOpenTo 53 = .ok (.goto (-49), 3) := by decide +kernel
theorem dX3_readAllOpenTo_56 : decode cX3_readAllOpenTo 56 = .ok (.iload_n 2, 1) := by decide +kernel
theorem dX3_readAllOpenTo_57 : decode cX3_readAllOpenTo 57 = .ok (.ireturn, 1) := by decide +kernel
set_option maxRecDepth 20000 in
theorem ggX3_allNeeded_Jx4a65c_size_8abf5 : GoodIn wsX3_allNeeded wsJx4a65c_size_8abf5 := goodIn_r _ [7, 8, 34, 35, 36] (by decide +kernel) (by decide +kernel)
set_option maxRecDepth 20000 in
theorem gX3_allNeeded_Jx4a65c_size_8abf5_f22Jx4a65c : GoodIn wsX3_allNeeded (va_wsF RX3 22 RJx4a65c ⟨"java/util/List", "size", "()I"⟩ yJx4a65c_size_8abf5 wsJx4a65c_size_8abf5) := goodIn_app (goodIn_of _ (by decide +kernel)) ggX3_allNeeded_Jx4a65c_size_8abf5
set_option maxRecDepth 20000 in
theorem ggX3_allNeeded_Jx4a65c_get_915e3 : GoodIn wsX3_allNeeded wsJx4a65c_get_915e3 := goodIn_r _ [12, 8, 13, 14, 15, 16, 17, 18, 19, 20, 21, 22, 23, 6, 24, 25, 34, 35, 36] (by decide +kernel) (by decide +kernel)
set_option maxRecDepth 20000 in
theorem gX3_allNeeded_Jx4a65c_get_915e3_f40Jx4a65c : GoodIn wsX3_allNeeded (va_wsF RX3 40 RJx4a65c ⟨"java/util/List", "get", "(I)Ljava/lang/Object;"⟩ yJx4a65c_get_915e3 wsJx4a65c_get_915e3) := goodIn_app (goodIn_of _ (by decide +kernel)) ggX3_allNeeded_Jx4a65c_get_915e3
set_option maxRecDepth 20000 in
theorem ggX3_allNeeded_X1_needed : GoodIn wsX3_allNeeded wsX1_needed := goodIn_r _ [30, 31, 37, 38, 39, 40, 41] (by decide +kernel) (by decide +kernel)
set_option maxRecDepth 20000 in
theorem gX3_allNeeded_X1_needed : GoodIn wsX3_allNeeded (wsV RX3 64 RX1 yX1_needed wsX1_needed) := goodIn_app (goodIn_of _ (by decide +kernel)) ggX3_allNeeded_X1_needed
theorem dX3_allNeeded_0 : decode cX3_allNeeded 0 = .ok (.iconst 0, 1) := by decide +kernel
theorem dX3_allNeeded_1 : decode cX3_allNeeded 1 = .ok (.istore_n 1, 1) := by decide +kernel
theorem dX3_allNeeded_2 : decode cX3_allNeeded 2 = .ok (.iconst 0, 1) := by decide +kernel
theorem dX3_allNeeded_3 : decode cX3_allNeeded 3 = .ok (.istore_n 2, 1) := by decide +kernel
theorem dX3_allNeeded_4 : decode cX3_allNeeded 4 = .ok (.iload_n 2, 1) := by decide +kernel
theorem dX3_allNeeded_5 : decode cX3_allNeeded 5 = .ok (.aload_n 0, 1) := by decide +kernel
theorem dX3_allNeeded_6 : decode cX3_allNeeded 6 = .ok (.getfield 12, 3) := by decide +kernel
theorem dX3_allNeeded_9 : decode cX3_allNeeded 9 = .ok (.invokeinterface 22 1, 5) := by decide +kernel
theorem dX3_allNeeded_14 : decode cX3_allNeeded 14 = .ok (.if_icmp .ge 28, 3) := by decide +kernel
theorem dX3_allNeeded_17 : decode cX3_allNeeded 17 = .ok (.iload_n 1, 1) := by decide +kernel
theorem dX3_allNeeded_18 : decode cX3_allNeeded 18 = .ok (.aload_n 0, 1) := by decide +kernel
theorem dX3_allNeeded_19 : decode cX3_allNeeded 19 = .ok (.getfield 12, 3) := by decide +kernel
theorem dX3_allNeeded_22 : decode cX3_allNeeded 22 = .ok (.iload_n 2, 1) := by decide +kernel
theorem dX3_allNeeded_23 : decode cX3_allNeeded 23 = .ok (.invokeinterface 40 2, 5) := by decide +kernel
theorem dX3_allNeeded_28 : decode cX3_allNeeded 28 = .ok (.checkcast 43, 3) := by decide +kernel
theorem dX3_allNeeded_31 : decode cX3_allNeeded 31 = .ok (.invokevirtual 64, 3) := by decide +kernel
theorem dX3_allNeeded_34 : decode cX3_allNeeded 34 = .ok (.ior, 1) := by decide +kernel
theorem dX3_allNeeded_35 : decode cX3_allNeeded 35 = .ok (.istore_n 1, 1) := by decide +kernel
theorem dX3_allNeeded_36 : decode cX3_allNeeded 36 = .ok (.iinc 2 1, 3) := by decide +kernel
theorem dX3_allNeeded_39 : decode cX3_allNeeded 39 = .ok (.goto (-35), 3) := by decide +kernel
theorem dX3_allNeeded_42 : decode cX3_allNeeded 42 = .ok (.iload_n 1, 1) := by decide +kernel
theorem dX3_allNeeded_43 : decode cX3_allNeeded 43 = .ok (.ireturn, 1) := by decide +kernel
set_option maxRecDepth 20000 in
theorem ggX3_allGiven_Jx4a65c_size_8abf5 : GoodIn wsX3_allGiven wsJx4a65c_size_8abf5 := goodIn_r _ [7, 8, 35, 36, 37] (by decide +kernel) (by decide +kernel)
set_option maxRecDepth 20000 in
theorem gX3_allGiven_Jx4a65c_size_8abf5_f22Jx4a65c : GoodIn wsX3_allGiven (va_wsF RX3 22 RJx4a65c ⟨"java/util/List", "size", "()I"⟩ yJx4a65c_size_8abf5 wsJx4a65c_size_8abf5) := goodIn_app (goodIn_of _ (by decide +kernel)) ggX3_allGiven_Jx4a65c_size_8abf5
set_option maxRecDepth 20000 in
theorem ggX3_allGiven_Jx4a65c_get_915e3 : GoodIn wsX3_allGiven wsJx4a65c_get_915e3 := goodIn_r _ [12, 8, 13, 14, 15, 16, 17, 18, 19, 20, 21, 22, 23, 6, 24, 25, 35, 36, 37] (by decide +kernel) (by decide +kernel)
set_option maxRecDepth 20000 in
theorem gX3_allGiven_Jx4a65c_get_915e3_f40Jx4a65c : GoodIn wsX3_allGiven (va_wsF RX3 40 RJx4a65c ⟨"java/util/List", "get", "(I)Ljava/lang/Object;"⟩ yJx4a65c_get_915e3 wsJx4a65c_get_915e3) := goodIn_app (goodIn_of _ (by decide +kernel)) ggX3_allGiven_Jx4a65c_get_915e3
set_option maxRecDepth 20000 in
theorem ggX3_allGiven_X1_brings : GoodIn wsX3_allGiven wsX1_brings := goodIn_r _ [30, 31, 32, 38, 39, 40, 41, 42] (by decide +kernel) (by decide +kernel)
set_option maxRecDepth 20000 in
theorem gX3_allGiven_X1_brings : GoodIn wsX3_allGiven (wsV RX3 60 RX1 yX1_brings wsX1_brings) := goodIn_app (goodIn_of _ (by decide +kernel)) ggX3_allGiven_X1_brings
theorem dX3_allGiven_0 : decode cX3_allGiven 0 = .ok (.iconst 0, 1) := by decide +kernel
theorem dX3_allGiven_1 : decode cX3_allGiven 1 = .ok (.istore_n 1, 1) := by decide +kernel
theorem dX3_allGiven_2 : decode cX3_allGiven 2 = .ok (.iconst 0, 1) := by decide +kernel
theorem dX3_allGiven_3 : decode cX3_allGiven 3 = .ok (.istore_n 2, 1) := by decide +kernel
theorem dX3_allGiven_4 : decode cX3_allGiven 4 = .ok (.iload_n 2, 1) := by decide +kernel
theorem dX3_allGiven_5 : decode cX3_allGiven 5 = .ok (.aload_n 0, 1) := by decide +kernel
theorem dX3_allGiven_6 : decode cX3_allGiven 6 = .ok (.getfield 12, 3) := by decide +kernel
theorem dX3_allGiven_9 : decode cX3_allGiven 9 = .ok (.invokeinterface 22 1, 5) := by decide +kernel
theorem dX3_allGiven_14 : decode cX3_allGiven 14 = .ok (.if_icmp .ge 29, 3) := by decide +kernel
theorem dX3_allGiven_17 : decode cX3_allGiven 17 = .ok (.iload_n 1, 1) := by decide +kernel
theorem dX3_allGiven_18 : decode cX3_allGiven 18 = .ok (.aload_n 0, 1) := by decide +kernel
theorem dX3_allGiven_19 : decode cX3_allGiven 19 = .ok (.getfield 12, 3) := by decide +kernel
theorem dX3_allGiven_22 : decode cX3_allGiven 22 = .ok (.iload_n 2, 1) := by decide +kernel
theorem dX3_allGiven_23 : decode cX3_allGiven 23 = .ok (.invokeinterface 40 2, 5) := by decide +kernel
theorem dX3_allGiven_28 : decode cX3_allGiven 28 = .ok (.checkcast 43, 3) := by decide +kernel
theorem dX3_allGiven_31 : decode cX3_allGiven 31 = .ok (.iconst 0, 1) := by decide +kernel
theorem dX3_allGiven_32 : decode cX3_allGiven 32 = .ok (.invokevirtual 60, 3) := by decide +kernel
theorem dX3_allGiven_35 : decode cX3_allGiven 35 = .ok (.ior, 1) := by decide +kernel
theorem dX3_allGiven_36 : decode cX3_allGiven 36 = .ok (.istore_n 1, 1) := by decide +kernel
theorem dX3_allGiven_37 : decode cX3_allGiven 37 = .ok (.iinc 2 1, 3) := by decide +kernel
theorem dX3_allGiven_40 : decode cX3_allGiven 40 = .ok (.goto (-36), 3) := by decide +kernel
theorem dX3_allGiven_43 : decode cX3_allGiven 43 = .ok (.iload_n 1, 1) := by decide +kernel
theorem dX3_allGiven_44 : decode cX3_allGiven 44 = .ok (.ireturn, 1) := by decide +kernel
theorem dX4_init_0 : decode cX4_init 0 = .ok (.aload_n 0, 1) := by decide +kernel
theorem dX4_init_1 : decode cX4_init 1 = .ok (.invokespecial 3, 3) := by decide +kernel
theorem dX4_init_4 : decode cX4_init 4 = .ok (.aload_n 0, 1) := by decide +kernel
theorem dX4_init_5 : decode cX4_init 5 = .ok (.bipush 12, 2) := by decide +kernel
theorem dX4_init_7 : decode cX4_init 7 = .ok (.newarray .int, 2) := by decide +kernel
theorem dX4_init_9 : decode cX4_init 9 = .ok (.putfield 9, 3) := by decide +kernel
theorem dX4_init_12 : decode cX4_init 12 = .ok (.aload_n 0, 1) := by decide +kernel
theorem dX4_init_13 : decode cX4_init 13 = .ok (.bipush 12, 2) := by decide +kernel
theorem dX4_init_15 : decode cX4_init 15 = .ok (.newarray .int, 2) := by decide +kernel
theorem dX4_init_17 : decode cX4_init 17 = .ok (.putfield 15, 3) := by decide +kernel
theorem dX4_init_20 : decode cX4_init 20 = .ok (.aload_n 0, 1) := by decide +kernel
theorem dX4_init_21 : decode cX4_init 21 = .ok (.iconst 0, 1) := by decide +kernel
theorem dX4_init_22 : decode cX4_init 22 = .ok (.putfield 18, 3) := by decide +kernel
theorem dX4_init_25 : decode cX4_init 25 = .ok (.return_, 1) := by decide +kernel
theorem dX4_size_0 : decode cX4_size 0 = .ok (.aload_n 0, 1) := by decide +kernel
theorem dX4_size_1 : decode cX4_size 1 = .ok (.getfield 18, 3) := by decide +kernel
theorem dX4_size_4 : decode cX4_size 4 = .ok (.ireturn, 1) := by decide +kernel
theorem dX4_haveAll_0 : decode cX4_haveAll 0 = .ok (.iload_n 1, 1) := by decide +kernel
theorem dX4_haveAll_1 : decode cX4_haveAll 1 = .ok (.ifCond .lt 17, 3) := by decide +kernel
theorem dX4_haveAll_4 : decode cX4_haveAll 4 = .ok (.iload_n 1, 1) := by decide +kernel
theorem dX4_haveAll_5 : decode cX4_haveAll 5 = .ok (.iconst 1, 1) := by decide +kernel
theorem dX4_haveAll_6 : decode cX4_haveAll 6 = .ok (.aload_n 0, 1) := by decide +kernel
theorem dX4_haveAll_7 : decode cX4_haveAll 7 = .ok (.getfield 18, 3) := by decide +kernel
theorem dX4_haveAll_10 : decode cX4_haveAll 10 = .ok (.ishl, 1) := by decide +kernel
theorem dX4_haveAll_11 : decode cX4_haveAll 11 = .ok (.if_icmp .ge 7, 3) := by decide +kernel
theorem dX4_haveAll_14 : decode cX4_haveAll 14 = .ok (.iconst 1, 1) := by decide +kernel
theorem dX4_haveAll_15 : decode cX4_haveAll 15 = .ok (.goto 4, 3) := by decide +kernel
theorem dX4_haveAll_18 : decode cX4_haveAll 18 = .ok (.iconst 0, 1) := by decide +kernel
theorem dX4_haveAll_19 : decode cX4_haveAll 19 = .ok (.ireturn, 1) := by decide +kernel
set_option maxRecDepth 20000 in
theorem ggX4_add_X4_closure : GoodIn wsX4_add wsX4_closure := goodIn_r _ [8, 3, 9, 10, 11] (by decide +kernel) (by decide +kernel)
set_option maxRecDepth 20000 in
theorem gX4_add_X4_closure : GoodIn wsX4_add (wsV RX4 22 RX4 yX4_closure wsX4_closure) := goodIn_app (goodIn_of _ (by decide +kernel)) ggX4_add_X4_closure
theorem dX4_add_0 : decode cX4_add 0 = .ok (.aload_n 0, 1) := by decide +kernel
theorem dX4_add_1 : decode cX4_add 1 = .ok (.getfield 18, 3) := by decide +kernel
theorem dX4_add_4 : decode cX4_add 4 = .ok (.istore_n 3, 1) := by decide +kernel
theorem dX4_add_5 : decode cX4_add 5 = .ok (.iload_n 3, 1) := by decide +kernel
theorem dX4_add_6 : decode cX4_add 6 = .ok (.aload_n 0, 1) := by decide +kernel
theorem dX4_add_7 : decode cX4_add 7 = .ok (.getfield 9, 3) := by decide +kernel
theorem dX4_add_10 : decode cX4_add 10 = .ok (.arraylength, 1) := by decide +kernel
theorem dX4_add_11 : decode cX4_add 11 = .ok (.if_icmp .ge 12, 3) := by decide +kernel
theorem dX4_add_14 : decode cX4_add 14 = .ok (.iload_n 3, 1) := by decide +kernel
theorem dX4_add_15 : decode cX4_add 15 = .ok (.aload_n 0, 1) := by decide +kernel
theorem dX4_add_16 : decode cX4_add 16 = .ok (.getfield 15, 3) := by decide +kernel
theorem dX4_add_19 : decode cX4_add 19 = .ok (.arraylength, 1) := by decide +kernel
theorem dX4_add_20 : decode cX4_add 20 = .ok (.if_icmp .lt 5, 3) := by decide +kernel
theorem dX4_add_23 : decode cX4_add 23 = .ok (.iconst (-1), 1) := by decide +kernel
theorem dX4_add_24 : decode cX4_add 24 = .ok (.ireturn, 1) := by decide +kernel
theorem dX4_add_25 : decode cX4_add 25 = .ok (.aload_n 0, 1) := by decide +kernel
theorem dX4_add_26 : decode cX4_add 26 = .ok (.getfield 9, 3) := by decide +kernel
theorem dX4_add_29 : decode cX4_add 29 = .ok (.iload_n 3, 1) := by decide +kernel
theorem dX4_add_30 : decode cX4_add 30 = .ok (.iload_n 1, 1) := by decide +kernel
theorem dX4_add_31 : decode cX4_add 31 = .ok (.iastore, 1) := by decide +kernel
theorem dX4_add_32 : decode cX4_add 32 = .ok (.aload_n 0, 1) := by decide +kernel
theorem dX4_add_33 : decode cX4_add 33 = .ok (.getfield 15, 3) := by decide +kernel
theorem dX4_add_36 : decode cX4_add 36 = .ok (.iload_n 3, 1) := by decide +kernel
theorem dX4_add_37 : decode cX4_add 37 = .ok (.iconst 1, 1) := by decide +kernel
theorem dX4_add_38 : decode cX4_add 38 = .ok (.iload_n 3, 1) := by decide +kernel
theorem dX4_add_39 : decode cX4_add 39 = .ok (.ishl, 1) := by decide +kernel
theorem dX4_add_40 : decode cX4_add 40 = .ok (.aload_n 0, 1) := by decide +kernel
theorem dX4_add_41 : decode cX4_add 41 = .ok (.iload_n 2, 1) := by decide +kernel
theorem dX4_add_42 : decode cX4_add 42 = .ok (.invokevirtual 22, 3) := by decide +kernel
theorem dX4_add_45 : decode cX4_add 45 = .ok (.ior, 1) := by decide +kernel
theorem dX4_add_46 : decode cX4_add 46 = .ok (.iastore, 1) := by decide +kernel
theorem dX4_add_47 : decode cX4_add 47 = .ok (.aload_n 0, 1) := by decide +kernel
theorem dX4_add_48 : decode cX4_add 48 = .ok (.dup, 1) := by decide +kernel
theorem dX4_add_49 : decode cX4_add 49 = .ok (.getfield 18, 3) := by decide +kernel
theorem dX4_add_52 : decode cX4_add 52 = .ok (.iconst 1, 1) := by decide +kernel
theorem dX4_add_53 : decode cX4_add 53 = .ok (.iadd, 1) := by decide +kernel
theorem dX4_add_54 : decode cX4_add 54 = .ok (.putfield 18, 3) := by decide +kernel
theorem dX4_add_57 : decode cX4_add 57 = .ok (.iload_n 3, 1) := by decide +kernel
theorem dX4_add_58 : decode cX4_add 58 = .ok (.ireturn, 1) := by decide +kernel
theorem dX4_closure_0 : decode cX4_closure 0 = .ok (.iload_n 1, 1) := by decide +kernel
theorem dX4_closure_1 : decode cX4_closure 1 = .ok (.istore_n 2, 1) := by decide +kernel
theorem dX4_closure_2 : decode cX4_closure 2 = .ok (.iconst 0, 1) := by decide +kernel
theorem dX4_closure_3 : decode cX4_closure 3 = .ok (.istore_n 3, 1) := by decide +kernel
theorem dX4_closure_4 : decode cX4_closure 4 = .ok (.iload_n 3, 1) := by decide +kernel
theorem dX4_closure_5 : decode cX4_closure 5 = .ok (.aload_n 0, 1) := by decide +kernel
theorem dX4_closure_6 : decode cX4_closure 6 = .ok (.getfield 15, 3) := by decide +kernel
theorem dX4_closure_9 : decode cX4_closure 9 = .ok (.arraylength, 1) := by decide +kernel
theorem dX4_closure_10 : decode cX4_closure 10 = .ok (.if_icmp .ge 27, 3) := by decide +kernel
theorem dX4_closure_13 : decode cX4_closure 13 = .ok (.iload_n 1, 1) := by decide +kernel
theorem dX4_closure_14 : decode cX4_closure 14 = .ok (.iload_n 3, 1) := by decide +kernel
theorem dX4_closure_15 : decode cX4_closure 15 = .ok (.ishr, 1) := by decide +kernel
theorem dX4_closure_16 : decode cX4_closure 16 = .ok (.iconst 1, 1) := by decide +kernel
theorem dX4_closure_17 : decode cX4_closure 17 = .ok (.iand, 1) := by decide +kernel
theorem dX4_closure_18 : decode cX4_closure 18 = .ok (.iconst 1, 1) := by decide +kernel
theorem dX4_closure_19 : decode cX4_closure 19 = .ok (.if_icmp .ne 12, 3) := by decide +kernel
theorem dX4_closure_22 : decode cX4_closure 22 = .ok (.iload_n 2, 1) := by decide +kernel
theorem dX4_closure_23 : decode cX4_closure 23 = .ok (.aload_n 0, 1) := by decide +kernel
theorem dX4_closure_24 : decode cX4_closure 24 = .ok (.getfield 15, 3) := by decide +kernel
theorem dX4_closure_27 : decode cX4_closure 27 = .ok (.iload_n 3, 1) := by decide +kernel
theorem dX4_closure_28 : decode cX4_closure 28 = .ok (.iaload, 1) := by decide +kernel
theorem dX4_closure_29 : decode cX4_closure 29 = .ok (.ior, 1) := by decide +kernel
theorem dX4_closure_30 : decode cX4_closure 30 = .ok (.istore_n 2, 1) := by decide +kernel
theorem dX4_closure_31 : decode cX4_closure 31 = .ok (.iinc 3 1, 3) := by decide +kernel
theorem dX4_closure_34 : decode cX4_closure 34 = .ok (.goto (-30), 3) := by decide +kernel
theorem dX4_closure_37 : decode cX4_closure 37 = .ok (.iload_n 2, 1) := by decide +kernel
theorem dX4_closure_38 : decode cX4_closure 38 = .ok (.ireturn, 1) := by decide +kernel
set_option maxRecDepth 20000 in
theorem ggX4_impliedBy_X4_closure : GoodIn wsX4_impliedBy wsX4_closure := goodIn_r _ [5, 6, 7, 8, 9] (by decide +kernel) (by decide +kernel)
set_option maxRecDepth 20000 in
theorem gX4_impliedBy_X4_closure : GoodIn wsX4_impliedBy (wsV RX4 22 RX4 yX4_closure wsX4_closure) := goodIn_app (goodIn_of _ (by decide +kernel)) ggX4_impliedBy_X4_closure
theorem dX4_impliedBy_0 : decode cX4_impliedBy 0 = .ok (.iconst 1, 1) := by decide +kernel
theorem dX4_impliedBy_1 : decode cX4_impliedBy 1 = .ok (.iload_n 1, 1) := by decide +kernel
theorem dX4_impliedBy_2 : decode cX4_impliedBy 2 = .ok (.ishl, 1) := by decide +kernel
theorem dX4_impliedBy_3 : decode cX4_impliedBy 3 = .ok (.istore_n 2, 1) := by decide +kernel
theorem dX4_impliedBy_4 : decode cX4_impliedBy 4 = .ok (.aload_n 0, 1) := by decide +kernel
theorem dX4_impliedBy_5 : decode cX4_impliedBy 5 = .ok (.iload_n 2, 1) := by decide +kernel
theorem dX4_impliedBy_6 : decode cX4_impliedBy 6 = .ok (.invokevirtual 22, 3) := by decide +kernel
theorem dX4_impliedBy_9 : decode cX4_impliedBy 9 = .ok (.iload_n 2, 1) := by decide +kernel
theorem dX4_impliedBy_10 : decode cX4_impliedBy 10 = .ok (.iconst (-1), 1) := by decide +kernel
theorem dX4_impliedBy_11 : decode cX4_impliedBy 11 = .ok (.ixor, 1) := by decide +kernel
theorem dX4_impliedBy_12 : decode cX4_impliedBy 12 = .ok (.iand, 1) := by decide +kernel
theorem dX4_impliedBy_13 : decode cX4_impliedBy 13 = .ok (.ireturn, 1) := by decide +kernel
theorem dX4_worthOf_0 : decode cX4_worthOf 0 = .ok (.iconst 0, 1) := by decide +kernel
theorem dX4_worthOf_1 : decode cX4_worthOf 1 = .ok (.istore_n 2, 1) := by decide +kernel
theorem dX4_worthOf_2 : decode cX4_worthOf 2 = .ok (.iconst 0, 1) := by decide +kernel
theorem dX4_worthOf_3 : decode cX4_worthOf 3 = .ok (.istore_n 3, 1) := by decide +kernel
theorem dX4_worthOf_4 : decode cX4_worthOf 4 = .ok (.iload_n 3, 1) := by decide +kernel
theorem dX4_worthOf_5 : decode cX4_worthOf 5 = .ok (.aload_n 0, 1) := by decide +kernel
theorem dX4_worthOf_6 : decode cX4_worthOf 6 = .ok (.getfield 9, 3) := by decide +kernel
theorem dX4_worthOf_9 : decode cX4_worthOf 9 = .ok (.arraylength, 1) := by decide +kernel
theorem dX4_worthOf_10 : decode cX4_worthOf 10 = .ok (.if_icmp .ge 27, 3) := by decide +kernel
theorem dX4_worthOf_13 : decode cX4_worthOf 13 = .ok (.iload_n 1, 1) := by decide +kernel
theorem dX4_worthOf_14 : decode cX4_worthOf 14 = .ok (.iload_n 3, 1) := by decide +kernel
theorem dX4_worthOf_15 : decode cX4_worthOf 15 = .ok (.ishr, 1) := by decide +kernel
theorem dX4_worthOf_16 : decode cX4_worthOf 16 = .ok (.iconst 1, 1) := by decide +kernel
theorem dX4_worthOf_17 : decode cX4_worthOf 17 = .ok (.iand, 1) := by decide +kernel
theorem dX4_worthOf_18 : decode cX4_worthOf 18 = .ok (.iconst 1, 1) := by decide +kernel
theorem dX4_worthOf_19 : decode cX4_worthOf 19 = .ok (.if_icmp .ne 12, 3) := by decide +kernel
theorem dX4_worthOf_22 : decode cX4_worthOf 22 = .ok (.iload_n 2, 1) := by decide +kernel
theorem dX4_worthOf_23 : decode cX4_worthOf 23 = .ok (.aload_n 0, 1) := by decide +kernel
theorem dX4_worthOf_24 : decode cX4_worthOf 24 = .ok (.getfield 9, 3) := by decide +kernel
theorem dX4_worthOf_27 : decode cX4_worthOf 27 = .ok (.iload_n 3, 1) := by decide +kernel
theorem dX4_worthOf_28 : decode cX4_worthOf 28 = .ok (.iaload, 1) := by decide +kernel
theorem dX4_worthOf_29 : decode cX4_worthOf 29 = .ok (.iadd, 1) := by decide +kernel
theorem dX4_worthOf_30 : decode cX4_worthOf 30 = .ok (.istore_n 2, 1) := by decide +kernel
theorem dX4_worthOf_31 : decode cX4_worthOf 31 = .ok (.iinc 3 1, 3) := by decide +kernel
theorem dX4_worthOf_34 : decode cX4_worthOf 34 = .ok (.goto (-30), 3) := by decide +kernel
theorem dX4_worthOf_37 : decode cX4_worthOf 37 = .ok (.iload_n 2, 1) := by decide +kernel
theorem dX4_worthOf_38 : decode cX4_worthOf 38 = .ok (.ireturn, 1) := by decide +kernel
theorem dX5_init_0 : decode cX5_init 0 = .ok (.aload_n 0, 1) := by decide +kernel
theorem dX5_init_1 : decode cX5_init 1 = .ok (.invokespecial 5, 3) := by decide +kernel
theorem dX5_init_4 : decode cX5_init 4 = .ok (.aload_n 0, 1) := by decide +kernel
theorem dX5_init_5 : decode cX5_init 5 = .ok (.sipush 4096, 3) := by decide +kernel
theorem dX5_init_8 : decode cX5_init 8 = .ok (.newarray .int, 2) := by decide +kernel
theorem dX5_init_10 : decode cX5_init 10 = .ok (.putfield 11, 3) := by decide +kernel
theorem dX5_init_13 : decode cX5_init 13 = .ok (.aload_n 0, 1) := by decide +kernel
theorem dX5_init_14 : decode cX5_init 14 = .ok (.sipush 4096, 3) := by decide +kernel
theorem dX5_init_17 : decode cX5_init 17 = .ok (.newarray .long, 2) := by decide +kernel
theorem dX5_init_19 : decode cX5_init 19 = .ok (.putfield 15, 3) := by decide +kernel
theorem dX5_init_22 : decode cX5_init 22 = .ok (.aload_n 0, 1) := by decide +kernel
theorem dX5_init_23 : decode cX5_init 23 = .ok (.iconst 0, 1) := by decide +kernel
theorem dX5_init_24 : decode cX5_init 24 = .ok (.putfield 19, 3) := by decide +kernel
theorem dX5_init_27 : decode cX5_init 27 = .ok (.return_, 1) := by decide +kernel
set_option maxRecDepth 20000 in
theorem ggX5_explore_X5_goOnFrom : GoodIn wsX5_explore wsX5_goOnFrom := goodIn_r _ [12, 13, 14, 15, 16, 17, 18, 19, 20, 21, 22, 23, 24, 25, 26, 27, 28, 29, 30, 31, 32, 33, 34, 35, 36, 37, 38, 39, 40, 41, 42, 43, 44, 45, 46, 47, 48, 49, 50, 51, 52, 53, 54, 55, 56, 57, 58, 59, 60, 61, 62, 63, 64, 65, 66, 67, 68, 69, 70, 71, 72, 73, 74, 75, 76, 11, 77, 5, 6, 7, 78, 79, 80, 81, 85, 86, 87, 88, 89, 90, 91, 92, 93, 94, 82, 83, 84] (by decide +kernel) (by decide +kernel)
set_option maxRecDepth 20000 in
theorem gX5_explore_X5_goOnFrom : GoodIn wsX5_explore (wsV RX5 29 RX5 yX5_goOnFrom wsX5_goOnFrom) := goodIn_app (goodIn_of _ (by decide +kernel)) ggX5_explore_X5_goOnFrom
theorem dX5_explore_0 : decode cX5_explore 0 = .ok (.aload_n 0, 1) := by decide +kernel
theorem dX5_explore_1 : decode cX5_explore 1 = .ok (.iconst 1, 1) := by decide +kernel
theorem dX5_explore_2 : decode cX5_explore 2 = .ok (.iload_n 2, 1) := by decide +kernel
theorem dX5_explore_3 : decode cX5_explore 3 = .ok (.ishl, 1) := by decide +kernel
theorem dX5_explore_4 : decode cX5_explore 4 = .ok (.sipush 4096, 3) := by decide +kernel
theorem dX5_explore_7 : decode cX5_explore 7 = .ok (.invokestatic 23, 3) := by decide +kernel
theorem dX5_explore_10 : decode cX5_explore 10 = .ok (.putfield 19, 3) := by decide +kernel
theorem dX5_explore_13 : decode cX5_explore 13 = .ok (.iconst 0, 1) := by decide +kernel
theorem dX5_explore_14 : decode cX5_explore 14 = .ok (.istore 5, 2) := by decide +kernel
theorem dX5_explore_16 : decode cX5_explore 16 = .ok (.iload 5, 2) := by decide +kernel
theorem dX5_explore_18 : decode cX5_explore 18 = .ok (.aload_n 0, 1) := by decide +kernel
theorem dX5_explore_19 : decode cX5_explore 19 = .ok (.getfield 19, 3) := by decide +kernel
theorem dX5_explore_22 : decode cX5_explore 22 = .ok (.if_icmp .ge 17, 3) := by decide +kernel
theorem dX5_explore_25 : decode cX5_explore 25 = .ok (.aload_n 0, 1) := by decide +kernel
theorem dX5_explore_26 : decode cX5_explore 26 = .ok (.getfield 11, 3) := by decide +kernel
theorem dX5_explore_29 : decode cX5_explore 29 = .ok (.iload 5, 2) := by decide +kernel
theorem dX5_explore_31 : decode cX5_explore 31 = .ok (.iconst (-1), 1) := by decide +kernel
theorem dX5_explore_32 : decode cX5_explore 32 = .ok (.iastore, 1) := by decide +kernel
theorem dX5_explore_33 : decode cX5_explore 33 = .ok (.iinc 5 1, 3) := by decide +kernel
theorem dX5_explore_36 : decode cX5_explore 36 = .ok (.goto (-20), 3) := by decide +kernel
theorem dX5_explore_39 : decode cX5_explore 39 = .ok (.iload_n 3, 1) := by decide +kernel
theorem dX5_explore_40 : decode cX5_explore 40 = .ok (.ifCond .lt 11, 3) := by decide +kernel
theorem dX5_explore_43 : decode cX5_explore 43 = .ok (.iload_n 3, 1) := by decide +kernel
theorem dX5_explore_44 : decode cX5_explore 44 = .ok (.aload_n 0, 1) := by decide +kernel
theorem dX5_explore_45 : decode cX5_explore 45 = .ok (.getfield 19, 3) := by decide +kernel
theorem dX5_explore_48 : decode cX5_explore 48 = .ok (.if_icmp .lt 4, 3) := by decide +kernel
theorem dX5_explore_51 : decode cX5_explore 51 = .ok (.return_, 1) := by decide +kernel
theorem dX5_explore_52 : decode cX5_explore 52 = .ok (.aload_n 0, 1) := by decide +kernel
theorem dX5_explore_53 : decode cX5_explore 53 = .ok (.getfield 11, 3) := by decide +kernel
theorem dX5_explore_56 : decode cX5_explore 56 = .ok (.iload_n 3, 1) := by decide +kernel
theorem dX5_explore_57 : decode cX5_explore 57 = .ok (.iconst 0, 1) := by decide +kernel
theorem dX5_explore_58 : decode cX5_explore 58 = .ok (.iastore, 1) := by decide +kernel
theorem dX5_explore_59 : decode cX5_explore 59 = .ok (.aload_n 0, 1) := by decide +kernel
theorem dX5_explore_60 : decode cX5_explore 60 = .ok (.getfield 15, 3) := by decide +kernel
theorem dX5_explore_63 : decode cX5_explore 63 = .ok (.iload_n 3, 1) := by decide +kernel
theorem dX5_explore_64 : decode cX5_explore 64 = .ok (.lconst 0, 1) := by decide +kernel
theorem dX5_explore_65 : decode cX5_explore 65 = .ok (.lastore, 1) := by decide +kernel
theorem dX5_explore_66 : decode cX5_explore 66 = .ok (.iload_n 3, 1) := by decide +kernel
theorem dX5_explore_67 : decode cX5_explore 67 = .ok (.istore 5, 2) := by decide +kernel
theorem dX5_explore_69 : decode cX5_explore 69 = .ok (.iload 5, 2) := by decide +kernel
theorem dX5_explore_71 : decode cX5_explore 71 = .ok (.aload_n 0, 1) := by decide +kernel
theorem dX5_explore_72 : decode cX5_explore 72 = .ok (.getfield 19, 3) := by decide +kernel
theorem dX5_explore_75 : decode cX5_explore 75 = .ok (.if_icmp .ge 29, 3) := by decide +kernel
theorem dX5_explore_78 : decode cX5_explore 78 = .ok (.aload_n 0, 1) := by decide +kernel
theorem dX5_explore_79 : decode cX5_explore 79 = .ok (.getfield 11, 3) := by decide +kernel
theorem dX5_explore_82 : decode cX5_explore 82 = .ok (.iload 5, 2) := by decide +kernel
theorem dX5_explore_84 : decode cX5_explore 84 = .ok (.iaload, 1) := by decide +kernel
theorem dX5_explore_85 : decode cX5_explore 85 = .ok (.iconst (-1), 1) := by decide +kernel
theorem dX5_explore_86 : decode cX5_explore 86 = .ok (.if_icmp .eq 12, 3) := by decide +kernel
theorem dX5_explore_89 : decode cX5_explore 89 = .ok (.aload_n 0, 1) := by decide +kernel
theorem dX5_explore_90 : decode cX5_explore 90 = .ok (.iload 5, 2) := by decide +kernel
theorem dX5_explore_92 : decode cX5_explore 92 = .ok (.aload_n 1, 1) := by decide +kernel
theorem dX5_explore_93 : decode cX5_explore 93 = .ok (.iload 4, 2) := by decide +kernel
theorem dX5_explore_95 : decode cX5_explore 95 = .ok (.invokevirtual 29, 3) := by decide +kernel
theorem dX5_explore_98 : decode cX5_explore 98 = .ok (.iinc 5 1, 3) := by decide +kernel
theorem dX5_explore_101 : decode cX5_explore 101 = .ok (.goto (-32), 3) := by decide +kernel
theorem dX5_explore_104 : decode cX5_explore 104 = .ok (.return_, 1) := by decide +kernel
set_option maxRecDepth 20000 in
theorem ggX5_goOnFrom_X3_size : GoodIn wsX5_goOnFrom wsX3_size := goodIn_r _ [5, 6, 7, 8, 9, 10, 11, 12, 74, 75, 76, 77, 78] (by decide +kernel) (by decide +kernel)
