set_option maxRecDepth 20000 in
theorem gX5_goOnFrom_X3_size : GoodIn wsX5_goOnFrom (wsV RX5 33 RX3 yX3_size wsX3_size) := goodIn_app (goodIn_of _ (by decide +kernel)) ggX5_goOnFrom_X3_size
set_option maxRecDepth 20000 in
theorem ggX5_goOnFrom_X3_pieceOf : GoodIn wsX5_goOnFrom wsX3_pieceOf := goodIn_r _ [16, 6, 17, 7, 8, 9, 10, 11, 12, 18, 19, 20, 21, 22, 23, 24, 25, 26, 27, 28, 29, 30, 31, 32, 33, 34, 74, 75, 76, 77, 78] (by decide +kernel) (by decide +kernel)
set_option maxRecDepth 20000 in
theorem gX5_goOnFrom_X3_pieceOf : GoodIn wsX5_goOnFrom (wsV RX5 39 RX3 yX3_pieceOf wsX3_pieceOf) := goodIn_app (goodIn_of _ (by decide +kernel)) ggX5_goOnFrom_X3_pieceOf
set_option maxRecDepth 20000 in
theorem ggX5_goOnFrom_X1_isOpenTo : GoodIn wsX5_goOnFrom wsX1_isOpenTo := goodIn_r _ [39, 40, 41, 79, 80, 81, 82, 83] (by decide +kernel) (by decide +kernel)
set_option maxRecDepth 20000 in
theorem gX5_goOnFrom_X1_isOpenTo : GoodIn wsX5_goOnFrom (wsV RX5 43 RX1 yX1_isOpenTo wsX1_isOpenTo) := goodIn_app (goodIn_of _ (by decide +kernel)) ggX5_goOnFrom_X1_isOpenTo
set_option maxRecDepth 20000 in
theorem ggX5_goOnFrom_X7_isSkimmed : GoodIn wsX5_goOnFrom wsX7_isSkimmed := goodIn_r _ [44] (by decide +kernel) (by decide +kernel)
set_option maxRecDepth 20000 in
theorem gX5_goOnFrom_X7_isSkimmed_n49 : GoodIn wsX5_goOnFrom (wsX7_isSkimmed) := ggX5_goOnFrom_X7_isSkimmed
set_option maxRecDepth 20000 in
theorem ggX5_goOnFrom_X1_brings : GoodIn wsX5_goOnFrom wsX1_brings := goodIn_r _ [48, 49, 50, 79, 80, 81, 82, 83] (by decide +kernel) (by decide +kernel)
set_option maxRecDepth 20000 in
theorem gX5_goOnFrom_X1_brings : GoodIn wsX5_goOnFrom (wsV RX5 52 RX1 yX1_brings wsX1_brings) := goodIn_app (goodIn_of _ (by decide +kernel)) ggX5_goOnFrom_X1_brings
set_option maxRecDepth 20000 in
theorem ggX5_goOnFrom_X3_minutesOf : GoodIn wsX5_goOnFrom wsX3_minutesOf := goodIn_r _ [54, 55, 56, 14, 15, 4, 16, 6, 17, 7, 8, 9, 10, 11, 12, 18, 19, 20, 21, 22, 23, 24, 25, 26, 27, 28, 29, 30, 31, 32, 33, 34, 42, 43, 44, 57, 58, 59, 38, 60, 61, 74, 75, 76, 77, 78, 79, 80, 81, 82, 83] (by decide +kernel) (by decide +kernel)
set_option maxRecDepth 20000 in
theorem gX5_goOnFrom_X3_minutesOf : GoodIn wsX5_goOnFrom (wsV RX5 56 RX3 yX3_minutesOf wsX3_minutesOf) := goodIn_app (goodIn_of _ (by decide +kernel)) ggX5_goOnFrom_X3_minutesOf
set_option maxRecDepth 20000 in
theorem ggX5_goOnFrom_X5_offer : GoodIn wsX5_goOnFrom wsX5_offer := goodIn_r _ [66, 67, 68, 69, 70, 71, 72, 65, 73, 84, 85, 86] (by decide +kernel) (by decide +kernel)
set_option maxRecDepth 20000 in
theorem gX5_goOnFrom_X5_offer : GoodIn wsX5_goOnFrom (wsV RX5 60 RX5 yX5_offer wsX5_offer) := goodIn_app (goodIn_of _ (by decide +kernel)) ggX5_goOnFrom_X5_offer
theorem dX5_goOnFrom_0 : decode cX5_goOnFrom 0 = .ok (.iconst 0, 1) := by decide +kernel
theorem dX5_goOnFrom_1 : decode cX5_goOnFrom 1 = .ok (.istore 4, 2) := by decide +kernel
theorem dX5_goOnFrom_3 : decode cX5_goOnFrom 3 = .ok (.iload 4, 2) := by decide +kernel
theorem dX5_goOnFrom_5 : decode cX5_goOnFrom 5 = .ok (.iconst 2, 1) := by decide +kernel
theorem dX5_goOnFrom_6 : decode cX5_goOnFrom 6 = .ok (.aload_n 2, 1) := by decide +kernel
theorem dX5_goOnFrom_7 : decode cX5_goOnFrom 7 = .ok (.invokevirtual 33, 3) := by decide +kernel
theorem dX5_goOnFrom_10 : decode cX5_goOnFrom 10 = .ok (.imul, 1) := by decide +kernel
theorem dX5_goOnFrom_11 : decode cX5_goOnFrom 11 = .ok (.if_icmp .ge 64, 3) := by decide +kernel
theorem dX5_goOnFrom_14 : decode cX5_goOnFrom 14 = .ok (.aload_n 2, 1) := by decide +kernel
theorem dX5_goOnFrom_15 : decode cX5_goOnFrom 15 = .ok (.iload 4, 2) := by decide +kernel
theorem dX5_goOnFrom_17 : decode cX5_goOnFrom 17 = .ok (.invokevirtual 39, 3) := by decide +kernel
theorem dX5_goOnFrom_20 : decode cX5_goOnFrom 20 = .ok (.astore 5, 2) := by decide +kernel
theorem dX5_goOnFrom_22 : decode cX5_goOnFrom 22 = .ok (.aload 5, 2) := by decide +kernel
theorem dX5_goOnFrom_24 : decode cX5_goOnFrom 24 = .ok (.ifnull 45, 3) := by decide +kernel
theorem dX5_goOnFrom_27 : decode cX5_goOnFrom 27 = .ok (.iload 4, 2) := by decide +kernel
theorem dX5_goOnFrom_29 : decode cX5_goOnFrom 29 = .ok (.iconst 1, 1) := by decide +kernel
theorem dX5_goOnFrom_30 : decode cX5_goOnFrom 30 = .ok (.ishr, 1) := by decide +kernel
theorem dX5_goOnFrom_31 : decode cX5_goOnFrom 31 = .ok (.iload_n 3, 1) := by decide +kernel
theorem dX5_goOnFrom_32 : decode cX5_goOnFrom 32 = .ok (.if_icmp .eq 37, 3) := by decide +kernel
theorem dX5_goOnFrom_35 : decode cX5_goOnFrom 35 = .ok (.aload 5, 2) := by decide +kernel
theorem dX5_goOnFrom_37 : decode cX5_goOnFrom 37 = .ok (.iload_n 1, 1) := by decide +kernel
theorem dX5_goOnFrom_38 : decode cX5_goOnFrom 38 = .ok (.invokevirtual 43, 3) := by decide +kernel
theorem dX5_goOnFrom_41 : decode cX5_goOnFrom 41 = .ok (.ifCond .eq 28, 3) := by decide +kernel
theorem dX5_goOnFrom_44 : decode cX5_goOnFrom 44 = .ok (.aload_n 0, 1) := by decide +kernel
theorem dX5_goOnFrom_45 : decode cX5_goOnFrom 45 = .ok (.iload_n 1, 1) := by decide +kernel
theorem dX5_goOnFrom_46 : decode cX5_goOnFrom 46 = .ok (.iload_n 1, 1) := by decide +kernel
theorem dX5_goOnFrom_47 : decode cX5_goOnFrom 47 = .ok (.aload 5, 2) := by decide +kernel
theorem dX5_goOnFrom_49 : decode cX5_goOnFrom 49 = .ok (.iload 4, 2) := by decide +kernel
theorem dX5_goOnFrom_51 : decode cX5_goOnFrom 51 = .ok (.invokestatic 49, 3) := by decide +kernel
theorem dX5_goOnFrom_54 : decode cX5_goOnFrom 54 = .ok (.invokevirtual 52, 3) := by decide +kernel
theorem dX5_goOnFrom_57 : decode cX5_goOnFrom 57 = .ok (.ior, 1) := by decide +kernel
theorem dX5_goOnFrom_58 : decode cX5_goOnFrom 58 = .ok (.aload_n 2, 1) := by decide +kernel
theorem dX5_goOnFrom_59 : decode cX5_goOnFrom 59 = .ok (.iload 4, 2) := by decide +kernel
theorem dX5_goOnFrom_61 : decode cX5_goOnFrom 61 = .ok (.invokevirtual 56, 3) := by decide +kernel
theorem dX5_goOnFrom_64 : decode cX5_goOnFrom 64 = .ok (.iload 4, 2) := by decide +kernel
theorem dX5_goOnFrom_66 : decode cX5_goOnFrom 66 = .ok (.invokevirtual 60, 3) := by decide +kernel
theorem dX5_goOnFrom_69 : decode cX5_goOnFrom 69 = .ok (.iinc 4 1, 3) := by decide +kernel
theorem dX5_goOnFrom_72 : decode cX5_goOnFrom 72 = .ok (.goto (-69), 3) := by decide +kernel
theorem dX5_goOnFrom_75 : decode cX5_goOnFrom 75 = .ok (.return_, 1) := by decide +kernel
set_option maxRecDepth 20000 in
theorem ggX5_offer_X5_isBefore : GoodIn wsX5_offer wsX5_isBefore := goodIn_r _ [8, 2, 3, 9, 10, 11] (by decide +kernel) (by decide +kernel)
set_option maxRecDepth 20000 in
theorem gX5_offer_X5_isBefore : GoodIn wsX5_offer (wsV RX5 64 RX5 yX5_isBefore wsX5_isBefore) := goodIn_app (goodIn_of _ (by decide +kernel)) ggX5_offer_X5_isBefore
theorem dX5_offer_0 : decode cX5_offer 0 = .ok (.iload_n 1, 1) := by decide +kernel
theorem dX5_offer_1 : decode cX5_offer 1 = .ok (.ifCond .lt 16, 3) := by decide +kernel
theorem dX5_offer_4 : decode cX5_offer 4 = .ok (.iload_n 2, 1) := by decide +kernel
theorem dX5_offer_5 : decode cX5_offer 5 = .ok (.iload_n 1, 1) := by decide +kernel
theorem dX5_offer_6 : decode cX5_offer 6 = .ok (.if_icmp .le 11, 3) := by decide +kernel
theorem dX5_offer_9 : decode cX5_offer 9 = .ok (.iload_n 2, 1) := by decide +kernel
theorem dX5_offer_10 : decode cX5_offer 10 = .ok (.aload_n 0, 1) := by decide +kernel
theorem dX5_offer_11 : decode cX5_offer 11 = .ok (.getfield 19, 3) := by decide +kernel
theorem dX5_offer_14 : decode cX5_offer 14 = .ok (.if_icmp .lt 4, 3) := by decide +kernel
theorem dX5_offer_17 : decode cX5_offer 17 = .ok (.return_, 1) := by decide +kernel
theorem dX5_offer_18 : decode cX5_offer 18 = .ok (.aload_n 0, 1) := by decide +kernel
theorem dX5_offer_19 : decode cX5_offer 19 = .ok (.getfield 11, 3) := by decide +kernel
theorem dX5_offer_22 : decode cX5_offer 22 = .ok (.iload_n 1, 1) := by decide +kernel
theorem dX5_offer_23 : decode cX5_offer 23 = .ok (.iaload, 1) := by decide +kernel
theorem dX5_offer_24 : decode cX5_offer 24 = .ok (.bipush 16, 2) := by decide +kernel
theorem dX5_offer_26 : decode cX5_offer 26 = .ok (.iload_n 3, 1) := by decide +kernel
theorem dX5_offer_27 : decode cX5_offer 27 = .ok (.imul, 1) := by decide +kernel
theorem dX5_offer_28 : decode cX5_offer 28 = .ok (.iadd, 1) := by decide +kernel
theorem dX5_offer_29 : decode cX5_offer 29 = .ok (.iconst 1, 1) := by decide +kernel
theorem dX5_offer_30 : decode cX5_offer 30 = .ok (.iadd, 1) := by decide +kernel
theorem dX5_offer_31 : decode cX5_offer 31 = .ok (.istore 5, 2) := by decide +kernel
theorem dX5_offer_33 : decode cX5_offer 33 = .ok (.aload_n 0, 1) := by decide +kernel
theorem dX5_offer_34 : decode cX5_offer 34 = .ok (.getfield 15, 3) := by decide +kernel
theorem dX5_offer_37 : decode cX5_offer 37 = .ok (.iload_n 1, 1) := by decide +kernel
theorem dX5_offer_38 : decode cX5_offer 38 = .ok (.laload, 1) := by decide +kernel
theorem dX5_offer_39 : decode cX5_offer 39 = .ok (.iconst 5, 1) := by decide +kernel
theorem dX5_offer_40 : decode cX5_offer 40 = .ok (.lshl, 1) := by decide +kernel
theorem dX5_offer_41 : decode cX5_offer 41 = .ok (.iload 4, 2) := by decide +kernel
theorem dX5_offer_43 : decode cX5_offer 43 = .ok (.i2l, 1) := by decide +kernel
theorem dX5_offer_44 : decode cX5_offer 44 = .ok (.lor, 1) := by decide +kernel
theorem dX5_offer_45 : decode cX5_offer 45 = .ok (.lstore 6, 2) := by decide +kernel
theorem dX5_offer_47 : decode cX5_offer 47 = .ok (.aload_n 0, 1) := by decide +kernel
theorem dX5_offer_48 : decode cX5_offer 48 = .ok (.getfield 11, 3) := by decide +kernel
theorem dX5_offer_51 : decode cX5_offer 51 = .ok (.iload_n 2, 1) := by decide +kernel
theorem dX5_offer_52 : decode cX5_offer 52 = .ok (.iaload, 1) := by decide +kernel
theorem dX5_offer_53 : decode cX5_offer 53 = .ok (.iconst (-1), 1) := by decide +kernel
theorem dX5_offer_54 : decode cX5_offer 54 = .ok (.if_icmp .eq 15, 3) := by decide +kernel
theorem dX5_offer_57 : decode cX5_offer 57 = .ok (.aload_n 0, 1) := by decide +kernel
theorem dX5_offer_58 : decode cX5_offer 58 = .ok (.iload 5, 2) := by decide +kernel
theorem dX5_offer_60 : decode cX5_offer 60 = .ok (.lload 6, 2) := by decide +kernel
theorem dX5_offer_62 : decode cX5_offer 62 = .ok (.iload_n 2, 1) := by decide +kernel
theorem dX5_offer_63 : decode cX5_offer 63 = .ok (.invokevirtual 64, 3) := by decide +kernel
theorem dX5_offer_66 : decode cX5_offer 66 = .ok (.ifCond .eq 19, 3) := by decide +kernel
theorem dX5_offer_69 : decode cX5_offer 69 = .ok (.aload_n 0, 1) := by decide +kernel
theorem dX5_offer_70 : decode cX5_offer 70 = .ok (.getfield 11, 3) := by decide +kernel
theorem dX5_offer_73 : decode cX5_offer 73 = .ok (.iload_n 2, 1) := by decide +kernel
theorem dX5_offer_74 : decode cX5_offer 74 = .ok (.iload 5, 2) := by decide +kernel
theorem dX5_offer_76 : decode cX5_offer 76 = .ok (.iastore, 1) := by decide +kernel
theorem dX5_offer_77 : decode cX5_offer 77 = .ok (.aload_n 0, 1) := by decide +kernel
theorem dX5_offer_78 : decode cX5_offer 78 = .ok (.getfield 15, 3) := by decide +kernel
theorem dX5_offer_81 : decode cX5_offer 81 = .ok (.iload_n 2, 1) := by decide +kernel
theorem dX5_offer_82 : decode cX5_offer 82 = .ok (.lload 6, 2) := by decide +kernel
theorem dX5_offer_84 : decode cX5_offer 84 = .ok (.lastore, 1) := by decide +kernel
theorem dX5_offer_85 : decode cX5_offer 85 = .ok (.return_, 1) := by decide +kernel
theorem dX5_isBefore_0 : decode cX5_isBefore 0 = .ok (.iload_n 1, 1) := by decide +kernel
theorem dX5_isBefore_1 : decode cX5_isBefore 1 = .ok (.aload_n 0, 1) := by decide +kernel
theorem dX5_isBefore_2 : decode cX5_isBefore 2 = .ok (.getfield 11, 3) := by decide +kernel
theorem dX5_isBefore_5 : decode cX5_isBefore 5 = .ok (.iload 4, 2) := by decide +kernel
theorem dX5_isBefore_7 : decode cX5_isBefore 7 = .ok (.iaload, 1) := by decide +kernel
theorem dX5_isBefore_8 : decode cX5_isBefore 8 = .ok (.if_icmp .eq 22, 3) := by decide +kernel
theorem dX5_isBefore_11 : decode cX5_isBefore 11 = .ok (.iload_n 1, 1) := by decide +kernel
theorem dX5_isBefore_12 : decode cX5_isBefore 12 = .ok (.aload_n 0, 1) := by decide +kernel
theorem dX5_isBefore_13 : decode cX5_isBefore 13 = .ok (.getfield 11, 3) := by decide +kernel
theorem dX5_isBefore_16 : decode cX5_isBefore 16 = .ok (.iload 4, 2) := by decide +kernel
theorem dX5_isBefore_18 : decode cX5_isBefore 18 = .ok (.iaload, 1) := by decide +kernel
theorem dX5_isBefore_19 : decode cX5_isBefore 19 = .ok (.if_icmp .ge 7, 3) := by decide +kernel
theorem dX5_isBefore_22 : decode cX5_isBefore 22 = .ok (.iconst 1, 1) := by decide +kernel
theorem dX5_isBefore_23 : decode cX5_isBefore 23 = .ok (.goto 24, 3) := by decide +kernel
theorem dX5_isBefore_26 : decode cX5_isBefore 26 = .ok (.iconst 0, 1) := by decide +kernel
theorem dX5_isBefore_27 : decode cX5_isBefore 27 = .ok (.goto 20, 3) := by decide +kernel
theorem dX5_isBefore_30 : decode cX5_isBefore 30 = .ok (.lload_n 2, 1) := by decide +kernel
theorem dX5_isBefore_31 : decode cX5_isBefore 31 = .ok (.aload_n 0, 1) := by decide +kernel
theorem dX5_isBefore_32 : decode cX5_isBefore 32 = .ok (.getfield 15, 3) := by decide +kernel
theorem dX5_isBefore_35 : decode cX5_isBefore 35 = .ok (.iload 4, 2) := by decide +kernel
theorem dX5_isBefore_37 : decode cX5_isBefore 37 = .ok (.laload, 1) := by decide +kernel
theorem dX5_isBefore_38 : decode cX5_isBefore 38 = .ok (.lcmp, 1) := by decide +kernel
theorem dX5_isBefore_39 : decode cX5_isBefore 39 = .ok (.ifCond .ge 7, 3) := by decide +kernel
theorem dX5_isBefore_42 : decode cX5_isBefore 42 = .ok (.iconst 1, 1) := by decide +kernel
theorem dX5_isBefore_43 : decode cX5_isBefore 43 = .ok (.goto 4, 3) := by decide +kernel
theorem dX5_isBefore_46 : decode cX5_isBefore 46 = .ok (.iconst 0, 1) := by decide +kernel
theorem dX5_isBefore_47 : decode cX5_isBefore 47 = .ok (.ireturn, 1) := by decide +kernel
set_option maxRecDepth 20000 in
theorem ggX5_isBetter_X5_isBefore : GoodIn wsX5_isBetter wsX5_isBefore := goodIn_r _ [7, 1, 2, 8, 9, 10] (by decide +kernel) (by decide +kernel)
set_option maxRecDepth 20000 in
theorem gX5_isBetter_X5_isBefore : GoodIn wsX5_isBetter (wsV RX5 64 RX5 yX5_isBefore wsX5_isBefore) := goodIn_app (goodIn_of _ (by decide +kernel)) ggX5_isBetter_X5_isBefore
theorem dX5_isBetter_0 : decode cX5_isBetter 0 = .ok (.iload_n 2, 1) := by decide +kernel
theorem dX5_isBetter_1 : decode cX5_isBetter 1 = .ok (.iconst (-1), 1) := by decide +kernel
theorem dX5_isBetter_2 : decode cX5_isBetter 2 = .ok (.if_icmp .eq 23, 3) := by decide +kernel
theorem dX5_isBetter_5 : decode cX5_isBetter 5 = .ok (.aload_n 0, 1) := by decide +kernel
theorem dX5_isBetter_6 : decode cX5_isBetter 6 = .ok (.aload_n 0, 1) := by decide +kernel
theorem dX5_isBetter_7 : decode cX5_isBetter 7 = .ok (.getfield 11, 3) := by decide +kernel
theorem dX5_isBetter_10 : decode cX5_isBetter 10 = .ok (.iload_n 1, 1) := by decide +kernel
theorem dX5_isBetter_11 : decode cX5_isBetter 11 = .ok (.iaload, 1) := by decide +kernel
theorem dX5_isBetter_12 : decode cX5_isBetter 12 = .ok (.aload_n 0, 1) := by decide +kernel
theorem dX5_isBetter_13 : decode cX5_isBetter 13 = .ok (.getfield 15, 3) := by decide +kernel
theorem dX5_isBetter_16 : decode cX5_isBetter 16 = .ok (.iload_n 1, 1) := by decide +kernel
theorem dX5_isBetter_17 : decode cX5_isBetter 17 = .ok (.laload, 1) := by decide +kernel
theorem dX5_isBetter_18 : decode cX5_isBetter 18 = .ok (.iload_n 2, 1) := by decide +kernel
theorem dX5_isBetter_19 : decode cX5_isBetter 19 = .ok (.invokevirtual 64, 3) := by decide +kernel
theorem dX5_isBetter_22 : decode cX5_isBetter 22 = .ok (.ifCond .eq 7, 3) := by decide +kernel
theorem dX5_isBetter_25 : decode cX5_isBetter 25 = .ok (.iconst 1, 1) := by decide +kernel
theorem dX5_isBetter_26 : decode cX5_isBetter 26 = .ok (.goto 4, 3) := by decide +kernel
theorem dX5_isBetter_29 : decode cX5_isBetter 29 = .ok (.iconst 0, 1) := by decide +kernel
theorem dX5_isBetter_30 : decode cX5_isBetter 30 = .ok (.ireturn, 1) := by decide +kernel
set_option maxRecDepth 20000 in
theorem ggX5_endWith_X5_isBetter : GoodIn wsX5_endWith wsX5_isBetter := goodIn_r _ [7, 2, 8, 9, 10, 11, 6, 12, 13, 14, 15] (by decide +kernel) (by decide +kernel)
set_option maxRecDepth 20000 in
theorem gX5_endWith_X5_isBetter : GoodIn wsX5_endWith (wsV RX5 68 RX5 yX5_isBetter wsX5_isBetter) := goodIn_app (goodIn_of _ (by decide +kernel)) ggX5_endWith_X5_isBetter
theorem dX5_endWith_0 : decode cX5_endWith 0 = .ok (.iconst (-1), 1) := by decide +kernel
theorem dX5_endWith_1 : decode cX5_endWith 1 = .ok (.istore_n 2, 1) := by decide +kernel
theorem dX5_endWith_2 : decode cX5_endWith 2 = .ok (.iconst 0, 1) := by decide +kernel
theorem dX5_endWith_3 : decode cX5_endWith 3 = .ok (.istore_n 3, 1) := by decide +kernel
theorem dX5_endWith_4 : decode cX5_endWith 4 = .ok (.iload_n 3, 1) := by decide +kernel
theorem dX5_endWith_5 : decode cX5_endWith 5 = .ok (.aload_n 0, 1) := by decide +kernel
theorem dX5_endWith_6 : decode cX5_endWith 6 = .ok (.getfield 19, 3) := by decide +kernel
theorem dX5_endWith_9 : decode cX5_endWith 9 = .ok (.if_icmp .ge 37, 3) := by decide +kernel
theorem dX5_endWith_12 : decode cX5_endWith 12 = .ok (.aload_n 0, 1) := by decide +kernel
theorem dX5_endWith_13 : decode cX5_endWith 13 = .ok (.getfield 11, 3) := by decide +kernel
theorem dX5_endWith_16 : decode cX5_endWith 16 = .ok (.iload_n 3, 1) := by decide +kernel
theorem dX5_endWith_17 : decode cX5_endWith 17 = .ok (.iaload, 1) := by decide +kernel
theorem dX5_endWith_18 : decode cX5_endWith 18 = .ok (.iconst (-1), 1) := by decide +kernel
theorem dX5_endWith_19 : decode cX5_endWith 19 = .ok (.if_icmp .eq 21, 3) := by decide +kernel
theorem dX5_endWith_22 : decode cX5_endWith 22 = .ok (.iload_n 3, 1) := by decide +kernel
theorem dX5_endWith_23 : decode cX5_endWith 23 = .ok (.iload_n 1, 1) := by decide +kernel
theorem dX5_endWith_24 : decode cX5_endWith 24 = .ok (.iand, 1) := by decide +kernel
theorem dX5_endWith_25 : decode cX5_endWith 25 = .ok (.iload_n 1, 1) := by decide +kernel
theorem dX5_endWith_26 : decode cX5_endWith 26 = .ok (.if_icmp .ne 14, 3) := by decide +kernel
theorem dX5_endWith_29 : decode cX5_endWith 29 = .ok (.aload_n 0, 1) := by decide +kernel
theorem dX5_endWith_30 : decode cX5_endWith 30 = .ok (.iload_n 3, 1) := by decide +kernel
theorem dX5_endWith_31 : decode cX5_endWith 31 = .ok (.iload_n 2, 1) := by decide +kernel
theorem dX5_endWith_32 : decode cX5_endWith 32 = .ok (.invokevirtual 68, 3) := by decide +kernel
theorem dX5_endWith_35 : decode cX5_endWith 35 = .ok (.ifCond .eq 5, 3) := by decide +kernel
theorem dX5_endWith_38 : decode cX5_endWith 38 = .ok (.iload_n 3, 1) := by decide +kernel
theorem dX5_endWith_39 : decode cX5_endWith 39 = .ok (.istore_n 2, 1) := by decide +kernel
theorem dX5_endWith_40 : decode cX5_endWith 40 = .ok (.iinc 3 1, 3) := by decide +kernel
theorem dX5_endWith_43 : decode cX5_endWith 43 = .ok (.goto (-39), 3) := by decide +kernel
theorem dX5_endWith_46 : decode cX5_endWith 46 = .ok (.iload_n 2, 1) := by decide +kernel
theorem dX5_endWith_47 : decode cX5_endWith 47 = .ok (.ireturn, 1) := by decide +kernel
set_option maxRecDepth 20000 in
theorem ggX5_richestEnd_X5_minutesTo : GoodIn wsX5_richestEnd wsX5_minutesTo := goodIn_r _ [7, 1, 2, 23, 24, 25] (by decide +kernel) (by decide +kernel)
set_option maxRecDepth 20000 in
theorem gX5_richestEnd_X5_minutesTo : GoodIn wsX5_richestEnd (wsV RX5 72 RX5 yX5_minutesTo wsX5_minutesTo) := goodIn_app (goodIn_of _ (by decide +kernel)) ggX5_richestEnd_X5_minutesTo
set_option maxRecDepth 20000 in
theorem ggX5_richestEnd_X4_worthOf : GoodIn wsX5_richestEnd wsX4_worthOf := goodIn_r _ [12, 13, 26, 27, 28] (by decide +kernel) (by decide +kernel)
set_option maxRecDepth 20000 in
theorem gX5_richestEnd_X4_worthOf : GoodIn wsX5_richestEnd (wsV RX5 75 RX4 yX4_worthOf wsX4_worthOf) := goodIn_app (goodIn_of _ (by decide +kernel)) ggX5_richestEnd_X4_worthOf
set_option maxRecDepth 20000 in
theorem ggX5_richestEnd_X5_isBetter : GoodIn wsX5_richestEnd wsX5_isBetter := goodIn_r _ [17, 2, 18, 19, 20, 21, 6, 22, 23, 24, 25] (by decide +kernel) (by decide +kernel)
set_option maxRecDepth 20000 in
theorem gX5_richestEnd_X5_isBetter : GoodIn wsX5_richestEnd (wsV RX5 68 RX5 yX5_isBetter wsX5_isBetter) := goodIn_app (goodIn_of _ (by decide +kernel)) ggX5_richestEnd_X5_isBetter
theorem dX5_richestEnd_0 : decode cX5_richestEnd 0 = .ok (.iconst (-1), 1) := by decide +kernel
theorem dX5_richestEnd_1 : decode cX5_richestEnd 1 = .ok (.istore_n 3, 1) := by decide +kernel
theorem dX5_richestEnd_2 : decode cX5_richestEnd 2 = .ok (.iconst 0, 1) := by decide +kernel
theorem dX5_richestEnd_3 : decode cX5_richestEnd 3 = .ok (.istore 4, 2) := by decide +kernel
theorem dX5_richestEnd_5 : decode cX5_richestEnd 5 = .ok (.iconst 0, 1) := by decide +kernel
theorem dX5_richestEnd_6 : decode cX5_richestEnd 6 = .ok (.istore 5, 2) := by decide +kernel
theorem dX5_richestEnd_8 : decode cX5_richestEnd 8 = .ok (.iload 5, 2) := by decide +kernel
theorem dX5_richestEnd_10 : decode cX5_richestEnd 10 = .ok (.aload_n 0, 1) := by decide +kernel
theorem dX5_richestEnd_11 : decode cX5_richestEnd 11 = .ok (.getfield 19, 3) := by decide +kernel
theorem dX5_richestEnd_14 : decode cX5_richestEnd 14 = .ok (.if_icmp .ge 72, 3) := by decide +kernel
theorem dX5_richestEnd_17 : decode cX5_richestEnd 17 = .ok (.aload_n 0, 1) := by decide +kernel
theorem dX5_richestEnd_18 : decode cX5_richestEnd 18 = .ok (.getfield 11, 3) := by decide +kernel
theorem dX5_richestEnd_21 : decode cX5_richestEnd 21 = .ok (.iload 5, 2) := by decide +kernel
theorem dX5_richestEnd_23 : decode cX5_richestEnd 23 = .ok (.iaload, 1) := by decide +kernel
theorem dX5_richestEnd_24 : decode cX5_richestEnd 24 = .ok (.iconst (-1), 1) := by decide +kernel
theorem dX5_richestEnd_25 : decode cX5_richestEnd 25 = .ok (.if_icmp .eq 55, 3) := by decide +kernel
theorem dX5_richestEnd_28 : decode cX5_richestEnd 28 = .ok (.aload_n 0, 1) := by decide +kernel
theorem dX5_richestEnd_29 : decode cX5_richestEnd 29 = .ok (.iload 5, 2) := by decide +kernel
theorem dX5_richestEnd_31 : decode cX5_richestEnd 31 = .ok (.invokevirtual 72, 3) := by decide +kernel
theorem dX5_richestEnd_34 : decode cX5_richestEnd 34 = .ok (.iload_n 2, 1) := by decide +kernel
theorem dX5_richestEnd_35 : decode cX5_richestEnd 35 = .ok (.if_icmp .le 6, 3) := by decide +kernel
theorem dX5_richestEnd_38 : decode cX5_richestEnd 38 = .ok (.goto 42, 3) := by decide +kernel
theorem dX5_richestEnd_41 : decode cX5_richestEnd 41 = .ok (.aload_n 1, 1) := by decide +kernel
theorem dX5_richestEnd_42 : decode cX5_richestEnd 42 = .ok (.iload 5, 2) := by decide +kernel
theorem dX5_richestEnd_44 : decode cX5_richestEnd 44 = .ok (.invokevirtual 75, 3) := by decide +kernel
theorem dX5_richestEnd_47 : decode cX5_richestEnd 47 = .ok (.istore 6, 2) := by decide +kernel
theorem dX5_richestEnd_49 : decode cX5_richestEnd 49 = .ok (.iload 6, 2) := by decide +kernel
theorem dX5_richestEnd_51 : decode cX5_richestEnd 51 = .ok (.iload 4, 2) := by decide +kernel
theorem dX5_richestEnd_53 : decode cX5_richestEnd 53 = .ok (.if_icmp .gt 20, 3) := by decide +kernel
theorem dX5_richestEnd_56 : decode cX5_richestEnd 56 = .ok (.iload 6, 2) := by decide +kernel
theorem dX5_richestEnd_58 : decode cX5_richestEnd 58 = .ok (.iload 4, 2) := by decide +kernel
theorem dX5_richestEnd_60 : decode cX5_richestEnd 60 = .ok (.if_icmp .ne 20, 3) := by decide +kernel
theorem dX5_richestEnd_63 : decode cX5_richestEnd 63 = .ok (.aload_n 0, 1) := by decide +kernel
theorem dX5_richestEnd_64 : decode cX5_richestEnd 64 = .ok (.iload 5, 2) := by decide +kernel
theorem dX5_richestEnd_66 : decode cX5_richestEnd 66 = .ok (.iload_n 3, 1) := by decide +kernel
theorem dX5_richestEnd_67 : decode cX5_richestEnd 67 = .ok (.invokevirtual 68, 3) := by decide +kernel
theorem dX5_richestEnd_70 : decode cX5_richestEnd 70 = .ok (.ifCond .eq 10, 3) := by decide +kernel
theorem dX5_richestEnd_73 : decode cX5_richestEnd 73 = .ok (.iload 5, 2) := by decide +kernel
theorem dX5_richestEnd_75 : decode cX5_richestEnd 75 = .ok (.istore_n 3, 1) := by decide +kernel
theorem dX5_richestEnd_76 : decode cX5_richestEnd 76 = .ok (.iload 6, 2) := by decide +kernel
theorem dX5_richestEnd_78 : decode cX5_richestEnd 78 = .ok (.istore 4, 2) := by decide +kernel
theorem dX5_richestEnd_80 : decode cX5_richestEnd 80 = .ok (.iinc 5 1, 3) := by decide +kernel
theorem dX5_richestEnd_83 : decode cX5_richestEnd 83 = .ok (.goto (-75), 3) := by decide +kernel
theorem dX5_richestEnd_86 : decode cX5_richestEnd 86 = .ok (.iload_n 3, 1) := by decide +kernel
theorem dX5_richestEnd_87 : decode cX5_richestEnd 87 = .ok (.ireturn, 1) := by decide +kernel
theorem dX5_minutesTo_0 : decode cX5_minutesTo 0 = .ok (.iload_n 1, 1) := by decide +kernel
theorem dX5_minutesTo_1 : decode cX5_minutesTo 1 = .ok (.ifCond .lt 23, 3) := by decide +kernel
theorem dX5_minutesTo_4 : decode cX5_minutesTo 4 = .ok (.iload_n 1, 1) := by decide +kernel
theorem dX5_minutesTo_5 : decode cX5_minutesTo 5 = .ok (.aload_n 0, 1) := by decide +kernel
theorem dX5_minutesTo_6 : decode cX5_minutesTo 6 = .ok (.getfield 19, 3) := by decide +kernel
theorem dX5_minutesTo_9 : decode cX5_minutesTo 9 = .ok (.if_icmp .ge 15, 3) := by decide +kernel
theorem dX5_minutesTo_12 : decode cX5_minutesTo 12 = .ok (.aload_n 0, 1) := by decide +kernel
theorem dX5_minutesTo_13 : decode cX5_minutesTo 13 = .ok (.getfield 11, 3) := by decide +kernel
theorem dX5_minutesTo_16 : decode cX5_minutesTo 16 = .ok (.iload_n 1, 1) := by decide +kernel
theorem dX5_minutesTo_17 : decode cX5_minutesTo 17 = .ok (.iaload, 1) := by decide +kernel
theorem dX5_minutesTo_18 : decode cX5_minutesTo 18 = .ok (.bipush 16, 2) := by decide +kernel
theorem dX5_minutesTo_20 : decode cX5_minutesTo 20 = .ok (.idiv, 1) := by decide +kernel
theorem dX5_minutesTo_21 : decode cX5_minutesTo 21 = .ok (.goto 4, 3) := by decide +kernel
theorem dX5_minutesTo_24 : decode cX5_minutesTo 24 = .ok (.iconst (-1), 1) := by decide +kernel
theorem dX5_minutesTo_25 : decode cX5_minutesTo 25 = .ok (.ireturn, 1) := by decide +kernel
set_option maxRecDepth 20000 in
theorem ggX5_copyRow_X2_clear : GoodIn wsX5_copyRow wsX2_clear := goodIn_r _ [8, 9, 18, 19] (by decide +kernel) (by decide +kernel)
set_option maxRecDepth 20000 in
theorem gX5_copyRow_X2_clear : GoodIn wsX5_copyRow (wsV RX5 80 RX2 yX2_clear wsX2_clear) := goodIn_app (goodIn_of _ (by decide +kernel)) ggX5_copyRow_X2_clear
set_option maxRecDepth 20000 in
theorem ggX5_copyRow_X2_add : GoodIn wsX5_copyRow wsX2_add := goodIn_r _ [13, 9, 14, 18, 19] (by decide +kernel) (by decide +kernel)
set_option maxRecDepth 20000 in
theorem gX5_copyRow_X2_add : GoodIn wsX5_copyRow (wsV RX5 85 RX2 yX2_add wsX2_add) := goodIn_app (goodIn_of _ (by decide +kernel)) ggX5_copyRow_X2_add
theorem dX5_copyRow_0 : decode cX5_copyRow 0 = .ok (.iload_n 1, 1) := by decide +kernel
theorem dX5_copyRow_1 : decode cX5_copyRow 1 = .ok (.ifCond .lt 11, 3) := by decide +kernel
theorem dX5_copyRow_4 : decode cX5_copyRow 4 = .ok (.iload_n 1, 1) := by decide +kernel
theorem dX5_copyRow_5 : decode cX5_copyRow 5 = .ok (.aload_n 0, 1) := by decide +kernel
theorem dX5_copyRow_6 : decode cX5_copyRow 6 = .ok (.getfield 19, 3) := by decide +kernel
theorem dX5_copyRow_9 : decode cX5_copyRow 9 = .ok (.if_icmp .lt 4, 3) := by decide +kernel
theorem dX5_copyRow_12 : decode cX5_copyRow 12 = .ok (.return_, 1) := by decide +kernel
theorem dX5_copyRow_13 : decode cX5_copyRow 13 = .ok (.aload_n 2, 1) := by decide +kernel
theorem dX5_copyRow_14 : decode cX5_copyRow 14 = .ok (.invokevirtual 80, 3) := by decide +kernel
theorem dX5_copyRow_17 : decode cX5_copyRow 17 = .ok (.aload_n 0, 1) := by decide +kernel
theorem dX5_copyRow_18 : decode cX5_copyRow 18 = .ok (.getfield 11, 3) := by decide +kernel
theorem dX5_copyRow_21 : decode cX5_copyRow 21 = .ok (.iload_n 1, 1) := by decide +kernel
theorem dX5_copyRow_22 : decode cX5_copyRow 22 = .ok (.iaload, 1) := by decide +kernel
theorem dX5_copyRow_23 : decode cX5_copyRow 23 = .ok (.bipush 16, 2) := by decide +kernel
theorem dX5_copyRow_25 : decode cX5_copyRow 25 = .ok (.irem, 1) := by decide +kernel
theorem dX5_copyRow_26 : decode cX5_copyRow 26 = .ok (.iconst 1, 1) := by decide +kernel
theorem dX5_copyRow_27 : decode cX5_copyRow 27 = .ok (.isub, 1) := by decide +kernel
theorem dX5_copyRow_28 : decode cX5_copyRow 28 = .ok (.istore_n 3, 1) := by decide +kernel
theorem dX5_copyRow_29 : decode cX5_copyRow 29 = .ok (.iload_n 3, 1) := by decide +kernel
theorem dX5_copyRow_30 : decode cX5_copyRow 30 = .ok (.ifCond .lt 27, 3) := by decide +kernel
theorem dX5_copyRow_33 : decode cX5_copyRow 33 = .ok (.aload_n 2, 1) := by decide +kernel
theorem dX5_copyRow_34 : decode cX5_copyRow 34 = .ok (.aload_n 0, 1) := by decide +kernel
theorem dX5_copyRow_35 : decode cX5_copyRow 35 = .ok (.getfield 15, 3) := by decide +kernel
theorem dX5_copyRow_38 : decode cX5_copyRow 38 = .ok (.iload_n 1, 1) := by decide +kernel
theorem dX5_copyRow_39 : decode cX5_copyRow 39 = .ok (.laload, 1) := by decide +kernel
theorem dX5_copyRow_40 : decode cX5_copyRow 40 = .ok (.iconst 5, 1) := by decide +kernel
theorem dX5_copyRow_41 : decode cX5_copyRow 41 = .ok (.iload_n 3, 1) := by decide +kernel
theorem dX5_copyRow_42 : decode cX5_copyRow 42 = .ok (.imul, 1) := by decide +kernel
theorem dX5_copyRow_43 : decode cX5_copyRow 43 = .ok (.lshr, 1) := by decide +kernel
theorem dX5_copyRow_44 : decode cX5_copyRow 44 = .ok (.l2i, 1) := by decide +kernel
theorem dX5_copyRow_45 : decode cX5_copyRow 45 = .ok (.bipush 31, 2) := by decide +kernel
theorem dX5_copyRow_47 : decode cX5_copyRow 47 = .ok (.iand, 1) := by decide +kernel
theorem dX5_copyRow_48 : decode cX5_copyRow 48 = .ok (.invokevirtual 85, 3) := by decide +kernel
theorem dX5_copyRow_51 : decode cX5_copyRow 51 = .ok (.iinc 3 (-1), 3) := by decide +kernel
theorem dX5_copyRow_54 : decode cX5_copyRow 54 = .ok (.goto (-25), 3) := by decide +kernel
theorem dX5_copyRow_57 : decode cX5_copyRow 57 = .ok (.return_, 1) := by decide +kernel
set_option maxRecDepth 20000 in
theorem ggX6_init_X2_init : GoodIn wsX6_init wsX2_init := goodIn_r _ [13, 14, 2, 3, 4, 15, 16, 20, 21] (by decide +kernel) (by decide +kernel)
set_option maxRecDepth 20000 in
theorem gX6_init_X2_init : GoodIn wsX6_init (wsX2_init) := ggX6_init_X2_init
theorem dX6_init_0 : decode cX6_init 0 = .ok (.aload_n 0, 1) := by decide +kernel
theorem dX6_init_1 : decode cX6_init 1 = .ok (.invokespecial 3, 3) := by decide +kernel
theorem dX6_init_4 : decode cX6_init 4 = .ok (.aload_n 0, 1) := by decide +kernel
theorem dX6_init_5 : decode cX6_init 5 = .ok (.bipush 52, 2) := by decide +kernel
theorem dX6_init_7 : decode cX6_init 7 = .ok (.newarray .int, 2) := by decide +kernel
theorem dX6_init_9 : decode cX6_init 9 = .ok (.putfield 9, 3) := by decide +kernel
theorem dX6_init_12 : decode cX6_init 12 = .ok (.iconst 0, 1) := by decide +kernel
theorem dX6_init_13 : decode cX6_init 13 = .ok (.istore_n 1, 1) := by decide +kernel
theorem dX6_init_14 : decode cX6_init 14 = .ok (.iload_n 1, 1) := by decide +kernel
theorem dX6_init_15 : decode cX6_init 15 = .ok (.aload_n 0, 1) := by decide +kernel
theorem dX6_init_16 : decode cX6_init 16 = .ok (.getfield 9, 3) := by decide +kernel
theorem dX6_init_19 : decode cX6_init 19 = .ok (.arraylength, 1) := by decide +kernel
theorem dX6_init_20 : decode cX6_init 20 = .ok (.if_icmp .ge 18, 3) := by decide +kernel
theorem dX6_init_23 : decode cX6_init 23 = .ok (.aload_n 0, 1) := by decide +kernel
theorem dX6_init_24 : decode cX6_init 24 = .ok (.getfield 9, 3) := by decide +kernel
theorem dX6_init_27 : decode cX6_init 27 = .ok (.iload_n 1, 1) := by decide +kernel
theorem dX6_init_28 : decode cX6_init 28 = .ok (.sipush 300, 3) := by decide +kernel
theorem dX6_init_31 : decode cX6_init 31 = .ok (.iastore, 1) := by decide +kernel
theorem dX6_init_32 : decode cX6_init 32 = .ok (.iinc 1 1, 3) := by decide +kernel
theorem dX6_init_35 : decode cX6_init 35 = .ok (.goto (-21), 3) := by decide +kernel
theorem dX6_init_38 : decode cX6_init 38 = .ok (.aload_n 0, 1) := by decide +kernel
theorem dX6_init_39 : decode cX6_init 39 = .ok (.new 15, 3) := by decide +kernel
theorem dX6_init_42 : decode cX6_init 42 = .ok (.dup, 1) := by decide +kernel
theorem dX6_init_43 : decode cX6_init 43 = .ok (.invokespecial 17, 3) := by decide +kernel
theorem dX6_init_46 : decode cX6_init 46 = .ok (.putfield 18, 3) := by decide +kernel
theorem dX6_init_49 : decode cX6_init 49 = .ok (.aload_n 0, 1) := by decide +kernel
theorem dX6_init_50 : decode cX6_init 50 = .ok (.new 15, 3) := by decide +kernel
theorem dX6_init_53 : decode cX6_init 53 = .ok (.dup, 1) := by decide +kernel
theorem dX6_init_54 : decode cX6_init 54 = .ok (.invokespecial 17, 3) := by decide +kernel
theorem dX6_init_57 : decode cX6_init 57 = .ok (.putfield 22, 3) := by decide +kernel
theorem dX6_init_60 : decode cX6_init 60 = .ok (.return_, 1) := by decide +kernel
theorem dX6_change_0 : decode cX6_change 0 = .ok (.iload_n 1, 1) := by decide +kernel
theorem dX6_change_1 : decode cX6_change 1 = .ok (.ifCond .lt 19, 3) := by decide +kernel
theorem dX6_change_4 : decode cX6_change 4 = .ok (.iload_n 1, 1) := by decide +kernel
theorem dX6_change_5 : decode cX6_change 5 = .ok (.aload_n 0, 1) := by decide +kernel
theorem dX6_change_6 : decode cX6_change 6 = .ok (.getfield 9, 3) := by decide +kernel
theorem dX6_change_9 : decode cX6_change 9 = .ok (.arraylength, 1) := by decide +kernel
theorem dX6_change_10 : decode cX6_change 10 = .ok (.if_icmp .ge 10, 3) := by decide +kernel
theorem dX6_change_13 : decode cX6_change 13 = .ok (.aload_n 0, 1) := by decide +kernel
theorem dX6_change_14 : decode cX6_change 14 = .ok (.getfield 9, 3) := by decide +kernel
theorem dX6_change_17 : decode cX6_change 17 = .ok (.iload_n 1, 1) := by decide +kernel
theorem dX6_change_18 : decode cX6_change 18 = .ok (.iload_n 2, 1) := by decide +kernel
theorem dX6_change_19 : decode cX6_change 19 = .ok (.iastore, 1) := by decide +kernel
theorem dX6_change_20 : decode cX6_change 20 = .ok (.return_, 1) := by decide +kernel
set_option maxRecDepth 20000 in
theorem ggX6_weekOf_X2_at : GoodIn wsX6_weekOf wsX2_at := goodIn_r _ [6, 7, 8, 12, 13] (by decide +kernel) (by decide +kernel)
set_option maxRecDepth 20000 in
theorem gX6_weekOf_X2_at : GoodIn wsX6_weekOf (wsV RX6 25 RX2 yX2_at wsX2_at) := goodIn_app (goodIn_of _ (by decide +kernel)) ggX6_weekOf_X2_at
theorem dX6_weekOf_0 : decode cX6_weekOf 0 = .ok (.aload_n 0, 1) := by decide +kernel
theorem dX6_weekOf_1 : decode cX6_weekOf 1 = .ok (.getfield 18, 3) := by decide +kernel
theorem dX6_weekOf_4 : decode cX6_weekOf 4 = .ok (.iload_n 1, 1) := by decide +kernel
theorem dX6_weekOf_5 : decode cX6_weekOf 5 = .ok (.invokevirtual 25, 3) := by decide +kernel
theorem dX6_weekOf_8 : decode cX6_weekOf 8 = .ok (.ireturn, 1) := by decide +kernel
set_option maxRecDepth 20000 in
theorem ggX6_layRow_X2_clear : GoodIn wsX6_layRow wsX2_clear := goodIn_r _ [8, 9, 78, 79] (by decide +kernel) (by decide +kernel)
set_option maxRecDepth 20000 in
theorem gX6_layRow_X2_clear : GoodIn wsX6_layRow (wsV RX6 29 RX2 yX2_clear wsX2_clear) := goodIn_app (goodIn_of _ (by decide +kernel)) ggX6_layRow_X2_clear
set_option maxRecDepth 20000 in
theorem ggX6_layRow_X2_size : GoodIn wsX6_layRow wsX2_size := goodIn_r _ [13, 9, 78, 79] (by decide +kernel) (by decide +kernel)
set_option maxRecDepth 20000 in
theorem gX6_layRow_X2_size : GoodIn wsX6_layRow (wsV RX6 32 RX2 yX2_size wsX2_size) := goodIn_app (goodIn_of _ (by decide +kernel)) ggX6_layRow_X2_size
set_option maxRecDepth 20000 in
theorem ggX6_layRow_X2_at : GoodIn wsX6_layRow wsX2_at := goodIn_r _ [17, 9, 18, 78, 79] (by decide +kernel) (by decide +kernel)
set_option maxRecDepth 20000 in
theorem gX6_layRow_X2_at : GoodIn wsX6_layRow (wsV RX6 25 RX2 yX2_at wsX2_at) := goodIn_app (goodIn_of _ (by decide +kernel)) ggX6_layRow_X2_at
set_option maxRecDepth 20000 in
theorem ggX6_layRow_X3_minutesOf : GoodIn wsX6_layRow wsX3_minutesOf := goodIn_r _ [23, 24, 25, 26, 27, 22, 28, 29, 30, 31, 32, 33, 34, 35, 36, 37, 38, 39, 40, 41, 42, 43, 44, 45, 46, 47, 48, 49, 50, 51, 52, 53, 54, 55, 56, 57, 58, 59, 60, 61, 62, 80, 81, 82, 83, 84, 85, 86, 87, 88, 89] (by decide +kernel) (by decide +kernel)
set_option maxRecDepth 20000 in
theorem gX6_layRow_X3_minutesOf : GoodIn wsX6_layRow (wsV RX6 36 RX3 yX3_minutesOf wsX3_minutesOf) := goodIn_app (goodIn_of _ (by decide +kernel)) ggX6_layRow_X3_minutesOf
set_option maxRecDepth 20000 in
theorem ggX6_layRow_X2_add : GoodIn wsX6_layRow wsX2_add := goodIn_r _ [66, 9, 18, 78, 79] (by decide +kernel) (by decide +kernel)
set_option maxRecDepth 20000 in
theorem gX6_layRow_X2_add : GoodIn wsX6_layRow (wsV RX6 41 RX2 yX2_add wsX2_add) := goodIn_app (goodIn_of _ (by decide +kernel)) ggX6_layRow_X2_add
set_option maxRecDepth 20000 in
theorem ggX6_layRow_X2_become : GoodIn wsX6_layRow wsX2_become := goodIn_r _ [70, 71, 5, 6, 7, 8, 9, 72, 11, 12, 13, 73, 15, 16, 17, 18, 74, 64, 65, 66, 78, 79] (by decide +kernel) (by decide +kernel)
set_option maxRecDepth 20000 in
theorem gX6_layRow_X2_become : GoodIn wsX6_layRow (wsV RX6 45 RX2 yX2_become wsX2_become) := goodIn_app (goodIn_of _ (by decide +kernel)) ggX6_layRow_X2_become
theorem dX6_layRow_0 : decode cX6_layRow 0 = .ok (.iload_n 3, 1) := by decide +kernel
theorem dX6_layRow_1 : decode cX6_layRow 1 = .ok (.ifCond .lt 12, 3) := by decide +kernel
theorem dX6_layRow_4 : decode cX6_layRow 4 = .ok (.iload_n 3, 1) := by decide +kernel
theorem dX6_layRow_5 : decode cX6_layRow 5 = .ok (.aload_n 0, 1) := by decide +kernel
theorem dX6_layRow_6 : decode cX6_layRow 6 = .ok (.getfield 9, 3) := by decide +kernel
theorem dX6_layRow_9 : decode cX6_layRow 9 = .ok (.arraylength, 1) := by decide +kernel
theorem dX6_layRow_10 : decode cX6_layRow 10 = .ok (.if_icmp .lt 5, 3) := by decide +kernel
theorem dX6_layRow_13 : decode cX6_layRow 13 = .ok (.iconst (-1), 1) := by decide +kernel
theorem dX6_layRow_14 : decode cX6_layRow 14 = .ok (.ireturn, 1) := by decide +kernel
theorem dX6_layRow_15 : decode cX6_layRow 15 = .ok (.iload_n 3, 1) := by decide +kernel
theorem dX6_layRow_16 : decode cX6_layRow 16 = .ok (.istore 4, 2) := by decide +kernel
theorem dX6_layRow_18 : decode cX6_layRow 18 = .ok (.aload_n 0, 1) := by decide +kernel
theorem dX6_layRow_19 : decode cX6_layRow 19 = .ok (.getfield 9, 3) := by decide +kernel
theorem dX6_layRow_22 : decode cX6_layRow 22 = .ok (.iload_n 3, 1) := by decide +kernel
theorem dX6_layRow_23 : decode cX6_layRow 23 = .ok (.iaload, 1) := by decide +kernel
theorem dX6_layRow_24 : decode cX6_layRow 24 = .ok (.istore 5, 2) := by decide +kernel
theorem dX6_layRow_26 : decode cX6_layRow 26 = .ok (.aload_n 0, 1) := by decide +kernel
theorem dX6_layRow_27 : decode cX6_layRow 27 = .ok (.getfield 22, 3) := by decide +kernel
theorem dX6_layRow_30 : decode cX6_layRow 30 = .ok (.invokevirtual 29, 3) := by decide +kernel
theorem dX6_layRow_33 : decode cX6_layRow 33 = .ok (.iconst 0, 1) := by decide +kernel
theorem dX6_layRow_34 : decode cX6_layRow 34 = .ok (.istore 6, 2) := by decide +kernel
theorem dX6_layRow_36 : decode cX6_layRow 36 = .ok (.iload 6, 2) := by decide +kernel
theorem dX6_layRow_38 : decode cX6_layRow 38 = .ok (.aload_n 1, 1) := by decide +kernel
theorem dX6_layRow_39 : decode cX6_layRow 39 = .ok (.invokevirtual 32, 3) := by decide +kernel
theorem dX6_layRow_42 : decode cX6_layRow 42 = .ok (.if_icmp .ge 87, 3) := by decide +kernel
theorem dX6_layRow_45 : decode cX6_layRow 45 = .ok (.aload_n 2, 1) := by decide +kernel
theorem dX6_layRow_46 : decode cX6_layRow 46 = .ok (.aload_n 1, 1) := by decide +kernel
theorem dX6_layRow_47 : decode cX6_layRow 47 = .ok (.iload 6, 2) := by decide +kernel
theorem dX6_layRow_49 : decode cX6_layRow 49 = .ok (.invokevirtual 25, 3) := by decide +kernel
theorem dX6_layRow_52 : decode cX6_layRow 52 = .ok (.invokevirtual 36, 3) := by decide +kernel
theorem dX6_layRow_55 : decode cX6_layRow 55 = .ok (.istore 7, 2) := by decide +kernel
theorem dX6_layRow_57 : decode cX6_layRow 57 = .ok (.iload 5, 2) := by decide +kernel
theorem dX6_layRow_59 : decode cX6_layRow 59 = .ok (.iload 7, 2) := by decide +kernel
theorem dX6_layRow_61 : decode cX6_layRow 61 = .ok (.if_icmp .ge 30, 3) := by decide +kernel
theorem dX6_layRow_64 : decode cX6_layRow 64 = .ok (.iload 4, 2) := by decide +kernel
theorem dX6_layRow_66 : decode cX6_layRow 66 = .ok (.iconst 1, 1) := by decide +kernel
theorem dX6_layRow_67 : decode cX6_layRow 67 = .ok (.iadd, 1) := by decide +kernel
theorem dX6_layRow_68 : decode cX6_layRow 68 = .ok (.aload_n 0, 1) := by decide +kernel
theorem dX6_layRow_69 : decode cX6_layRow 69 = .ok (.getfield 9, 3) := by decide +kernel
theorem dX6_layRow_72 : decode cX6_layRow 72 = .ok (.arraylength, 1) := by decide +kernel
theorem dX6_layRow_73 : decode cX6_layRow 73 = .ok (.if_icmp .ge 18, 3) := by decide +kernel
theorem dX6_layRow_76 : decode cX6_layRow 76 = .ok (.iinc 4 1, 3) := by decide +kernel
theorem dX6_layRow_79 : decode cX6_layRow 79 = .ok (.aload_n 0, 1) := by decide +kernel
theorem dX6_layRow_80 : decode cX6_layRow 80 = .ok (.getfield 9, 3) := by decide +kernel
theorem dX6_layRow_83 : decode cX6_layRow 83 = .ok (.iload 4, 2) := by decide +kernel
theorem dX6_layRow_85 : decode cX6_layRow 85 = .ok (.iaload, 1) := by decide +kernel
theorem dX6_layRow_86 : decode cX6_layRow 86 = .ok (.istore 5, 2) := by decide +kernel
theorem dX6_layRow_88 : decode cX6_layRow 88 = .ok (.goto (-31), 3) := by decide +kernel
theorem dX6_layRow_91 : decode cX6_layRow 91 = .ok (.iload 7, 2) := by decide +kernel
theorem dX6_layRow_93 : decode cX6_layRow 93 = .ok (.iconst (-1), 1) := by decide +kernel
theorem dX6_layRow_94 : decode cX6_layRow 94 = .ok (.if_icmp .eq 10, 3) := by decide +kernel
theorem dX6_layRow_97 : decode cX6_layRow 97 = .ok (.iload 5, 2) := by decide +kernel
theorem dX6_layRow_99 : decode cX6_layRow 99 = .ok (.iload 7, 2) := by decide +kernel
theorem dX6_layRow_101 : decode cX6_layRow 101 = .ok (.if_icmp .ge 6, 3) := by decide +kernel
theorem dX6_layRow_104 : decode cX6_layRow 104 = .ok (.bipush (-2), 2) := by decide +kernel
theorem dX6_layRow_106 : decode cX6_layRow 106 = .ok (.ireturn, 1) := by decide +kernel
theorem dX6_layRow_107 : decode cX6_layRow 107 = .ok (.iload 5, 2) := by decide +kernel
theorem dX6_layRow_109 : decode cX6_layRow 109 = .ok (.iload 7, 2) := by decide +kernel
theorem dX6_layRow_111 : decode cX6_layRow 111 = .ok (.isub, 1) := by decide +kernel
theorem dX6_layRow_112 : decode cX6_layRow 112 = .ok (.istore 5, 2) := by decide +kernel
theorem dX6_layRow_114 : decode cX6_layRow 114 = .ok (.aload_n 0, 1) := by decide +kernel
theorem dX6_layRow_115 : decode cX6_layRow 115 = .ok (.getfield 22, 3) := by decide +kernel
theorem dX6_layRow_118 : decode cX6_layRow 118 = .ok (.iload 4, 2) := by decide +kernel
theorem dX6_layRow_120 : decode cX6_layRow 120 = .ok (.invokevirtual 41, 3) := by decide +kernel
theorem dX6_layRow_123 : decode cX6_layRow 123 = .ok (.iinc 6 1, 3) := by decide +kernel
theorem dX6_layRow_126 : decode cX6_layRow 126 = .ok (.goto (-90), 3) := by decide +kernel
theorem dX6_layRow_129 : decode cX6_layRow 129 = .ok (.aload_n 0, 1) := by decide +kernel
theorem dX6_layRow_130 : decode cX6_layRow 130 = .ok (.getfield 18, 3) := by decide +kernel
theorem dX6_layRow_133 : decode cX6_layRow 133 = .ok (.aload_n 0, 1) := by decide +kernel
theorem dX6_layRow_134 : decode cX6_layRow 134 = .ok (.getfield 22, 3) := by decide +kernel
theorem dX6_layRow_137 : decode cX6_layRow 137 = .ok (.invokevirtual 45, 3) := by decide +kernel
theorem dX6_layRow_140 : decode cX6_layRow 140 = .ok (.iload 4, 2) := by decide +kernel
theorem dX6_layRow_142 : decode cX6_layRow 142 = .ok (.ireturn, 1) := by decide +kernel
set_option maxRecDepth 20000 in
theorem ggX7_init_X4_init : GoodIn wsX7_init wsX4_init := goodIn_r _ [31, 32, 2, 3, 33, 34, 35, 36, 92, 93, 94] (by decide +kernel) (by decide +kernel)
set_option maxRecDepth 20000 in
theorem gX7_init_X4_init : GoodIn wsX7_init (wsX4_init) := ggX7_init_X4_init
set_option maxRecDepth 20000 in
theorem ggX7_init_X3_init : GoodIn wsX7_init wsX3_init := goodIn_r _ [39, 40, 2, 3, 41, 42, 43, 44, 45, 46, 47, 48, 49, 50, 51, 52, 53, 54, 55, 56, 57, 58, 59, 60, 116, 117, 118, 102, 103] (by decide +kernel) (by decide +kernel)
set_option maxRecDepth 20000 in
theorem gX7_init_X3_init : GoodIn wsX7_init (wsX3_init) := ggX7_init_X3_init
set_option maxRecDepth 20000 in
theorem ggX7_init_X5_init : GoodIn wsX7_init wsX5_init := goodIn_r _ [63, 64, 2, 3, 33, 65, 66, 67, 68, 104, 105, 106] (by decide +kernel) (by decide +kernel)
set_option maxRecDepth 20000 in
theorem gX7_init_X5_init : GoodIn wsX7_init (wsX5_init) := ggX7_init_X5_init
set_option maxRecDepth 20000 in
theorem ggX7_init_X2_init : GoodIn wsX7_init wsX2_init := goodIn_r _ [71, 72, 2, 3, 33, 73, 74, 107, 108] (by decide +kernel) (by decide +kernel)
set_option maxRecDepth 20000 in
theorem gX7_init_X2_init : GoodIn wsX7_init (wsX2_init) := ggX7_init_X2_init
set_option maxRecDepth 20000 in
theorem ggX7_init_X6_init : GoodIn wsX7_init wsX6_init := goodIn_r _ [77, 78, 2, 3, 33, 79, 80, 17, 18, 81, 82, 83, 70, 71, 72, 73, 74, 109, 110, 111, 107, 108] (by decide +kernel) (by decide +kernel)
set_option maxRecDepth 20000 in
theorem gX7_init_X6_init : GoodIn wsX7_init (wsX6_init) := ggX7_init_X6_init
set_option maxRecDepth 20000 in
theorem ggX7_init_X0_init : GoodIn wsX7_init wsX0_init := goodIn_r _ [86, 87, 2, 3, 33, 88, 89, 90, 91, 112, 113, 114, 115] (by decide +kernel) (by decide +kernel)
set_option maxRecDepth 20000 in
theorem gX7_init_X0_init : GoodIn wsX7_init (wsX0_init) := ggX7_init_X0_init
theorem dX7_init_0 : decode cX7_init 0 = .ok (.aload_n 0, 1) := by decide +kernel
theorem dX7_init_1 : decode cX7_init 1 = .ok (.invokespecial 3, 3) := by decide +kernel
theorem dX7_init_4 : decode cX7_init 4 = .ok (.aload_n 0, 1) := by decide +kernel
theorem dX7_init_5 : decode cX7_init 5 = .ok (.new 9, 3) := by decide +kernel
theorem dX7_init_8 : decode cX7_init 8 = .ok (.dup, 1) := by decide +kernel
theorem dX7_init_9 : decode cX7_init 9 = .ok (.invokespecial 11, 3) := by decide +kernel
theorem dX7_init_12 : decode cX7_init 12 = .ok (.putfield 12, 3) := by decide +kernel
theorem dX7_init_15 : decode cX7_init 15 = .ok (.aload_n 0, 1) := by decide +kernel
theorem dX7_init_16 : decode cX7_init 16 = .ok (.new 16, 3) := by decide +kernel
theorem dX7_init_19 : decode cX7_init 19 = .ok (.dup, 1) := by decide +kernel
theorem dX7_init_20 : decode cX7_init 20 = .ok (.invokespecial 18, 3) := by decide +kernel
theorem dX7_init_23 : decode cX7_init 23 = .ok (.putfield 19, 3) := by decide +kernel
theorem dX7_init_26 : decode cX7_init 26 = .ok (.aload_n 0, 1) := by decide +kernel
theorem dX7_init_27 : decode cX7_init 27 = .ok (.new 23, 3) := by decide +kernel
theorem dX7_init_30 : decode cX7_init 30 = .ok (.dup, 1) := by decide +kernel
theorem dX7_init_31 : decode cX7_init 31 = .ok (.invokespecial 25, 3) := by decide +kernel
theorem dX7_init_34 : decode cX7_init 34 = .ok (.putfield 26, 3) := by decide +kernel
theorem dX7_init_37 : decode cX7_init 37 = .ok (.aload_n 0, 1) := by decide +kernel
theorem dX7_init_38 : decode cX7_init 38 = .ok (.new 30, 3) := by decide +kernel
theorem dX7_init_41 : decode cX7_init 41 = .ok (.dup, 1) := by decide +kernel
theorem dX7_init_42 : decode cX7_init 42 = .ok (.invokespecial 32, 3) := by decide +kernel
theorem dX7_init_45 : decode cX7_init 45 = .ok (.putfield 33, 3) := by decide +kernel
theorem dX7_init_48 : decode cX7_init 48 = .ok (.aload_n 0, 1) := by decide +kernel
theorem dX7_init_49 : decode cX7_init 49 = .ok (.new 37, 3) := by decide +kernel
theorem dX7_init_52 : decode cX7_init 52 = .ok (.dup, 1) := by decide +kernel
theorem dX7_init_53 : decode cX7_init 53 = .ok (.invokespecial 39, 3) := by decide +kernel
theorem dX7_init_56 : decode cX7_init 56 = .ok (.putfield 40, 3) := by decide +kernel
theorem dX7_init_59 : decode cX7_init 59 = .ok (.aload_n 0, 1) := by decide +kernel
theorem dX7_init_60 : decode cX7_init 60 = .ok (.new 44, 3) := by decide +kernel
theorem dX7_init_63 : decode cX7_init 63 = .ok (.dup, 1) := by decide +kernel
theorem dX7_init_64 : decode cX7_init 64 = .ok (.invokespecial 46, 3) := by decide +kernel
theorem dX7_init_67 : decode cX7_init 67 = .ok (.putfield 47, 3) := by decide +kernel
theorem dX7_init_70 : decode cX7_init 70 = .ok (.aload_n 0, 1) := by decide +kernel
theorem dX7_init_71 : decode cX7_init 71 = .ok (.iconst 0, 1) := by decide +kernel
theorem dX7_init_72 : decode cX7_init 72 = .ok (.putfield 51, 3) := by decide +kernel
theorem dX7_init_75 : decode cX7_init 75 = .ok (.return_, 1) := by decide +kernel
set_option maxRecDepth 20000 in
theorem ggX7_topic_X7_isWithin : GoodIn wsX7_topic wsX7_isWithin := goodIn_r _ [6] (by decide +kernel) (by decide +kernel)
set_option maxRecDepth 20000 in
theorem gX7_topic_X7_isWithin : GoodIn wsX7_topic (va_wsS RX7 55 yX7_isWithin wsX7_isWithin) := goodIn_app (goodIn_of _ (by decide +kernel)) ggX7_topic_X7_isWithin
set_option maxRecDepth 20000 in
theorem ggX7_topic_X4_haveAll : GoodIn wsX7_topic wsX4_haveAll := goodIn_r _ [11, 12, 41, 42, 43] (by decide +kernel) (by decide +kernel)
set_option maxRecDepth 20000 in
theorem gX7_topic_X4_haveAll : GoodIn wsX7_topic (wsV RX7 59 RX4 yX4_haveAll wsX4_haveAll) := goodIn_app (goodIn_of _ (by decide +kernel)) ggX7_topic_X4_haveAll
set_option maxRecDepth 20000 in
theorem ggX7_topic_X4_add : GoodIn wsX7_topic wsX4_add := goodIn_r _ [16, 12, 17, 18, 19, 20, 21, 10, 22, 41, 42, 43] (by decide +kernel) (by decide +kernel)
set_option maxRecDepth 20000 in
theorem gX7_topic_X4_add : GoodIn wsX7_topic (wsV RX7 63 RX4 yX4_add wsX4_add) := goodIn_app (goodIn_of _ (by decide +kernel)) ggX7_topic_X4_add
set_option maxRecDepth 20000 in
theorem ggX7_topic_X4_impliedBy : GoodIn wsX7_topic wsX4_impliedBy := goodIn_r _ [26, 19, 20, 21, 10, 22, 18, 41, 42, 43] (by decide +kernel) (by decide +kernel)
set_option maxRecDepth 20000 in
theorem gX7_topic_X4_impliedBy : GoodIn wsX7_topic (wsV RX7 67 RX4 yX4_impliedBy wsX4_impliedBy) := goodIn_app (goodIn_of _ (by decide +kernel)) ggX7_topic_X4_impliedBy
set_option maxRecDepth 20000 in
theorem ggX7_topic_X0_addTopic : GoodIn wsX7_topic wsX0_addTopic := goodIn_r _ [31, 32, 33, 44, 45, 46, 47] (by decide +kernel) (by decide +kernel)
set_option maxRecDepth 20000 in
theorem gX7_topic_X0_addTopic : GoodIn wsX7_topic (wsV RX7 71 RX0 yX0_addTopic wsX0_addTopic) := goodIn_app (goodIn_of _ (by decide +kernel)) ggX7_topic_X0_addTopic
theorem dX7_topic_0 : decode cX7_topic 0 = .ok (.iload_n 1, 1) := by decide +kernel
theorem dX7_topic_1 : decode cX7_topic 1 = .ok (.iconst 0, 1) := by decide +kernel
theorem dX7_topic_2 : decode cX7_topic 2 = .ok (.bipush 9, 2) := by decide +kernel
theorem dX7_topic_4 : decode cX7_topic 4 = .ok (.invokestatic 55, 3) := by decide +kernel
theorem dX7_topic_7 : decode cX7_topic 7 = .ok (.ifCond .eq 14, 3) := by decide +kernel
theorem dX7_topic_10 : decode cX7_topic 10 = .ok (.aload_n 0, 1) := by decide +kernel
theorem dX7_topic_11 : decode cX7_topic 11 = .ok (.getfield 12, 3) := by decide +kernel
theorem dX7_topic_14 : decode cX7_topic 14 = .ok (.iload_n 2, 1) := by decide +kernel
theorem dX7_topic_15 : decode cX7_topic 15 = .ok (.invokevirtual 59, 3) := by decide +kernel
theorem dX7_topic_18 : decode cX7_topic 18 = .ok (.ifCond .ne 5, 3) := by decide +kernel
theorem dX7_topic_21 : decode cX7_topic 21 = .ok (.iconst (-1), 1) := by decide +kernel
theorem dX7_topic_22 : decode cX7_topic 22 = .ok (.ireturn, 1) := by decide +kernel
theorem dX7_topic_23 : decode cX7_topic 23 = .ok (.aload_n 0, 1) := by decide +kernel
theorem dX7_topic_24 : decode cX7_topic 24 = .ok (.getfield 12, 3) := by decide +kernel
theorem dX7_topic_27 : decode cX7_topic 27 = .ok (.iload_n 1, 1) := by decide +kernel
theorem dX7_topic_28 : decode cX7_topic 28 = .ok (.iload_n 2, 1) := by decide +kernel
theorem dX7_topic_29 : decode cX7_topic 29 = .ok (.invokevirtual 63, 3) := by decide +kernel
theorem dX7_topic_32 : decode cX7_topic 32 = .ok (.istore_n 3, 1) := by decide +kernel
theorem dX7_topic_33 : decode cX7_topic 33 = .ok (.iload_n 3, 1) := by decide +kernel
theorem dX7_topic_34 : decode cX7_topic 34 = .ok (.iconst (-1), 1) := by decide +kernel
theorem dX7_topic_35 : decode cX7_topic 35 = .ok (.if_icmp .eq 19, 3) := by decide +kernel
theorem dX7_topic_38 : decode cX7_topic 38 = .ok (.aload_n 0, 1) := by decide +kernel
theorem dX7_topic_39 : decode cX7_topic 39 = .ok (.getfield 47, 3) := by decide +kernel
theorem dX7_topic_42 : decode cX7_topic 42 = .ok (.iload_n 3, 1) := by decide +kernel
theorem dX7_topic_43 : decode cX7_topic 43 = .ok (.aload_n 0, 1) := by decide +kernel
theorem dX7_topic_44 : decode cX7_topic 44 = .ok (.getfield 12, 3) := by decide +kernel
theorem dX7_topic_47 : decode cX7_topic 47 = .ok (.iload_n 3, 1) := by decide +kernel
theorem dX7_topic_48 : decode cX7_topic 48 = .ok (.invokevirtual 67, 3) := by decide +kernel
theorem dX7_topic_51 : decode cX7_topic 51 = .ok (.invokevirtual 71, 3) := by decide +kernel
theorem dX7_topic_54 : decode cX7_topic 54 = .ok (.iload_n 3, 1) := by decide +kernel
theorem dX7_topic_55 : decode cX7_topic 55 = .ok (.ireturn, 1) := by decide +kernel
set_option maxRecDepth 20000 in
theorem ggX7_piece_X4_haveAll : GoodIn wsX7_piece wsX4_haveAll := goodIn_r _ [10, 11, 110, 111, 112] (by decide +kernel) (by decide +kernel)
set_option maxRecDepth 20000 in
theorem gX7_piece_X4_haveAll : GoodIn wsX7_piece (wsV RX7 59 RX4 yX4_haveAll wsX4_haveAll) := goodIn_app (goodIn_of _ (by decide +kernel)) ggX7_piece_X4_haveAll
set_option maxRecDepth 20000 in
theorem ggX7_piece_X7_isWithin : GoodIn wsX7_piece wsX7_isWithin := goodIn_r _ [15] (by decide +kernel) (by decide +kernel)
set_option maxRecDepth 20000 in
theorem gX7_piece_X7_isWithin : GoodIn wsX7_piece (va_wsS RX7 55 yX7_isWithin wsX7_isWithin) := goodIn_app (goodIn_of _ (by decide +kernel)) ggX7_piece_X7_isWithin
set_option maxRecDepth 20000 in
theorem ggX7_piece_X4_closure : GoodIn wsX7_piece wsX4_closure := goodIn_r _ [19, 20, 110, 111, 112] (by decide +kernel) (by decide +kernel)
set_option maxRecDepth 20000 in
theorem gX7_piece_X4_closure : GoodIn wsX7_piece (wsV RX7 75 RX4 yX4_closure wsX4_closure) := goodIn_app (goodIn_of _ (by decide +kernel)) ggX7_piece_X4_closure
set_option maxRecDepth 20000 in
theorem ggX7_piece_X1_init : GoodIn wsX7_piece wsX1_init := goodIn_r _ [23, 24, 25, 26, 27, 28, 29, 30, 31, 105, 106, 107, 108, 109] (by decide +kernel) (by decide +kernel)
set_option maxRecDepth 20000 in
theorem gX7_piece_X1_init : GoodIn wsX7_piece (wsX1_init) := ggX7_piece_X1_init
set_option maxRecDepth 20000 in
theorem ggX7_piece_X3_add : GoodIn wsX7_piece wsX3_add := goodIn_r _ [36, 37, 38, 39, 40, 41, 42, 43, 44, 45, 46, 47, 48, 49, 50, 51, 52, 53, 54, 55, 56, 57, 58, 59, 60, 61, 62, 63, 64, 65, 66, 67, 68, 69, 70, 71, 72, 73, 74, 75, 76, 77, 78, 79, 80, 81, 82, 83, 84, 85, 86, 87, 88, 89, 90, 91, 92, 93, 94, 95, 96, 97, 113, 114, 115, 116, 117] (by decide +kernel) (by decide +kernel)
set_option maxRecDepth 20000 in
theorem gX7_piece_X3_add : GoodIn wsX7_piece (wsV RX7 83 RX3 yX3_add wsX3_add) := goodIn_app (goodIn_of _ (by decide +kernel)) ggX7_piece_X3_add
theorem dX7_piece_0 : decode cX7_piece 0 = .ok (.aload_n 0, 1) := by decide +kernel
theorem dX7_piece_1 : decode cX7_piece 1 = .ok (.getfield 12, 3) := by decide +kernel
theorem dX7_piece_4 : decode cX7_piece 4 = .ok (.iload_n 1, 1) := by decide +kernel
theorem dX7_piece_5 : decode cX7_piece 5 = .ok (.invokevirtual 59, 3) := by decide +kernel
theorem dX7_piece_8 : decode cX7_piece 8 = .ok (.ifCond .eq 25, 3) := by decide +kernel
theorem dX7_piece_11 : decode cX7_piece 11 = .ok (.aload_n 0, 1) := by decide +kernel
theorem dX7_piece_12 : decode cX7_piece 12 = .ok (.getfield 12, 3) := by decide +kernel
theorem dX7_piece_15 : decode cX7_piece 15 = .ok (.iload_n 2, 1) := by decide +kernel
theorem dX7_piece_16 : decode cX7_piece 16 = .ok (.invokevirtual 59, 3) := by decide +kernel
theorem dX7_piece_19 : decode cX7_piece 19 = .ok (.ifCond .eq 14, 3) := by decide +kernel
theorem dX7_piece_22 : decode cX7_piece 22 = .ok (.aload_n 0, 1) := by decide +kernel
theorem dX7_piece_23 : decode cX7_piece 23 = .ok (.getfield 12, 3) := by decide +kernel
theorem dX7_piece_26 : decode cX7_piece 26 = .ok (.iload_n 3, 1) := by decide +kernel
theorem dX7_piece_27 : decode cX7_piece 27 = .ok (.invokevirtual 59, 3) := by decide +kernel
theorem dX7_piece_30 : decode cX7_piece 30 = .ok (.ifCond .ne 5, 3) := by decide +kernel
theorem dX7_piece_33 : decode cX7_piece 33 = .ok (.iconst (-1), 1) := by decide +kernel
theorem dX7_piece_34 : decode cX7_piece 34 = .ok (.ireturn, 1) := by decide +kernel
theorem dX7_piece_35 : decode cX7_piece 35 = .ok (.iload_n 3, 1) := by decide +kernel
theorem dX7_piece_36 : decode cX7_piece 36 = .ok (.ifCond .eq 24, 3) := by decide +kernel
theorem dX7_piece_39 : decode cX7_piece 39 = .ok (.iload 4, 2) := by decide +kernel
theorem dX7_piece_41 : decode cX7_piece 41 = .ok (.iload_n 3, 1) := by decide +kernel
theorem dX7_piece_42 : decode cX7_piece 42 = .ok (.iconst (-1), 1) := by decide +kernel
theorem dX7_piece_43 : decode cX7_piece 43 = .ok (.ixor, 1) := by decide +kernel
theorem dX7_piece_44 : decode cX7_piece 44 = .ok (.iand, 1) := by decide +kernel
theorem dX7_piece_45 : decode cX7_piece 45 = .ok (.ifCond .ne 15, 3) := by decide +kernel
theorem dX7_piece_48 : decode cX7_piece 48 = .ok (.iload 5, 2) := by decide +kernel
theorem dX7_piece_50 : decode cX7_piece 50 = .ok (.iconst 1, 1) := by decide +kernel
theorem dX7_piece_51 : decode cX7_piece 51 = .ok (.sipush 400, 3) := by decide +kernel
theorem dX7_piece_54 : decode cX7_piece 54 = .ok (.invokestatic 55, 3) := by decide +kernel
theorem dX7_piece_57 : decode cX7_piece 57 = .ok (.ifCond .ne 5, 3) := by decide +kernel
theorem dX7_piece_60 : decode cX7_piece 60 = .ok (.iconst (-1), 1) := by decide +kernel
theorem dX7_piece_61 : decode cX7_piece 61 = .ok (.ireturn, 1) := by decide +kernel
theorem dX7_piece_62 : decode cX7_piece 62 = .ok (.aload_n 0, 1) := by decide +kernel
theorem dX7_piece_63 : decode cX7_piece 63 = .ok (.getfield 12, 3) := by decide +kernel
theorem dX7_piece_66 : decode cX7_piece 66 = .ok (.iload_n 3, 1) := by decide +kernel
theorem dX7_piece_67 : decode cX7_piece 67 = .ok (.invokevirtual 75, 3) := by decide +kernel
theorem dX7_piece_70 : decode cX7_piece 70 = .ok (.istore 6, 2) := by decide +kernel
theorem dX7_piece_72 : decode cX7_piece 72 = .ok (.aload_n 0, 1) := by decide +kernel
theorem dX7_piece_73 : decode cX7_piece 73 = .ok (.getfield 19, 3) := by decide +kernel
theorem dX7_piece_76 : decode cX7_piece 76 = .ok (.new 78, 3) := by decide +kernel
theorem dX7_piece_79 : decode cX7_piece 79 = .ok (.dup, 1) := by decide +kernel
theorem dX7_piece_80 : decode cX7_piece 80 = .ok (.iload_n 1, 1) := by decide +kernel
theorem dX7_piece_81 : decode cX7_piece 81 = .ok (.iload_n 2, 1) := by decide +kernel
theorem dX7_piece_82 : decode cX7_piece 82 = .ok (.iload 6, 2) := by decide +kernel
theorem dX7_piece_84 : decode cX7_piece 84 = .ok (.aload_n 0, 1) := by decide +kernel
theorem dX7_piece_85 : decode cX7_piece 85 = .ok (.getfield 12, 3) := by decide +kernel
theorem dX7_piece_88 : decode cX7_piece 88 = .ok (.iload 4, 2) := by decide +kernel
theorem dX7_piece_90 : decode cX7_piece 90 = .ok (.invokevirtual 75, 3) := by decide +kernel
theorem dX7_piece_93 : decode cX7_piece 93 = .ok (.iload 5, 2) := by decide +kernel
theorem dX7_piece_95 : decode cX7_piece 95 = .ok (.invokespecial 80, 3) := by decide +kernel
theorem dX7_piece_98 : decode cX7_piece 98 = .ok (.invokevirtual 83, 3) := by decide +kernel
theorem dX7_piece_101 : decode cX7_piece 101 = .ok (.ireturn, 1) := by decide +kernel
set_option maxRecDepth 20000 in
theorem ggX7_drop_X3_removeLast : GoodIn wsX7_drop wsX3_removeLast := goodIn_r _ [6, 7, 8, 9, 10, 11, 12, 13, 14, 15, 16, 17, 18, 19, 20, 21, 22, 23, 24, 25, 26, 27, 28, 29, 30, 31, 32, 33, 34, 35, 36, 37, 38, 39, 40, 48, 49, 50, 51, 52] (by decide +kernel) (by decide +kernel)
set_option maxRecDepth 20000 in
theorem gX7_drop_X3_removeLast : GoodIn wsX7_drop (wsV RX7 86 RX3 yX3_removeLast wsX3_removeLast) := goodIn_app (goodIn_of _ (by decide +kernel)) ggX7_drop_X3_removeLast
theorem dX7_drop_0 : decode cX7_drop 0 = .ok (.aload_n 0, 1) := by decide +kernel
theorem dX7_drop_1 : decode cX7_drop 1 = .ok (.getfield 19, 3) := by decide +kernel
theorem dX7_drop_4 : decode cX7_drop 4 = .ok (.invokevirtual 86, 3) := by decide +kernel
theorem dX7_drop_7 : decode cX7_drop 7 = .ok (.ireturn, 1) := by decide +kernel
set_option maxRecDepth 20000 in
theorem ggX7_pace_X7_isWithin : GoodIn wsX7_pace wsX7_isWithin := goodIn_r _ [5] (by decide +kernel) (by decide +kernel)
set_option maxRecDepth 20000 in
theorem gX7_pace_X7_isWithin : GoodIn wsX7_pace (va_wsS RX7 55 yX7_isWithin wsX7_isWithin) := goodIn_app (goodIn_of _ (by decide +kernel)) ggX7_pace_X7_isWithin
set_option maxRecDepth 20000 in
theorem ggX7_pace_X3_changePace : GoodIn wsX7_pace wsX3_changePace := goodIn_r _ [10, 11, 19, 20] (by decide +kernel) (by decide +kernel)
set_option maxRecDepth 20000 in
theorem gX7_pace_X3_changePace : GoodIn wsX7_pace (wsV RX7 90 RX3 yX3_changePace wsX3_changePace) := goodIn_app (goodIn_of _ (by decide +kernel)) ggX7_pace_X3_changePace
theorem dX7_pace_0 : decode cX7_pace 0 = .ok (.iload_n 1, 1) := by decide +kernel
theorem dX7_pace_1 : decode cX7_pace 1 = .ok (.iconst 1, 1) := by decide +kernel
theorem dX7_pace_2 : decode cX7_pace 2 = .ok (.bipush 10, 2) := by decide +kernel
theorem dX7_pace_4 : decode cX7_pace 4 = .ok (.invokestatic 55, 3) := by decide +kernel
theorem dX7_pace_7 : decode cX7_pace 7 = .ok (.ifCond .eq 14, 3) := by decide +kernel
theorem dX7_pace_10 : decode cX7_pace 10 = .ok (.aload_n 0, 1) := by decide +kernel
theorem dX7_pace_11 : decode cX7_pace 11 = .ok (.getfield 19, 3) := by decide +kernel
theorem dX7_pace_14 : decode cX7_pace 14 = .ok (.iload_n 1, 1) := by decide +kernel
theorem dX7_pace_15 : decode cX7_pace 15 = .ok (.invokevirtual 90, 3) := by decide +kernel
theorem dX7_pace_18 : decode cX7_pace 18 = .ok (.goto 4, 3) := by decide +kernel
theorem dX7_pace_21 : decode cX7_pace 21 = .ok (.iconst (-1), 1) := by decide +kernel
theorem dX7_pace_22 : decode cX7_pace 22 = .ok (.ireturn, 1) := by decide +kernel
set_option maxRecDepth 20000 in
theorem ggX7_know_X4_haveAll : GoodIn wsX7_know wsX4_haveAll := goodIn_r _ [7, 8, 21, 22, 23] (by decide +kernel) (by decide +kernel)
set_option maxRecDepth 20000 in
theorem gX7_know_X4_haveAll : GoodIn wsX7_know (wsV RX7 59 RX4 yX4_haveAll wsX4_haveAll) := goodIn_app (goodIn_of _ (by decide +kernel)) ggX7_know_X4_haveAll
set_option maxRecDepth 20000 in
theorem ggX7_know_X4_closure : GoodIn wsX7_know wsX4_closure := goodIn_r _ [12, 13, 21, 22, 23] (by decide +kernel) (by decide +kernel)
set_option maxRecDepth 20000 in
theorem gX7_know_X4_closure : GoodIn wsX7_know (wsV RX7 75 RX4 yX4_closure wsX4_closure) := goodIn_app (goodIn_of _ (by decide +kernel)) ggX7_know_X4_closure
theorem dX7_know_0 : decode cX7_know 0 = .ok (.aload_n 0, 1) := by decide +kernel
theorem dX7_know_1 : decode cX7_know 1 = .ok (.getfield 12, 3) := by decide +kernel
theorem dX7_know_4 : decode cX7_know 4 = .ok (.iload_n 1, 1) := by decide +kernel
theorem dX7_know_5 : decode cX7_know 5 = .ok (.invokevirtual 59, 3) := by decide +kernel
theorem dX7_know_8 : decode cX7_know 8 = .ok (.ifCond .ne 5, 3) := by decide +kernel
theorem dX7_know_11 : decode cX7_know 11 = .ok (.iconst (-1), 1) := by decide +kernel
theorem dX7_know_12 : decode cX7_know 12 = .ok (.ireturn, 1) := by decide +kernel
theorem dX7_know_13 : decode cX7_know 13 = .ok (.aload_n 0, 1) := by decide +kernel
theorem dX7_know_14 : decode cX7_know 14 = .ok (.aload_n 0, 1) := by decide +kernel
theorem dX7_know_15 : decode cX7_know 15 = .ok (.getfield 12, 3) := by decide +kernel
theorem dX7_know_18 : decode cX7_know 18 = .ok (.iload_n 1, 1) := by decide +kernel
theorem dX7_know_19 : decode cX7_know 19 = .ok (.invokevirtual 75, 3) := by decide +kernel
theorem dX7_know_22 : decode cX7_know 22 = .ok (.putfield 51, 3) := by decide +kernel
theorem dX7_know_25 : decode cX7_know 25 = .ok (.aload_n 0, 1) := by decide +kernel
theorem dX7_know_26 : decode cX7_know 26 = .ok (.getfield 51, 3) := by decide +kernel
theorem dX7_know_29 : decode cX7_know 29 = .ok (.ireturn, 1) := by decide +kernel
set_option maxRecDepth 20000 in
theorem ggX7_count_X4_size : GoodIn wsX7_count wsX4_size := goodIn_r _ [9, 10, 46, 47, 48] (by decide +kernel) (by decide +kernel)
set_option maxRecDepth 20000 in
theorem gX7_count_X4_size : GoodIn wsX7_count (wsV RX7 93 RX4 yX4_size wsX4_size) := goodIn_app (goodIn_of _ (by decide +kernel)) ggX7_count_X4_size
set_option maxRecDepth 20000 in
theorem ggX7_count_X3_size : GoodIn wsX7_count wsX3_size := goodIn_r _ [15, 16, 17, 18, 19, 20, 21, 22, 49, 50, 51, 52, 53] (by decide +kernel) (by decide +kernel)
set_option maxRecDepth 20000 in
theorem gX7_count_X3_size : GoodIn wsX7_count (wsV RX7 96 RX3 yX3_size wsX3_size) := goodIn_app (goodIn_of _ (by decide +kernel)) ggX7_count_X3_size
set_option maxRecDepth 20000 in
theorem ggX7_count_X3_currentPace : GoodIn wsX7_count wsX3_currentPace := goodIn_r _ [26, 27, 49, 50] (by decide +kernel) (by decide +kernel)
set_option maxRecDepth 20000 in
theorem gX7_count_X3_currentPace : GoodIn wsX7_count (wsV RX7 97 RX3 yX3_currentPace wsX3_currentPace) := goodIn_app (goodIn_of _ (by decide +kernel)) ggX7_count_X3_currentPace
set_option maxRecDepth 20000 in
theorem ggX7_count_X4_worthOf : GoodIn wsX7_count wsX4_worthOf := goodIn_r _ [31, 32, 46, 47, 48] (by decide +kernel) (by decide +kernel)
set_option maxRecDepth 20000 in
theorem gX7_count_X4_worthOf : GoodIn wsX7_count (wsV RX7 100 RX4 yX4_worthOf wsX4_worthOf) := goodIn_app (goodIn_of _ (by decide +kernel)) ggX7_count_X4_worthOf
set_option maxRecDepth 20000 in
theorem ggX7_count_X2_size : GoodIn wsX7_count wsX2_size := goodIn_r _ [37, 38, 54, 55] (by decide +kernel) (by decide +kernel)
set_option maxRecDepth 20000 in
theorem gX7_count_X2_size : GoodIn wsX7_count (wsV RX7 103 RX2 yX2_size wsX2_size) := goodIn_app (goodIn_of _ (by decide +kernel)) ggX7_count_X2_size
theorem dX7_count_0 : decode cX7_count 0 = .ok (.iload_n 1, 1) := by decide +kernel
theorem dX7_count_1 : decode cX7_count 1 = .ok (.tableswitch 88 0 5 #[39, 47, 55, 60, 68, 80], 39) := by decide +kernel
theorem dX7_count_40 : decode cX7_count 40 = .ok (.aload_n 0, 1) := by decide +kernel
theorem dX7_count_41 : decode cX7_count 41 = .ok (.getfield 12, 3) := by decide +kernel
theorem dX7_count_44 : decode cX7_count 44 = .ok (.invokevirtual 93, 3) := by decide +kernel
theorem dX7_count_47 : decode cX7_count 47 = .ok (.ireturn, 1) := by decide +kernel
theorem dX7_count_48 : decode cX7_count 48 = .ok (.aload_n 0, 1) := by decide +kernel
theorem dX7_count_49 : decode cX7_count 49 = .ok (.getfield 19, 3) := by decide +kernel
theorem dX7_count_52 : decode cX7_count 52 = .ok (.invokevirtual 96, 3) := by decide +kernel
theorem dX7_count_55 : decode cX7_count 55 = .ok (.ireturn, 1) := by decide +kernel
theorem dX7_count_56 : decode cX7_count 56 = .ok (.aload_n 0, 1) := by decide +kernel
theorem dX7_count_57 : decode cX7_count 57 = .ok (.getfield 51, 3) := by decide +kernel
theorem dX7_count_60 : decode cX7_count 60 = .ok (.ireturn, 1) := by decide +kernel
theorem dX7_count_61 : decode cX7_count 61 = .ok (.aload_n 0, 1) := by decide +kernel
theorem dX7_count_62 : decode cX7_count 62 = .ok (.getfield 19, 3) := by decide +kernel
theorem dX7_count_65 : decode cX7_count 65 = .ok (.invokevirtual 97, 3) := by decide +kernel
theorem dX7_count_68 : decode cX7_count 68 = .ok (.ireturn, 1) := by decide +kernel
theorem dX7_count_69 : decode cX7_count 69 = .ok (.aload_n 0, 1) := by decide +kernel
theorem dX7_count_70 : decode cX7_count 70 = .ok (.getfield 12, 3) := by decide +kernel
theorem dX7_count_73 : decode cX7_count 73 = .ok (.aload_n 0, 1) := by decide +kernel
theorem dX7_count_74 : decode cX7_count 74 = .ok (.getfield 51, 3) := by decide +kernel
theorem dX7_count_77 : decode cX7_count 77 = .ok (.invokevirtual 100, 3) := by decide +kernel
theorem dX7_count_80 : decode cX7_count 80 = .ok (.ireturn, 1) := by decide +kernel
theorem dX7_count_81 : decode cX7_count 81 = .ok (.aload_n 0, 1) := by decide +kernel
theorem dX7_count_82 : decode cX7_count 82 = .ok (.getfield 33, 3) := by decide +kernel
theorem dX7_count_85 : decode cX7_count 85 = .ok (.invokevirtual 103, 3) := by decide +kernel
theorem dX7_count_88 : decode cX7_count 88 = .ok (.ireturn, 1) := by decide +kernel
theorem dX7_count_89 : decode cX7_count 89 = .ok (.iconst (-1), 1) := by decide +kernel
theorem dX7_count_90 : decode cX7_count 90 = .ok (.ireturn, 1) := by decide +kernel
set_option maxRecDepth 20000 in
theorem ggX7_with_X4_haveAll : GoodIn wsX7_with wsX4_haveAll := goodIn_r _ [6, 7, 20, 21, 22] (by decide +kernel) (by decide +kernel)
set_option maxRecDepth 20000 in
theorem gX7_with_X4_haveAll : GoodIn wsX7_with (wsV RX7 59 RX4 yX4_haveAll wsX4_haveAll) := goodIn_app (goodIn_of _ (by decide +kernel)) ggX7_with_X4_haveAll
set_option maxRecDepth 20000 in
theorem ggX7_with_X4_closure : GoodIn wsX7_with wsX4_closure := goodIn_r _ [11, 12, 20, 21, 22] (by decide +kernel) (by decide +kernel)
set_option maxRecDepth 20000 in
theorem gX7_with_X4_closure : GoodIn wsX7_with (wsV RX7 75 RX4 yX4_closure wsX4_closure) := goodIn_app (goodIn_of _ (by decide +kernel)) ggX7_with_X4_closure
theorem dX7_with_0 : decode cX7_with 0 = .ok (.aload_n 0, 1) := by decide +kernel
theorem dX7_with_1 : decode cX7_with 1 = .ok (.getfield 12, 3) := by decide +kernel
theorem dX7_with_4 : decode cX7_with 4 = .ok (.iload_n 1, 1) := by decide +kernel
theorem dX7_with_5 : decode cX7_with 5 = .ok (.invokevirtual 59, 3) := by decide +kernel
theorem dX7_with_8 : decode cX7_with 8 = .ok (.ifCond .eq 14, 3) := by decide +kernel
theorem dX7_with_11 : decode cX7_with 11 = .ok (.aload_n 0, 1) := by decide +kernel
theorem dX7_with_12 : decode cX7_with 12 = .ok (.getfield 12, 3) := by decide +kernel
theorem dX7_with_15 : decode cX7_with 15 = .ok (.iload_n 1, 1) := by decide +kernel
theorem dX7_with_16 : decode cX7_with 16 = .ok (.invokevirtual 75, 3) := by decide +kernel
theorem dX7_with_19 : decode cX7_with 19 = .ok (.goto 4, 3) := by decide +kernel
theorem dX7_with_22 : decode cX7_with 22 = .ok (.iconst (-1), 1) := by decide +kernel
theorem dX7_with_23 : decode cX7_with 23 = .ok (.ireturn, 1) := by decide +kernel
set_option maxRecDepth 20000 in
theorem ggX7_minutes_X3_minutesOf : GoodIn wsX7_minutes wsX3_minutesOf := goodIn_r _ [6, 7, 8, 9, 10, 5, 11, 12, 13, 14, 15, 16, 17, 18, 19, 20, 21, 22, 23, 24, 25, 26, 27, 28, 29, 30, 31, 32, 33, 34, 35, 36, 37, 38, 39, 40, 41, 42, 43, 44, 45, 53, 54, 55, 56, 57, 58, 59, 60, 61, 62] (by decide +kernel) (by decide +kernel)
set_option maxRecDepth 20000 in
theorem gX7_minutes_X3_minutesOf : GoodIn wsX7_minutes (wsV RX7 104 RX3 yX3_minutesOf wsX3_minutesOf) := goodIn_app (goodIn_of _ (by decide +kernel)) ggX7_minutes_X3_minutesOf
theorem dX7_minutes_0 : decode cX7_minutes 0 = .ok (.aload_n 0, 1) := by decide +kernel
theorem dX7_minutes_1 : decode cX7_minutes 1 = .ok (.getfield 19, 3) := by decide +kernel
theorem dX7_minutes_4 : decode cX7_minutes 4 = .ok (.iload_n 1, 1) := by decide +kernel
theorem dX7_minutes_5 : decode cX7_minutes 5 = .ok (.invokevirtual 104, 3) := by decide +kernel
theorem dX7_minutes_8 : decode cX7_minutes 8 = .ok (.ireturn, 1) := by decide +kernel
set_option maxRecDepth 20000 in
theorem ggX7_can_X3_pieceOf : GoodIn wsX7_can wsX3_pieceOf := goodIn_r _ [7, 8, 9, 10, 11, 12, 13, 14, 15, 16, 17, 18, 19, 20, 21, 22, 23, 24, 25, 26, 27, 28, 29, 30, 31, 32, 47, 48, 49, 50, 51] (by decide +kernel) (by decide +kernel)
set_option maxRecDepth 20000 in
theorem gX7_can_X3_pieceOf : GoodIn wsX7_can (wsV RX7 107 RX3 yX3_pieceOf wsX3_pieceOf) := goodIn_app (goodIn_of _ (by decide +kernel)) ggX7_can_X3_pieceOf
set_option maxRecDepth 20000 in
theorem ggX7_can_X1_isOpenTo : GoodIn wsX7_can wsX1_isOpenTo := goodIn_r _ [37, 38, 39, 52, 53, 54, 55, 56] (by decide +kernel) (by decide +kernel)
set_option maxRecDepth 20000 in
theorem gX7_can_X1_isOpenTo : GoodIn wsX7_can (wsV RX7 111 RX1 yX1_isOpenTo wsX1_isOpenTo) := goodIn_app (goodIn_of _ (by decide +kernel)) ggX7_can_X1_isOpenTo
theorem dX7_can_0 : decode cX7_can 0 = .ok (.aload_n 0, 1) := by decide +kernel
theorem dX7_can_1 : decode cX7_can 1 = .ok (.getfield 19, 3) := by decide +kernel
theorem dX7_can_4 : decode cX7_can 4 = .ok (.iload_n 1, 1) := by decide +kernel
theorem dX7_can_5 : decode cX7_can 5 = .ok (.invokevirtual 107, 3) := by decide +kernel
theorem dX7_can_8 : decode cX7_can 8 = .ok (.astore_n 2, 1) := by decide +kernel
theorem dX7_can_9 : decode cX7_can 9 = .ok (.aload_n 2, 1) := by decide +kernel
theorem dX7_can_10 : decode cX7_can 10 = .ok (.ifnonnull 5, 3) := by decide +kernel
theorem dX7_can_13 : decode cX7_can 13 = .ok (.iconst (-1), 1) := by decide +kernel
theorem dX7_can_14 : decode cX7_can 14 = .ok (.ireturn, 1) := by decide +kernel
theorem dX7_can_15 : decode cX7_can 15 = .ok (.aload_n 2, 1) := by decide +kernel
theorem dX7_can_16 : decode cX7_can 16 = .ok (.aload_n 0, 1) := by decide +kernel
theorem dX7_can_17 : decode cX7_can 17 = .ok (.getfield 51, 3) := by decide +kernel
theorem dX7_can_20 : decode cX7_can 20 = .ok (.invokevirtual 111, 3) := by decide +kernel
theorem dX7_can_23 : decode cX7_can 23 = .ok (.ifCond .eq 7, 3) := by decide +kernel
theorem dX7_can_26 : decode cX7_can 26 = .ok (.iconst 1, 1) := by decide +kernel
theorem dX7_can_27 : decode cX7_can 27 = .ok (.goto 4, 3) := by decide +kernel
theorem dX7_can_30 : decode cX7_can 30 = .ok (.iconst 0, 1) := by decide +kernel
theorem dX7_can_31 : decode cX7_can 31 = .ok (.ireturn, 1) := by decide +kernel
set_option maxRecDepth 20000 in
theorem ggX7_done_X3_pieceOf : GoodIn wsX7_done wsX3_pieceOf := goodIn_r _ [7, 8, 9, 10, 11, 12, 13, 14, 15, 16, 17, 18, 19, 20, 21, 22, 23, 24, 25, 26, 27, 28, 29, 30, 31, 32, 57, 58, 59, 60, 61] (by decide +kernel) (by decide +kernel)
set_option maxRecDepth 20000 in
theorem gX7_done_X3_pieceOf : GoodIn wsX7_done (wsV RX7 107 RX3 yX3_pieceOf wsX3_pieceOf) := goodIn_app (goodIn_of _ (by decide +kernel)) ggX7_done_X3_pieceOf
set_option maxRecDepth 20000 in
theorem ggX7_done_X1_isOpenTo : GoodIn wsX7_done wsX1_isOpenTo := goodIn_r _ [37, 38, 39, 62, 63, 64, 65, 66] (by decide +kernel) (by decide +kernel)
set_option maxRecDepth 20000 in
theorem gX7_done_X1_isOpenTo : GoodIn wsX7_done (wsV RX7 111 RX1 yX1_isOpenTo wsX1_isOpenTo) := goodIn_app (goodIn_of _ (by decide +kernel)) ggX7_done_X1_isOpenTo
set_option maxRecDepth 20000 in
theorem ggX7_done_X7_isSkimmed : GoodIn wsX7_done wsX7_isSkimmed := goodIn_r _ [43] (by decide +kernel) (by decide +kernel)
set_option maxRecDepth 20000 in
theorem gX7_done_X7_isSkimmed : GoodIn wsX7_done (va_wsS RX7 114 yX7_isSkimmed wsX7_isSkimmed) := goodIn_app (goodIn_of _ (by decide +kernel)) ggX7_done_X7_isSkimmed
set_option maxRecDepth 20000 in
theorem ggX7_done_X1_brings : GoodIn wsX7_done wsX1_brings := goodIn_r _ [47, 48, 49, 62, 63, 64, 65, 66] (by decide +kernel) (by decide +kernel)
set_option maxRecDepth 20000 in
theorem gX7_done_X1_brings : GoodIn wsX7_done (wsV RX7 117 RX1 yX1_brings wsX1_brings) := goodIn_app (goodIn_of _ (by decide +kernel)) ggX7_done_X1_brings
theorem dX7_done_0 : decode cX7_done 0 = .ok (.aload_n 0, 1) := by decide +kernel
theorem dX7_done_1 : decode cX7_done 1 = .ok (.getfield 19, 3) := by decide +kernel
theorem dX7_done_4 : decode cX7_done 4 = .ok (.iload_n 1, 1) := by decide +kernel
theorem dX7_done_5 : decode cX7_done 5 = .ok (.invokevirtual 107, 3) := by decide +kernel
theorem dX7_done_8 : decode cX7_done 8 = .ok (.astore_n 2, 1) := by decide +kernel
theorem dX7_done_9 : decode cX7_done 9 = .ok (.aload_n 2, 1) := by decide +kernel
theorem dX7_done_10 : decode cX7_done 10 = .ok (.ifnull 14, 3) := by decide +kernel
theorem dX7_done_13 : decode cX7_done 13 = .ok (.aload_n 2, 1) := by decide +kernel
theorem dX7_done_14 : decode cX7_done 14 = .ok (.aload_n 0, 1) := by decide +kernel
theorem dX7_done_15 : decode cX7_done 15 = .ok (.getfield 51, 3) := by decide +kernel
theorem dX7_done_18 : decode cX7_done 18 = .ok (.invokevirtual 111, 3) := by decide +kernel
theorem dX7_done_21 : decode cX7_done 21 = .ok (.ifCond .ne 5, 3) := by decide +kernel
theorem dX7_done_24 : decode cX7_done 24 = .ok (.iconst (-1), 1) := by decide +kernel
theorem dX7_done_25 : decode cX7_done 25 = .ok (.ireturn, 1) := by decide +kernel
theorem dX7_done_26 : decode cX7_done 26 = .ok (.aload_n 0, 1) := by decide +kernel
theorem dX7_done_27 : decode cX7_done 27 = .ok (.dup, 1) := by decide +kernel
theorem dX7_done_28 : decode cX7_done 28 = .ok (.getfield 51, 3) := by decide +kernel
theorem dX7_done_31 : decode cX7_done 31 = .ok (.aload_n 2, 1) := by decide +kernel
theorem dX7_done_32 : decode cX7_done 32 = .ok (.iload_n 1, 1) := by decide +kernel
theorem dX7_done_33 : decode cX7_done 33 = .ok (.invokestatic 114, 3) := by decide +kernel
theorem dX7_done_36 : decode cX7_done 36 = .ok (.invokevirtual 117, 3) := by decide +kernel
theorem dX7_done_39 : decode cX7_done 39 = .ok (.ior, 1) := by decide +kernel
theorem dX7_done_40 : decode cX7_done 40 = .ok (.putfield 51, 3) := by decide +kernel
theorem dX7_done_43 : decode cX7_done 43 = .ok (.aload_n 0, 1) := by decide +kernel
theorem dX7_done_44 : decode cX7_done 44 = .ok (.getfield 51, 3) := by decide +kernel
theorem dX7_done_47 : decode cX7_done 47 = .ok (.ireturn, 1) := by decide +kernel
set_option maxRecDepth 20000 in
theorem ggX7_way_X7_endOfBestWay : GoodIn wsX7_way wsX7_endOfBestWay := goodIn_r _ [7, 8, 1, 9, 10, 11, 12, 13, 14, 15, 16, 17, 18, 19, 20, 21, 22, 23, 24, 25, 26, 27, 28, 29, 30, 31, 32, 33, 34, 35, 36, 37, 38, 39, 40, 41, 42, 43, 44, 45, 46, 47, 48, 49, 50, 51, 52, 53, 54, 55, 56, 57, 58, 59, 60, 61, 62, 63, 64, 65, 66, 67, 68, 69, 70, 71, 72, 73, 74, 75, 76, 77, 78, 6, 79, 80, 81, 82, 83, 84, 85, 86, 87, 88, 89, 90, 91, 92, 93, 94, 95, 96, 97, 98, 99, 100, 101, 102, 103, 104, 105, 106, 107, 108, 109, 110, 111, 112, 132, 133, 134, 135, 136, 137, 138, 139, 140, 141, 142, 143, 144, 145, 146, 147, 148, 149, 150, 151, 152, 153, 154] (by decide +kernel) (by decide +kernel)
set_option maxRecDepth 20000 in
theorem gX7_way_X7_endOfBestWay : GoodIn wsX7_way (wsV RX7 121 RX7 yX7_endOfBestWay wsX7_endOfBestWay) := goodIn_app (goodIn_of _ (by decide +kernel)) ggX7_way_X7_endOfBestWay
set_option maxRecDepth 20000 in
theorem ggX7_way_X5_copyRow : GoodIn wsX7_way wsX5_copyRow := goodIn_r _ [116, 30, 31, 32, 117, 118, 119, 120, 121, 122, 123, 124, 125, 126, 127, 142, 143, 144, 155, 156] (by decide +kernel) (by decide +kernel)
set_option maxRecDepth 20000 in
theorem gX7_way_X5_copyRow : GoodIn wsX7_way (wsV RX7 124 RX5 yX5_copyRow wsX5_copyRow) := goodIn_app (goodIn_of _ (by decide +kernel)) ggX7_way_X5_copyRow
set_option maxRecDepth 20000 in
theorem ggX7_way_X5_minutesTo : GoodIn wsX7_way wsX5_minutesTo := goodIn_r _ [131, 30, 31, 142, 143, 144] (by decide +kernel) (by decide +kernel)
set_option maxRecDepth 20000 in
theorem gX7_way_X5_minutesTo : GoodIn wsX7_way (wsV RX7 128 RX5 yX5_minutesTo wsX5_minutesTo) := goodIn_app (goodIn_of _ (by decide +kernel)) ggX7_way_X5_minutesTo
theorem dX7_way_0 : decode cX7_way 0 = .ok (.aload_n 0, 1) := by decide +kernel
theorem dX7_way_1 : decode cX7_way 1 = .ok (.iload_n 1, 1) := by decide +kernel
theorem dX7_way_2 : decode cX7_way 2 = .ok (.iconst (-1), 1) := by decide +kernel
theorem dX7_way_3 : decode cX7_way 3 = .ok (.invokevirtual 121, 3) := by decide +kernel
theorem dX7_way_6 : decode cX7_way 6 = .ok (.istore_n 2, 1) := by decide +kernel
theorem dX7_way_7 : decode cX7_way 7 = .ok (.iload_n 2, 1) := by decide +kernel
theorem dX7_way_8 : decode cX7_way 8 = .ok (.iconst (-1), 1) := by decide +kernel
theorem dX7_way_9 : decode cX7_way 9 = .ok (.if_icmp .ne 5, 3) := by decide +kernel
theorem dX7_way_12 : decode cX7_way 12 = .ok (.iconst (-1), 1) := by decide +kernel
theorem dX7_way_13 : decode cX7_way 13 = .ok (.ireturn, 1) := by decide +kernel
theorem dX7_way_14 : decode cX7_way 14 = .ok (.aload_n 0, 1) := by decide +kernel
theorem dX7_way_15 : decode cX7_way 15 = .ok (.getfield 26, 3) := by decide +kernel
theorem dX7_way_18 : decode cX7_way 18 = .ok (.iload_n 2, 1) := by decide +kernel
theorem dX7_way_19 : decode cX7_way 19 = .ok (.aload_n 0, 1) := by decide +kernel
theorem dX7_way_20 : decode cX7_way 20 = .ok (.getfield 33, 3) := by decide +kernel
theorem dX7_way_23 : decode cX7_way 23 = .ok (.invokevirtual 124, 3) := by decide +kernel
theorem dX7_way_26 : decode cX7_way 26 = .ok (.aload_n 0, 1) := by decide +kernel
theorem dX7_way_27 : decode cX7_way 27 = .ok (.getfield 26, 3) := by decide +kernel
theorem dX7_way_30 : decode cX7_way 30 = .ok (.iload_n 2, 1) := by decide +kernel
theorem dX7_way_31 : decode cX7_way 31 = .ok (.invokevirtual 128, 3) := by decide +kernel
theorem dX7_way_34 : decode cX7_way 34 = .ok (.ireturn, 1) := by decide +kernel
set_option maxRecDepth 20000 in
theorem ggX7_step_X2_at : GoodIn wsX7_step wsX2_at := goodIn_r _ [6, 7, 8, 16, 17] (by decide +kernel) (by decide +kernel)
set_option maxRecDepth 20000 in
theorem gX7_step_X2_at : GoodIn wsX7_step (wsV RX7 131 RX2 yX2_at wsX2_at) := goodIn_app (goodIn_of _ (by decide +kernel)) ggX7_step_X2_at
theorem dX7_step_0 : decode cX7_step 0 = .ok (.aload_n 0, 1) := by decide +kernel
theorem dX7_step_1 : decode cX7_step 1 = .ok (.getfield 33, 3) := by decide +kernel
theorem dX7_step_4 : decode cX7_step 4 = .ok (.iload_n 1, 1) := by decide +kernel
theorem dX7_step_5 : decode cX7_step 5 = .ok (.invokevirtual 131, 3) := by decide +kernel
theorem dX7_step_8 : decode cX7_step 8 = .ok (.ireturn, 1) := by decide +kernel
set_option maxRecDepth 20000 in
theorem ggX7_most_X7_isWithin : GoodIn wsX7_most wsX7_isWithin := goodIn_r _ [9] (by decide +kernel) (by decide +kernel)
set_option maxRecDepth 20000 in
theorem gX7_most_X7_isWithin : GoodIn wsX7_most (va_wsS RX7 55 yX7_isWithin wsX7_isWithin) := goodIn_app (goodIn_of _ (by decide +kernel)) ggX7_most_X7_isWithin
set_option maxRecDepth 20000 in
theorem ggX7_most_X4_size : GoodIn wsX7_most wsX4_size := goodIn_r _ [14, 15, 140, 141, 142] (by decide +kernel) (by decide +kernel)
set_option maxRecDepth 20000 in
theorem gX7_most_X4_size : GoodIn wsX7_most (wsV RX7 93 RX4 yX4_size wsX4_size) := goodIn_app (goodIn_of _ (by decide +kernel)) ggX7_most_X4_size
set_option maxRecDepth 20000 in
theorem ggX7_most_X5_explore : GoodIn wsX7_most wsX5_explore := goodIn_r _ [20, 21, 22, 23, 24, 25, 26, 27, 28, 29, 30, 19, 31, 32, 33, 34, 35, 36, 37, 38, 39, 40, 41, 42, 43, 44, 45, 46, 47, 48, 49, 50, 51, 52, 53, 54, 55, 56, 57, 58, 59, 60, 61, 62, 63, 64, 65, 66, 67, 68, 69, 70, 71, 72, 73, 8, 74, 75, 76, 77, 78, 79, 80, 81, 82, 83, 84, 85, 86, 87, 88, 89, 90, 91, 92, 93, 94, 95, 96, 97, 98, 99, 143, 144, 145, 146, 147, 148, 149, 150, 151, 152, 153, 154, 155] (by decide +kernel) (by decide +kernel)
set_option maxRecDepth 20000 in
theorem gX7_most_X5_explore : GoodIn wsX7_most (wsV RX7 134 RX5 yX5_explore wsX5_explore) := goodIn_app (goodIn_of _ (by decide +kernel)) ggX7_most_X5_explore
set_option maxRecDepth 20000 in
theorem ggX7_most_X5_richestEnd : GoodIn wsX7_most wsX5_richestEnd := goodIn_r _ [103, 25, 26, 104, 105, 106, 19, 107, 108, 109, 110, 13, 111, 112, 113, 114, 115, 116, 27, 96, 97, 98, 99, 143, 144, 145, 140, 141, 142] (by decide +kernel) (by decide +kernel)
set_option maxRecDepth 20000 in
theorem gX7_most_X5_richestEnd : GoodIn wsX7_most (wsV RX7 138 RX5 yX5_richestEnd wsX5_richestEnd) := goodIn_app (goodIn_of _ (by decide +kernel)) ggX7_most_X5_richestEnd
set_option maxRecDepth 20000 in
theorem ggX7_most_X5_copyRow : GoodIn wsX7_most wsX5_copyRow := goodIn_r _ [120, 25, 26, 27, 121, 122, 123, 124, 125, 126, 127, 128, 129, 130, 131, 143, 144, 145, 156, 157] (by decide +kernel) (by decide +kernel)
set_option maxRecDepth 20000 in
theorem gX7_most_X5_copyRow : GoodIn wsX7_most (wsV RX7 124 RX5 yX5_copyRow wsX5_copyRow) := goodIn_app (goodIn_of _ (by decide +kernel)) ggX7_most_X5_copyRow
set_option maxRecDepth 20000 in
theorem ggX7_most_X4_worthOf : GoodIn wsX7_most wsX4_worthOf := goodIn_r _ [111, 112, 140, 141, 142] (by decide +kernel) (by decide +kernel)
set_option maxRecDepth 20000 in
theorem gX7_most_X4_worthOf : GoodIn wsX7_most (wsV RX7 100 RX4 yX4_worthOf wsX4_worthOf) := goodIn_app (goodIn_of _ (by decide +kernel)) ggX7_most_X4_worthOf
theorem dX7_most_0 : decode cX7_most 0 = .ok (.iload_n 1, 1) := by decide +kernel
theorem dX7_most_1 : decode cX7_most 1 = .ok (.iconst 0, 1) := by decide +kernel
theorem dX7_most_2 : decode cX7_most 2 = .ok (.sipush 10000, 3) := by decide +kernel
theorem dX7_most_5 : decode cX7_most 5 = .ok (.invokestatic 55, 3) := by decide +kernel
theorem dX7_most_8 : decode cX7_most 8 = .ok (.ifCond .ne 5, 3) := by decide +kernel
theorem dX7_most_11 : decode cX7_most 11 = .ok (.iconst (-1), 1) := by decide +kernel
theorem dX7_most_12 : decode cX7_most 12 = .ok (.ireturn, 1) := by decide +kernel
theorem dX7_most_13 : decode cX7_most 13 = .ok (.aload_n 0, 1) := by decide +kernel
theorem dX7_most_14 : decode cX7_most 14 = .ok (.getfield 26, 3) := by decide +kernel
theorem dX7_most_17 : decode cX7_most 17 = .ok (.aload_n 0, 1) := by decide +kernel
theorem dX7_most_18 : decode cX7_most 18 = .ok (.getfield 19, 3) := by decide +kernel
theorem dX7_most_21 : decode cX7_most 21 = .ok (.aload_n 0, 1) := by decide +kernel
theorem dX7_most_22 : decode cX7_most 22 = .ok (.getfield 12, 3) := by decide +kernel
theorem dX7_most_25 : decode cX7_most 25 = .ok (.invokevirtual 93, 3) := by decide +kernel
theorem dX7_most_28 : decode cX7_most 28 = .ok (.aload_n 0, 1) := by decide +kernel
theorem dX7_most_29 : decode cX7_most 29 = .ok (.getfield 51, 3) := by decide +kernel
theorem dX7_most_32 : decode cX7_most 32 = .ok (.iconst (-1), 1) := by decide +kernel
theorem dX7_most_33 : decode cX7_most 33 = .ok (.invokevirtual 134, 3) := by decide +kernel
theorem dX7_most_36 : decode cX7_most 36 = .ok (.aload_n 0, 1) := by decide +kernel
theorem dX7_most_37 : decode cX7_most 37 = .ok (.getfield 26, 3) := by decide +kernel
theorem dX7_most_40 : decode cX7_most 40 = .ok (.aload_n 0, 1) := by decide +kernel
theorem dX7_most_41 : decode cX7_most 41 = .ok (.getfield 12, 3) := by decide +kernel
theorem dX7_most_44 : decode cX7_most 44 = .ok (.iload_n 1, 1) := by decide +kernel
theorem dX7_most_45 : decode cX7_most 45 = .ok (.invokevirtual 138, 3) := by decide +kernel
theorem dX7_most_48 : decode cX7_most 48 = .ok (.istore_n 2, 1) := by decide +kernel
theorem dX7_most_49 : decode cX7_most 49 = .ok (.iload_n 2, 1) := by decide +kernel
theorem dX7_most_50 : decode cX7_most 50 = .ok (.iconst (-1), 1) := by decide +kernel
theorem dX7_most_51 : decode cX7_most 51 = .ok (.if_icmp .ne 5, 3) := by decide +kernel
theorem dX7_most_54 : decode cX7_most 54 = .ok (.iconst (-1), 1) := by decide +kernel
theorem dX7_most_55 : decode cX7_most 55 = .ok (.ireturn, 1) := by decide +kernel
theorem dX7_most_56 : decode cX7_most 56 = .ok (.aload_n 0, 1) := by decide +kernel
theorem dX7_most_57 : decode cX7_most 57 = .ok (.getfield 26, 3) := by decide +kernel
theorem dX7_most_60 : decode cX7_most 60 = .ok (.iload_n 2, 1) := by decide +kernel
theorem dX7_most_61 : decode cX7_most 61 = .ok (.aload_n 0, 1) := by decide +kernel
theorem dX7_most_62 : decode cX7_most 62 = .ok (.getfield 33, 3) := by decide +kernel
theorem dX7_most_65 : decode cX7_most 65 = .ok (.invokevirtual 124, 3) := by decide +kernel
theorem dX7_most_68 : decode cX7_most 68 = .ok (.aload_n 0, 1) := by decide +kernel
theorem dX7_most_69 : decode cX7_most 69 = .ok (.getfield 12, 3) := by decide +kernel
theorem dX7_most_72 : decode cX7_most 72 = .ok (.iload_n 2, 1) := by decide +kernel
theorem dX7_most_73 : decode cX7_most 73 = .ok (.invokevirtual 100, 3) := by decide +kernel
theorem dX7_most_76 : decode cX7_most 76 = .ok (.ireturn, 1) := by decide +kernel
set_option maxRecDepth 20000 in
theorem ggX7_reach_X3_readAllOpenTo : GoodIn wsX7_reach wsX3_readAllOpenTo := goodIn_r _ [7, 8, 9, 10, 11, 12, 13, 14, 15, 16, 17, 18, 19, 20, 21, 22, 23, 24, 25, 26, 27, 28, 29, 30, 31, 32, 33, 34, 35, 36, 37, 38, 39, 40, 41, 42, 43, 44, 45, 53, 54, 55, 56, 57, 58, 59, 60, 61, 62] (by decide +kernel) (by decide +kernel)
set_option maxRecDepth 20000 in
theorem gX7_reach_X3_readAllOpenTo : GoodIn wsX7_reach (wsV RX7 142 RX3 yX3_readAllOpenTo wsX3_readAllOpenTo) := goodIn_app (goodIn_of _ (by decide +kernel)) ggX7_reach_X3_readAllOpenTo
theorem dX7_reach_0 : decode cX7_reach 0 = .ok (.aload_n 0, 1) := by decide +kernel
theorem dX7_reach_1 : decode cX7_reach 1 = .ok (.getfield 51, 3) := by decide +kernel
theorem dX7_reach_4 : decode cX7_reach 4 = .ok (.istore_n 1, 1) := by decide +kernel
theorem dX7_reach_5 : decode cX7_reach 5 = .ok (.iconst 0, 1) := by decide +kernel
theorem dX7_reach_6 : decode cX7_reach 6 = .ok (.istore_n 2, 1) := by decide +kernel
theorem dX7_reach_7 : decode cX7_reach 7 = .ok (.iload_n 2, 1) := by decide +kernel
theorem dX7_reach_8 : decode cX7_reach 8 = .ok (.bipush 12, 2) := by decide +kernel
theorem dX7_reach_10 : decode cX7_reach 10 = .ok (.if_icmp .ge 18, 3) := by decide +kernel
theorem dX7_reach_13 : decode cX7_reach 13 = .ok (.aload_n 0, 1) := by decide +kernel
theorem dX7_reach_14 : decode cX7_reach 14 = .ok (.getfield 19, 3) := by decide +kernel
theorem dX7_reach_17 : decode cX7_reach 17 = .ok (.iload_n 1, 1) := by decide +kernel
theorem dX7_reach_18 : decode cX7_reach 18 = .ok (.invokevirtual 142, 3) := by decide +kernel
theorem dX7_reach_21 : decode cX7_reach 21 = .ok (.istore_n 1, 1) := by decide +kernel
theorem dX7_reach_22 : decode cX7_reach 22 = .ok (.iinc 2 1, 3) := by decide +kernel
theorem dX7_reach_25 : decode cX7_reach 25 = .ok (.goto (-18), 3) := by decide +kernel
theorem dX7_reach_28 : decode cX7_reach 28 = .ok (.iload_n 1, 1) := by decide +kernel
theorem dX7_reach_29 : decode cX7_reach 29 = .ok (.ireturn, 1) := by decide +kernel
set_option maxRecDepth 20000 in
theorem ggX7_gaps_X3_allNeeded : GoodIn wsX7_gaps wsX3_allNeeded := goodIn_r _ [7, 8, 9, 10, 11, 12, 13, 14, 15, 16, 17, 18, 19, 20, 21, 22, 23, 24, 25, 26, 27, 28, 29, 30, 31, 32, 33, 34, 35, 36, 37, 38, 56, 57, 58, 59, 60, 61, 62, 63, 64, 65] (by decide +kernel) (by decide +kernel)
set_option maxRecDepth 20000 in
theorem gX7_gaps_X3_allNeeded : GoodIn wsX7_gaps (wsV RX7 145 RX3 yX3_allNeeded wsX3_allNeeded) := goodIn_app (goodIn_of _ (by decide +kernel)) ggX7_gaps_X3_allNeeded
set_option maxRecDepth 20000 in
theorem ggX7_gaps_X3_allGiven : GoodIn wsX7_gaps wsX3_allGiven := goodIn_r _ [42, 8, 9, 10, 11, 12, 13, 14, 15, 16, 17, 18, 19, 20, 21, 22, 23, 24, 25, 26, 27, 28, 29, 30, 31, 32, 43, 44, 45, 36, 46, 47, 48, 56, 57, 58, 59, 60, 61, 62, 63, 64, 65] (by decide +kernel) (by decide +kernel)
set_option maxRecDepth 20000 in
theorem gX7_gaps_X3_allGiven : GoodIn wsX7_gaps (wsV RX7 148 RX3 yX3_allGiven wsX3_allGiven) := goodIn_app (goodIn_of _ (by decide +kernel)) ggX7_gaps_X3_allGiven
theorem dX7_gaps_0 : decode cX7_gaps 0 = .ok (.aload_n 0, 1) := by decide +kernel
theorem dX7_gaps_1 : decode cX7_gaps 1 = .ok (.getfield 19, 3) := by decide +kernel
theorem dX7_gaps_4 : decode cX7_gaps 4 = .ok (.invokevirtual 145, 3) := by decide +kernel
theorem dX7_gaps_7 : decode cX7_gaps 7 = .ok (.aload_n 0, 1) := by decide +kernel
theorem dX7_gaps_8 : decode cX7_gaps 8 = .ok (.getfield 19, 3) := by decide +kernel
theorem dX7_gaps_11 : decode cX7_gaps 11 = .ok (.invokevirtual 148, 3) := by decide +kernel
theorem dX7_gaps_14 : decode cX7_gaps 14 = .ok (.iconst (-1), 1) := by decide +kernel
theorem dX7_gaps_15 : decode cX7_gaps 15 = .ok (.ixor, 1) := by decide +kernel
theorem dX7_gaps_16 : decode cX7_gaps 16 = .ok (.iand, 1) := by decide +kernel
theorem dX7_gaps_17 : decode cX7_gaps 17 = .ok (.aload_n 0, 1) := by decide +kernel
theorem dX7_gaps_18 : decode cX7_gaps 18 = .ok (.getfield 51, 3) := by decide +kernel
theorem dX7_gaps_21 : decode cX7_gaps 21 = .ok (.iconst (-1), 1) := by decide +kernel
theorem dX7_gaps_22 : decode cX7_gaps 22 = .ok (.ixor, 1) := by decide +kernel
theorem dX7_gaps_23 : decode cX7_gaps 23 = .ok (.iand, 1) := by decide +kernel
theorem dX7_gaps_24 : decode cX7_gaps 24 = .ok (.ireturn, 1) := by decide +kernel
set_option maxRecDepth 20000 in
theorem ggX7_shortens_X3_size : GoodIn wsX7_shortens wsX3_size := goodIn_r _ [7, 8, 9, 10, 11, 12, 13, 14, 127, 128, 129, 130, 131] (by decide +kernel) (by decide +kernel)
set_option maxRecDepth 20000 in
theorem gX7_shortens_X3_size : GoodIn wsX7_shortens (wsV RX7 96 RX3 yX3_size wsX3_size) := goodIn_app (goodIn_of _ (by decide +kernel)) ggX7_shortens_X3_size
set_option maxRecDepth 20000 in
theorem ggX7_shortens_X7_isWithin : GoodIn wsX7_shortens wsX7_isWithin := goodIn_r _ [18] (by decide +kernel) (by decide +kernel)
set_option maxRecDepth 20000 in
theorem gX7_shortens_X7_isWithin : GoodIn wsX7_shortens (va_wsS RX7 55 yX7_isWithin wsX7_isWithin) := goodIn_app (goodIn_of _ (by decide +kernel)) ggX7_shortens_X7_isWithin
set_option maxRecDepth 20000 in
theorem ggX7_shortens_X7_endOfBestWay : GoodIn wsX7_shortens wsX7_endOfBestWay := goodIn_r _ [22, 23, 2, 1, 24, 25, 26, 27, 28, 29, 30, 31, 32, 33, 34, 35, 36, 37, 38, 39, 40, 41, 42, 43, 44, 45, 46, 47, 48, 49, 50, 51, 4, 5, 6, 7, 8, 9, 10, 11, 12, 13, 14, 52, 53, 54, 55, 56, 57, 58, 59, 60, 61, 62, 63, 64, 65, 66, 67, 68, 69, 70, 71, 72, 73, 74, 75, 76, 77, 78, 79, 80, 81, 17, 82, 83, 84, 85, 86, 87, 88, 89, 90, 91, 92, 93, 94, 95, 96, 97, 98, 99, 100, 101, 102, 103, 104, 105, 106, 107, 108, 109, 110, 111, 112, 113, 114, 115, 120, 121, 122, 123, 124, 125, 126, 132, 133, 134, 135, 136, 137, 127, 128, 129, 130, 131, 138, 139, 140, 141, 142] (by decide +kernel) (by decide +kernel)
set_option maxRecDepth 20000 in
theorem gX7_shortens_X7_endOfBestWay : GoodIn wsX7_shortens (wsV RX7 121 RX7 yX7_endOfBestWay wsX7_endOfBestWay) := goodIn_app (goodIn_of _ (by decide +kernel)) ggX7_shortens_X7_endOfBestWay
set_option maxRecDepth 20000 in
theorem ggX7_shortens_X5_minutesTo : GoodIn wsX7_shortens wsX5_minutesTo := goodIn_r _ [119, 44, 45, 135, 136, 137] (by decide +kernel) (by decide +kernel)
set_option maxRecDepth 20000 in
theorem gX7_shortens_X5_minutesTo : GoodIn wsX7_shortens (wsV RX7 128 RX5 yX5_minutesTo wsX5_minutesTo) := goodIn_app (goodIn_of _ (by decide +kernel)) ggX7_shortens_X5_minutesTo
theorem dX7_shortens_0 : decode cX7_shortens 0 = .ok (.iload_n 1, 1) := by decide +kernel
theorem dX7_shortens_1 : decode cX7_shortens 1 = .ok (.iconst 0, 1) := by decide +kernel
theorem dX7_shortens_2 : decode cX7_shortens 2 = .ok (.aload_n 0, 1) := by decide +kernel
theorem dX7_shortens_3 : decode cX7_shortens 3 = .ok (.getfield 19, 3) := by decide +kernel
theorem dX7_shortens_6 : decode cX7_shortens 6 = .ok (.invokevirtual 96, 3) := by decide +kernel
theorem dX7_shortens_9 : decode cX7_shortens 9 = .ok (.iconst 1, 1) := by decide +kernel
theorem dX7_shortens_10 : decode cX7_shortens 10 = .ok (.isub, 1) := by decide +kernel
theorem dX7_shortens_11 : decode cX7_shortens 11 = .ok (.invokestatic 55, 3) := by decide +kernel
theorem dX7_shortens_14 : decode cX7_shortens 14 = .ok (.ifCond .ne 5, 3) := by decide +kernel
theorem dX7_shortens_17 : decode cX7_shortens 17 = .ok (.iconst (-1), 1) := by decide +kernel
theorem dX7_shortens_18 : decode cX7_shortens 18 = .ok (.ireturn, 1) := by decide +kernel
theorem dX7_shortens_19 : decode cX7_shortens 19 = .ok (.aload_n 0, 1) := by decide +kernel
theorem dX7_shortens_20 : decode cX7_shortens 20 = .ok (.iload_n 2, 1) := by decide +kernel
theorem dX7_shortens_21 : decode cX7_shortens 21 = .ok (.iconst (-1), 1) := by decide +kernel
theorem dX7_shortens_22 : decode cX7_shortens 22 = .ok (.invokevirtual 121, 3) := by decide +kernel
theorem dX7_shortens_25 : decode cX7_shortens 25 = .ok (.istore_n 3, 1) := by decide +kernel
theorem dX7_shortens_26 : decode cX7_shortens 26 = .ok (.iload_n 3, 1) := by decide +kernel
theorem dX7_shortens_27 : decode cX7_shortens 27 = .ok (.iconst (-1), 1) := by decide +kernel
theorem dX7_shortens_28 : decode cX7_shortens 28 = .ok (.if_icmp .ne 5, 3) := by decide +kernel
theorem dX7_shortens_31 : decode cX7_shortens 31 = .ok (.iconst (-1), 1) := by decide +kernel
theorem dX7_shortens_32 : decode cX7_shortens 32 = .ok (.ireturn, 1) := by decide +kernel
theorem dX7_shortens_33 : decode cX7_shortens 33 = .ok (.aload_n 0, 1) := by decide +kernel
theorem dX7_shortens_34 : decode cX7_shortens 34 = .ok (.getfield 26, 3) := by decide +kernel
theorem dX7_shortens_37 : decode cX7_shortens 37 = .ok (.iload_n 3, 1) := by decide +kernel
theorem dX7_shortens_38 : decode cX7_shortens 38 = .ok (.invokevirtual 128, 3) := by decide +kernel
theorem dX7_shortens_41 : decode cX7_shortens 41 = .ok (.istore 4, 2) := by decide +kernel
theorem dX7_shortens_43 : decode cX7_shortens 43 = .ok (.aload_n 0, 1) := by decide +kernel
theorem dX7_shortens_44 : decode cX7_shortens 44 = .ok (.iload_n 2, 1) := by decide +kernel
theorem dX7_shortens_45 : decode cX7_shortens 45 = .ok (.iload_n 1, 1) := by decide +kernel
theorem dX7_shortens_46 : decode cX7_shortens 46 = .ok (.invokevirtual 121, 3) := by decide +kernel
theorem dX7_shortens_49 : decode cX7_shortens 49 = .ok (.istore 5, 2) := by decide +kernel
theorem dX7_shortens_51 : decode cX7_shortens 51 = .ok (.iload 5, 2) := by decide +kernel
theorem dX7_shortens_53 : decode cX7_shortens 53 = .ok (.iconst (-1), 1) := by decide +kernel
theorem dX7_shortens_54 : decode cX7_shortens 54 = .ok (.if_icmp .ne 8, 3) := by decide +kernel
theorem dX7_shortens_57 : decode cX7_shortens 57 = .ok (.bipush (-2), 2) := by decide +kernel
theorem dX7_shortens_59 : decode cX7_shortens 59 = .ok (.goto 15, 3) := by decide +kernel
theorem dX7_shortens_62 : decode cX7_shortens 62 = .ok (.aload_n 0, 1) := by decide +kernel
theorem dX7_shortens_63 : decode cX7_shortens 63 = .ok (.getfield 26, 3) := by decide +kernel
theorem dX7_shortens_66 : decode cX7_shortens 66 = .ok (.iload 5, 2) := by decide +kernel
theorem dX7_shortens_68 : decode cX7_shortens 68 = .ok (.invokevirtual 128, 3) := by decide +kernel
theorem dX7_shortens_71 : decode cX7_shortens 71 = .ok (.iload 4, 2) := by decide +kernel
theorem dX7_shortens_73 : decode cX7_shortens 73 = .ok (.isub, 1) := by decide +kernel
theorem dX7_shortens_74 : decode cX7_shortens 74 = .ok (.ireturn, 1) := by decide +kernel
set_option maxRecDepth 20000 in
theorem ggX7_week_X7_isWithin : GoodIn wsX7_week wsX7_isWithin := goodIn_r _ [5] (by decide +kernel) (by decide +kernel)
set_option maxRecDepth 20000 in
theorem gX7_week_X7_isWithin : GoodIn wsX7_week (va_wsS RX7 55 yX7_isWithin wsX7_isWithin) := goodIn_app (goodIn_of _ (by decide +kernel)) ggX7_week_X7_isWithin
set_option maxRecDepth 20000 in
theorem ggX7_week_X6_change : GoodIn wsX7_week wsX6_change := goodIn_r _ [10, 11, 19, 20, 21] (by decide +kernel) (by decide +kernel)
set_option maxRecDepth 20000 in
theorem gX7_week_X6_change : GoodIn wsX7_week (wsV RX7 151 RX6 yX6_change wsX6_change) := goodIn_app (goodIn_of _ (by decide +kernel)) ggX7_week_X6_change
theorem dX7_week_0 : decode cX7_week 0 = .ok (.iload_n 1, 1) := by decide +kernel
theorem dX7_week_1 : decode cX7_week 1 = .ok (.iconst 0, 1) := by decide +kernel
theorem dX7_week_2 : decode cX7_week 2 = .ok (.bipush 51, 2) := by decide +kernel
theorem dX7_week_4 : decode cX7_week 4 = .ok (.invokestatic 55, 3) := by decide +kernel
theorem dX7_week_7 : decode cX7_week 7 = .ok (.ifCond .eq 14, 3) := by decide +kernel
theorem dX7_week_10 : decode cX7_week 10 = .ok (.iload_n 2, 1) := by decide +kernel
theorem dX7_week_11 : decode cX7_week 11 = .ok (.iconst 0, 1) := by decide +kernel
theorem dX7_week_12 : decode cX7_week 12 = .ok (.sipush 3000, 3) := by decide +kernel
theorem dX7_week_15 : decode cX7_week 15 = .ok (.invokestatic 55, 3) := by decide +kernel
theorem dX7_week_18 : decode cX7_week 18 = .ok (.ifCond .ne 5, 3) := by decide +kernel
theorem dX7_week_21 : decode cX7_week 21 = .ok (.iconst 0, 1) := by decide +kernel
theorem dX7_week_22 : decode cX7_week 22 = .ok (.ireturn, 1) := by decide +kernel
theorem dX7_week_23 : decode cX7_week 23 = .ok (.aload_n 0, 1) := by decide +kernel
theorem dX7_week_24 : decode cX7_week 24 = .ok (.getfield 40, 3) := by decide +kernel
theorem dX7_week_27 : decode cX7_week 27 = .ok (.iload_n 1, 1) := by decide +kernel
theorem dX7_week_28 : decode cX7_week 28 = .ok (.iload_n 2, 1) := by decide +kernel
theorem dX7_week_29 : decode cX7_week 29 = .ok (.invokevirtual 151, 3) := by decide +kernel
theorem dX7_week_32 : decode cX7_week 32 = .ok (.iconst 1, 1) := by decide +kernel
theorem dX7_week_33 : decode cX7_week 33 = .ok (.ireturn, 1) := by decide +kernel
set_option maxRecDepth 20000 in
theorem ggX7_lay_X6_layRow : GoodIn wsX7_lay wsX6_layRow := goodIn_r _ [8, 9, 10, 11, 12, 13, 14, 15, 16, 17, 18, 19, 20, 21, 22, 23, 24, 25, 26, 27, 28, 29, 30, 31, 32, 33, 34, 35, 36, 37, 38, 39, 40, 41, 42, 43, 44, 45, 46, 47, 48, 49, 50, 51, 52, 53, 54, 55, 56, 57, 58, 59, 60, 61, 62, 63, 64, 65, 66, 67, 68, 69, 70, 71, 72, 73, 74, 75, 76, 77, 78, 79, 80, 81, 82, 90, 91, 92, 93, 94, 95, 96, 97, 98, 99, 100, 101, 102, 103, 104] (by decide +kernel) (by decide +kernel)
set_option maxRecDepth 20000 in
theorem gX7_lay_X6_layRow : GoodIn wsX7_lay (wsV RX7 154 RX6 yX6_layRow wsX6_layRow) := goodIn_app (goodIn_of _ (by decide +kernel)) ggX7_lay_X6_layRow
theorem dX7_lay_0 : decode cX7_lay 0 = .ok (.aload_n 0, 1) := by decide +kernel
theorem dX7_lay_1 : decode cX7_lay 1 = .ok (.getfield 40, 3) := by decide +kernel
theorem dX7_lay_4 : decode cX7_lay 4 = .ok (.aload_n 0, 1) := by decide +kernel
theorem dX7_lay_5 : decode cX7_lay 5 = .ok (.getfield 33, 3) := by decide +kernel
theorem dX7_lay_8 : decode cX7_lay 8 = .ok (.aload_n 0, 1) := by decide +kernel
theorem dX7_lay_9 : decode cX7_lay 9 = .ok (.getfield 19, 3) := by decide +kernel
theorem dX7_lay_12 : decode cX7_lay 12 = .ok (.iload_n 1, 1) := by decide +kernel
theorem dX7_lay_13 : decode cX7_lay 13 = .ok (.invokevirtual 154, 3) := by decide +kernel
theorem dX7_lay_16 : decode cX7_lay 16 = .ok (.ireturn, 1) := by decide +kernel
set_option maxRecDepth 20000 in
theorem ggX7_laid_X6_weekOf : GoodIn wsX7_laid wsX6_weekOf := goodIn_r _ [6, 7, 8, 9, 10, 11, 12, 13, 14, 22, 23, 24, 25, 26] (by decide +kernel) (by decide +kernel)
set_option maxRecDepth 20000 in
theorem gX7_laid_X6_weekOf : GoodIn wsX7_laid (wsV RX7 158 RX6 yX6_weekOf wsX6_weekOf) := goodIn_app (goodIn_of _ (by decide +kernel)) ggX7_laid_X6_weekOf
theorem dX7_laid_0 : decode cX7_laid 0 = .ok (.aload_n 0, 1) := by decide +kernel
theorem dX7_laid_1 : decode cX7_laid 1 = .ok (.getfield 40, 3) := by decide +kernel
theorem dX7_laid_4 : decode cX7_laid 4 = .ok (.iload_n 1, 1) := by decide +kernel
theorem dX7_laid_5 : decode cX7_laid 5 = .ok (.invokevirtual 158, 3) := by decide +kernel
theorem dX7_laid_8 : decode cX7_laid 8 = .ok (.ireturn, 1) := by decide +kernel
set_option maxRecDepth 20000 in
theorem ggX7_answer_X4_size : GoodIn wsX7_answer wsX4_size := goodIn_r _ [7, 8, 42, 43, 44] (by decide +kernel) (by decide +kernel)
set_option maxRecDepth 20000 in
theorem gX7_answer_X4_size : GoodIn wsX7_answer (wsV RX7 93 RX4 yX4_size wsX4_size) := goodIn_app (goodIn_of _ (by decide +kernel)) ggX7_answer_X4_size
set_option maxRecDepth 20000 in
theorem ggX7_answer_X7_isWithin : GoodIn wsX7_answer wsX7_isWithin := goodIn_r _ [12] (by decide +kernel) (by decide +kernel)
set_option maxRecDepth 20000 in
theorem gX7_answer_X7_isWithin : GoodIn wsX7_answer (va_wsS RX7 55 yX7_isWithin wsX7_isWithin) := goodIn_app (goodIn_of _ (by decide +kernel)) ggX7_answer_X7_isWithin
set_option maxRecDepth 20000 in
theorem ggX7_answer_X0_accept : GoodIn wsX7_answer wsX0_accept := goodIn_r _ [17, 18, 19, 20, 21, 22, 16, 23, 24, 25, 26, 27, 28, 29, 30, 31, 32, 33, 34, 45, 46, 47, 48] (by decide +kernel) (by decide +kernel)
set_option maxRecDepth 20000 in
theorem gX7_answer_X0_accept : GoodIn wsX7_answer (wsV RX7 161 RX0 yX0_accept wsX0_accept) := goodIn_app (goodIn_of _ (by decide +kernel)) ggX7_answer_X0_accept
theorem dX7_answer_0 : decode cX7_answer 0 = .ok (.iload_n 1, 1) := by decide +kernel
theorem dX7_answer_1 : decode cX7_answer 1 = .ok (.iconst 0, 1) := by decide +kernel
theorem dX7_answer_2 : decode cX7_answer 2 = .ok (.aload_n 0, 1) := by decide +kernel
theorem dX7_answer_3 : decode cX7_answer 3 = .ok (.getfield 12, 3) := by decide +kernel
theorem dX7_answer_6 : decode cX7_answer 6 = .ok (.invokevirtual 93, 3) := by decide +kernel
theorem dX7_answer_9 : decode cX7_answer 9 = .ok (.iconst 1, 1) := by decide +kernel
theorem dX7_answer_10 : decode cX7_answer 10 = .ok (.isub, 1) := by decide +kernel
theorem dX7_answer_11 : decode cX7_answer 11 = .ok (.invokestatic 55, 3) := by decide +kernel
theorem dX7_answer_14 : decode cX7_answer 14 = .ok (.ifCond .eq 15, 3) := by decide +kernel
theorem dX7_answer_17 : decode cX7_answer 17 = .ok (.aload_n 0, 1) := by decide +kernel
theorem dX7_answer_18 : decode cX7_answer 18 = .ok (.getfield 47, 3) := by decide +kernel
theorem dX7_answer_21 : decode cX7_answer 21 = .ok (.iload_n 1, 1) := by decide +kernel
theorem dX7_answer_22 : decode cX7_answer 22 = .ok (.iload_n 2, 1) := by decide +kernel
theorem dX7_answer_23 : decode cX7_answer 23 = .ok (.invokevirtual 161, 3) := by decide +kernel
theorem dX7_answer_26 : decode cX7_answer 26 = .ok (.goto 4, 3) := by decide +kernel
theorem dX7_answer_29 : decode cX7_answer 29 = .ok (.iconst (-1), 1) := by decide +kernel
theorem dX7_answer_30 : decode cX7_answer 30 = .ok (.ireturn, 1) := by decide +kernel
set_option maxRecDepth 20000 in
theorem ggX7_ask_X0_startAnew : GoodIn wsX7_ask wsX0_startAnew := goodIn_r _ [7, 8, 9, 10, 41, 42, 43, 44] (by decide +kernel) (by decide +kernel)
set_option maxRecDepth 20000 in
theorem gX7_ask_X0_startAnew : GoodIn wsX7_ask (wsV RX7 165 RX0 yX0_startAnew wsX0_startAnew) := goodIn_app (goodIn_of _ (by decide +kernel)) ggX7_ask_X0_startAnew
set_option maxRecDepth 20000 in
theorem ggX7_ask_X4_size : GoodIn wsX7_ask wsX4_size := goodIn_r _ [15, 16, 45, 46, 47] (by decide +kernel) (by decide +kernel)
set_option maxRecDepth 20000 in
theorem gX7_ask_X4_size : GoodIn wsX7_ask (wsV RX7 93 RX4 yX4_size wsX4_size) := goodIn_app (goodIn_of _ (by decide +kernel)) ggX7_ask_X4_size
set_option maxRecDepth 20000 in
theorem ggX7_ask_X4_impliedBy : GoodIn wsX7_ask wsX4_impliedBy := goodIn_r _ [20, 21, 22, 23, 14, 24, 25, 45, 46, 47] (by decide +kernel) (by decide +kernel)
set_option maxRecDepth 20000 in
theorem gX7_ask_X4_impliedBy : GoodIn wsX7_ask (wsV RX7 67 RX4 yX4_impliedBy wsX4_impliedBy) := goodIn_app (goodIn_of _ (by decide +kernel)) ggX7_ask_X4_impliedBy
set_option maxRecDepth 20000 in
theorem ggX7_ask_X0_addTopic : GoodIn wsX7_ask wsX0_addTopic := goodIn_r _ [29, 9, 8, 41, 42, 43, 44] (by decide +kernel) (by decide +kernel)
set_option maxRecDepth 20000 in
theorem gX7_ask_X0_addTopic : GoodIn wsX7_ask (wsV RX7 71 RX0 yX0_addTopic wsX0_addTopic) := goodIn_app (goodIn_of _ (by decide +kernel)) ggX7_ask_X0_addTopic
set_option maxRecDepth 20000 in
theorem ggX7_ask_X0_size : GoodIn wsX7_ask wsX0_size := goodIn_r _ [33, 9, 41, 42, 43, 44] (by decide +kernel) (by decide +kernel)
set_option maxRecDepth 20000 in
theorem gX7_ask_X0_size : GoodIn wsX7_ask (wsV RX7 168 RX0 yX0_size wsX0_size) := goodIn_app (goodIn_of _ (by decide +kernel)) ggX7_ask_X0_size
theorem dX7_ask_0 : decode cX7_ask 0 = .ok (.aload_n 0, 1) := by decide +kernel
theorem dX7_ask_1 : decode cX7_ask 1 = .ok (.getfield 47, 3) := by decide +kernel
theorem dX7_ask_4 : decode cX7_ask 4 = .ok (.invokevirtual 165, 3) := by decide +kernel
theorem dX7_ask_7 : decode cX7_ask 7 = .ok (.iconst 0, 1) := by decide +kernel
theorem dX7_ask_8 : decode cX7_ask 8 = .ok (.istore_n 1, 1) := by decide +kernel
theorem dX7_ask_9 : decode cX7_ask 9 = .ok (.iload_n 1, 1) := by decide +kernel
theorem dX7_ask_10 : decode cX7_ask 10 = .ok (.aload_n 0, 1) := by decide +kernel
theorem dX7_ask_11 : decode cX7_ask 11 = .ok (.getfield 12, 3) := by decide +kernel
theorem dX7_ask_14 : decode cX7_ask 14 = .ok (.invokevirtual 93, 3) := by decide +kernel
theorem dX7_ask_17 : decode cX7_ask 17 = .ok (.if_icmp .ge 25, 3) := by decide +kernel
theorem dX7_ask_20 : decode cX7_ask 20 = .ok (.aload_n 0, 1) := by decide +kernel
theorem dX7_ask_21 : decode cX7_ask 21 = .ok (.getfield 47, 3) := by decide +kernel
theorem dX7_ask_24 : decode cX7_ask 24 = .ok (.iload_n 1, 1) := by decide +kernel
theorem dX7_ask_25 : decode cX7_ask 25 = .ok (.aload_n 0, 1) := by decide +kernel
theorem dX7_ask_26 : decode cX7_ask 26 = .ok (.getfield 12, 3) := by decide +kernel
theorem dX7_ask_29 : decode cX7_ask 29 = .ok (.iload_n 1, 1) := by decide +kernel
theorem dX7_ask_30 : decode cX7_ask 30 = .ok (.invokevirtual 67, 3) := by decide +kernel
theorem dX7_ask_33 : decode cX7_ask 33 = .ok (.invokevirtual 71, 3) := by decide +kernel
theorem dX7_ask_36 : decode cX7_ask 36 = .ok (.iinc 1 1, 3) := by decide +kernel
theorem dX7_ask_39 : decode cX7_ask 39 = .ok (.goto (-30), 3) := by decide +kernel
theorem dX7_ask_42 : decode cX7_ask 42 = .ok (.aload_n 0, 1) := by decide +kernel
theorem dX7_ask_43 : decode cX7_ask 43 = .ok (.getfield 47, 3) := by decide +kernel
theorem dX7_ask_46 : decode cX7_ask 46 = .ok (.invokevirtual 168, 3) := by decide +kernel
theorem dX7_ask_49 : decode cX7_ask 49 = .ok (.ireturn, 1) := by decide +kernel
set_option maxRecDepth 20000 in
theorem ggX7_states_X0_size : GoodIn wsX7_states wsX0_size := goodIn_r _ [6, 7, 15, 16, 17, 18] (by decide +kernel) (by decide +kernel)
set_option maxRecDepth 20000 in
theorem gX7_states_X0_size : GoodIn wsX7_states (wsV RX7 168 RX0 yX0_size wsX0_size) := goodIn_app (goodIn_of _ (by decide +kernel)) ggX7_states_X0_size
theorem dX7_states_0 : decode cX7_states 0 = .ok (.aload_n 0, 1) := by decide +kernel
theorem dX7_states_1 : decode cX7_states 1 = .ok (.getfield 47, 3) := by decide +kernel
theorem dX7_states_4 : decode cX7_states 4 = .ok (.invokevirtual 168, 3) := by decide +kernel
theorem dX7_states_7 : decode cX7_states 7 = .ok (.ireturn, 1) := by decide +kernel
set_option maxRecDepth 20000 in
theorem ggX7_question_X0_nextQuestion : GoodIn wsX7_question wsX0_nextQuestion := goodIn_r _ [6, 7, 8, 9, 10, 5, 11, 12, 13, 14, 15, 16, 17, 18, 26, 27, 28, 29] (by decide +kernel) (by decide +kernel)
set_option maxRecDepth 20000 in
theorem gX7_question_X0_nextQuestion : GoodIn wsX7_question (wsV RX7 169 RX0 yX0_nextQuestion wsX0_nextQuestion) := goodIn_app (goodIn_of _ (by decide +kernel)) ggX7_question_X0_nextQuestion
theorem dX7_question_0 : decode cX7_question 0 = .ok (.aload_n 0, 1) := by decide +kernel
theorem dX7_question_1 : decode cX7_question 1 = .ok (.getfield 47, 3) := by decide +kernel
theorem dX7_question_4 : decode cX7_question 4 = .ok (.invokevirtual 169, 3) := by decide +kernel
theorem dX7_question_7 : decode cX7_question 7 = .ok (.ireturn, 1) := by decide +kernel
set_option maxRecDepth 20000 in
theorem ggX7_worst_X0_mostQuestions : GoodIn wsX7_worst wsX0_mostQuestions := goodIn_r _ [6, 7, 8, 9, 10, 11, 5, 12, 13, 14, 15, 16, 17, 18, 19, 20, 21, 22, 23, 24, 25, 26, 27, 28, 36, 37, 38, 39] (by decide +kernel) (by decide +kernel)
set_option maxRecDepth 20000 in
theorem gX7_worst_X0_mostQuestions : GoodIn wsX7_worst (wsV RX7 172 RX0 yX0_mostQuestions wsX0_mostQuestions) := goodIn_app (goodIn_of _ (by decide +kernel)) ggX7_worst_X0_mostQuestions
theorem dX7_worst_0 : decode cX7_worst 0 = .ok (.aload_n 0, 1) := by decide +kernel
theorem dX7_worst_1 : decode cX7_worst 1 = .ok (.getfield 47, 3) := by decide +kernel
theorem dX7_worst_4 : decode cX7_worst 4 = .ok (.invokevirtual 172, 3) := by decide +kernel
theorem dX7_worst_7 : decode cX7_worst 7 = .ok (.ireturn, 1) := by decide +kernel
set_option maxRecDepth 20000 in
theorem ggX7_settle_X0_inCommon : GoodIn wsX7_settle wsX0_inCommon := goodIn_r _ [7, 8, 9, 17, 18, 19, 20] (by decide +kernel) (by decide +kernel)
set_option maxRecDepth 20000 in
theorem gX7_settle_X0_inCommon : GoodIn wsX7_settle (wsV RX7 175 RX0 yX0_inCommon wsX0_inCommon) := goodIn_app (goodIn_of _ (by decide +kernel)) ggX7_settle_X0_inCommon
theorem dX7_settle_0 : decode cX7_settle 0 = .ok (.aload_n 0, 1) := by decide +kernel
theorem dX7_settle_1 : decode cX7_settle 1 = .ok (.aload_n 0, 1) := by decide +kernel
theorem dX7_settle_2 : decode cX7_settle 2 = .ok (.getfield 47, 3) := by decide +kernel
theorem dX7_settle_5 : decode cX7_settle 5 = .ok (.invokevirtual 175, 3) := by decide +kernel
theorem dX7_settle_8 : decode cX7_settle 8 = .ok (.putfield 51, 3) := by decide +kernel
theorem dX7_settle_11 : decode cX7_settle 11 = .ok (.aload_n 0, 1) := by decide +kernel
theorem dX7_settle_12 : decode cX7_settle 12 = .ok (.getfield 51, 3) := by decide +kernel
theorem dX7_settle_15 : decode cX7_settle 15 = .ok (.ireturn, 1) := by decide +kernel
set_option maxRecDepth 20000 in
theorem ggX7_state_X0_at : GoodIn wsX7_state wsX0_at := goodIn_r _ [8, 9, 10, 18, 19, 20, 21] (by decide +kernel) (by decide +kernel)
set_option maxRecDepth 20000 in
theorem gX7_state_X0_at : GoodIn wsX7_state (wsV RX7 178 RX0 yX0_at wsX0_at) := goodIn_app (goodIn_of _ (by decide +kernel)) ggX7_state_X0_at
theorem dX7_state_0 : decode cX7_state 0 = .ok (.aload_n 0, 1) := by decide +kernel
theorem dX7_state_1 : decode cX7_state 1 = .ok (.getfield 47, 3) := by decide +kernel
theorem dX7_state_4 : decode cX7_state 4 = .ok (.iload_n 1, 1) := by decide +kernel
theorem dX7_state_5 : decode cX7_state 5 = .ok (.invokevirtual 178, 3) := by decide +kernel
theorem dX7_state_8 : decode cX7_state 8 = .ok (.istore_n 2, 1) := by decide +kernel
theorem dX7_state_9 : decode cX7_state 9 = .ok (.iload_n 2, 1) := by decide +kernel
theorem dX7_state_10 : decode cX7_state 10 = .ok (.iconst (-1), 1) := by decide +kernel
theorem dX7_state_11 : decode cX7_state 11 = .ok (.if_icmp .ne 13, 3) := by decide +kernel
theorem dX7_state_14 : decode cX7_state 14 = .ok (.new 179, 3) := by decide +kernel
theorem dX7_state_17 : decode cX7_state 17 = .ok (.dup, 1) := by decide +kernel
theorem dX7_state_18 : decode cX7_state 18 = .ok (.ldc 181, 2) := by decide +kernel
theorem dX7_state_20 : decode cX7_state 20 = .ok (.invokespecial 183, 3) := by decide +kernel
theorem dX7_state_23 : decode cX7_state 23 = .ok (.athrow, 1) := by decide +kernel
theorem dX7_state_24 : decode cX7_state 24 = .ok (.iload_n 2, 1) := by decide +kernel
theorem dX7_state_25 : decode cX7_state 25 = .ok (.ireturn, 1) := by decide +kernel
set_option maxRecDepth 20000 in
theorem ggX7_endOfBestWay_X4_haveAll : GoodIn wsX7_endOfBestWay wsX4_haveAll := goodIn_r _ [9, 10, 115, 116, 117] (by decide +kernel) (by decide +kernel)
set_option maxRecDepth 20000 in
theorem gX7_endOfBestWay_X4_haveAll : GoodIn wsX7_endOfBestWay (wsV RX7 59 RX4 yX4_haveAll wsX4_haveAll) := goodIn_app (goodIn_of _ (by decide +kernel)) ggX7_endOfBestWay_X4_haveAll
set_option maxRecDepth 20000 in
theorem ggX7_endOfBestWay_X4_size : GoodIn wsX7_endOfBestWay wsX4_size := goodIn_r _ [14, 10, 115, 116, 117] (by decide +kernel) (by decide +kernel)
set_option maxRecDepth 20000 in
theorem gX7_endOfBestWay_X4_size : GoodIn wsX7_endOfBestWay (wsV RX7 93 RX4 yX4_size wsX4_size) := goodIn_app (goodIn_of _ (by decide +kernel)) ggX7_endOfBestWay_X4_size
set_option maxRecDepth 20000 in
theorem ggX7_endOfBestWay_X5_explore : GoodIn wsX7_endOfBestWay wsX5_explore := goodIn_r _ [19, 20, 21, 22, 23, 24, 25, 26, 27, 28, 29, 18, 30, 31, 32, 33, 34, 35, 36, 37, 38, 39, 40, 41, 42, 43, 44, 45, 46, 47, 48, 49, 50, 51, 52, 53, 54, 55, 56, 57, 58, 59, 60, 61, 62, 63, 64, 65, 66, 67, 68, 69, 70, 71, 72, 73, 74, 75, 76, 77, 78, 79, 80, 81, 82, 83, 84, 85, 86, 87, 88, 89, 90, 91, 92, 93, 94, 95, 96, 97, 98, 99, 118, 119, 120, 121, 122, 123, 124, 125, 126, 127, 128, 129, 130] (by decide +kernel) (by decide +kernel)
set_option maxRecDepth 20000 in
theorem gX7_endOfBestWay_X5_explore : GoodIn wsX7_endOfBestWay (wsV RX7 134 RX5 yX5_explore wsX5_explore) := goodIn_app (goodIn_of _ (by decide +kernel)) ggX7_endOfBestWay_X5_explore
set_option maxRecDepth 20000 in
theorem ggX7_endOfBestWay_X5_endWith : GoodIn wsX7_endOfBestWay wsX5_endWith := goodIn_r _ [103, 24, 25, 104, 105, 106, 18, 107, 26, 96, 97, 98, 99, 118, 119, 120] (by decide +kernel) (by decide +kernel)
set_option maxRecDepth 20000 in
theorem gX7_endOfBestWay_X5_endWith : GoodIn wsX7_endOfBestWay (wsV RX7 186 RX5 yX5_endWith wsX5_endWith) := goodIn_app (goodIn_of _ (by decide +kernel)) ggX7_endOfBestWay_X5_endWith
theorem dX7_endOfBestWay_0 : decode cX7_endOfBestWay 0 = .ok (.aload_n 0, 1) := by decide +kernel
theorem dX7_endOfBestWay_1 : decode cX7_endOfBestWay 1 = .ok (.getfield 12, 3) := by decide +kernel
theorem dX7_endOfBestWay_4 : decode cX7_endOfBestWay 4 = .ok (.iload_n 1, 1) := by decide +kernel
theorem dX7_endOfBestWay_5 : decode cX7_endOfBestWay 5 = .ok (.invokevirtual 59, 3) := by decide +kernel
theorem dX7_endOfBestWay_8 : decode cX7_endOfBestWay 8 = .ok (.ifCond .ne 5, 3) := by decide +kernel
theorem dX7_endOfBestWay_11 : decode cX7_endOfBestWay 11 = .ok (.iconst (-1), 1) := by decide +kernel
theorem dX7_endOfBestWay_12 : decode cX7_endOfBestWay 12 = .ok (.ireturn, 1) := by decide +kernel
theorem dX7_endOfBestWay_13 : decode cX7_endOfBestWay 13 = .ok (.aload_n 0, 1) := by decide +kernel
theorem dX7_endOfBestWay_14 : decode cX7_endOfBestWay 14 = .ok (.getfield 26, 3) := by decide +kernel
theorem dX7_endOfBestWay_17 : decode cX7_endOfBestWay 17 = .ok (.aload_n 0, 1) := by decide +kernel
theorem dX7_endOfBestWay_18 : decode cX7_endOfBestWay 18 = .ok (.getfield 19, 3) := by decide +kernel
theorem dX7_endOfBestWay_21 : decode cX7_endOfBestWay 21 = .ok (.aload_n 0, 1) := by decide +kernel
theorem dX7_endOfBestWay_22 : decode cX7_endOfBestWay 22 = .ok (.getfield 12, 3) := by decide +kernel
theorem dX7_endOfBestWay_25 : decode cX7_endOfBestWay 25 = .ok (.invokevirtual 93, 3) := by decide +kernel
theorem dX7_endOfBestWay_28 : decode cX7_endOfBestWay 28 = .ok (.aload_n 0, 1) := by decide +kernel
theorem dX7_endOfBestWay_29 : decode cX7_endOfBestWay 29 = .ok (.getfield 51, 3) := by decide +kernel
theorem dX7_endOfBestWay_32 : decode cX7_endOfBestWay 32 = .ok (.iload_n 2, 1) := by decide +kernel
theorem dX7_endOfBestWay_33 : decode cX7_endOfBestWay 33 = .ok (.invokevirtual 134, 3) := by decide +kernel
theorem dX7_endOfBestWay_36 : decode cX7_endOfBestWay 36 = .ok (.aload_n 0, 1) := by decide +kernel
theorem dX7_endOfBestWay_37 : decode cX7_endOfBestWay 37 = .ok (.getfield 26, 3) := by decide +kernel
theorem dX7_endOfBestWay_40 : decode cX7_endOfBestWay 40 = .ok (.iload_n 1, 1) := by decide +kernel
theorem dX7_endOfBestWay_41 : decode cX7_endOfBestWay 41 = .ok (.invokevirtual 186, 3) := by decide +kernel
theorem dX7_endOfBestWay_44 : decode cX7_endOfBestWay 44 = .ok (.ireturn, 1) := by decide +kernel
theorem dX7_isWithin_0 : decode cX7_isWithin 0 = .ok (.iload_n 0, 1) := by decide +kernel
theorem dX7_isWithin_1 : decode cX7_isWithin 1 = .ok (.iload_n 1, 1) := by decide +kernel
theorem dX7_isWithin_2 : decode cX7_isWithin 2 = .ok (.if_icmp .lt 12, 3) := by decide +kernel
theorem dX7_isWithin_5 : decode cX7_isWithin 5 = .ok (.iload_n 0, 1) := by decide +kernel
theorem dX7_isWithin_6 : decode cX7_isWithin 6 = .ok (.iload_n 2, 1) := by decide +kernel
theorem dX7_isWithin_7 : decode cX7_isWithin 7 = .ok (.if_icmp .gt 7, 3) := by decide +kernel
theorem dX7_isWithin_10 : decode cX7_isWithin 10 = .ok (.iconst 1, 1) := by decide +kernel
theorem dX7_isWithin_11 : decode cX7_isWithin 11 = .ok (.goto 4, 3) := by decide +kernel
theorem dX7_isWithin_14 : decode cX7_isWithin 14 = .ok (.iconst 0, 1) := by decide +kernel
theorem dX7_isWithin_15 : decode cX7_isWithin 15 = .ok (.ireturn, 1) := by decide +kernel
theorem dX7_isSkimmed_0 : decode cX7_isSkimmed 0 = .ok (.iload_n 0, 1) := by decide +kernel
theorem dX7_isSkimmed_1 : decode cX7_isSkimmed 1 = .ok (.iconst 1, 1) := by decide +kernel
theorem dX7_isSkimmed_2 : decode cX7_isSkimmed 2 = .ok (.iand, 1) := by decide +kernel
theorem dX7_isSkimmed_3 : decode cX7_isSkimmed 3 = .ok (.iconst 1, 1) := by decide +kernel
theorem dX7_isSkimmed_4 : decode cX7_isSkimmed 4 = .ok (.if_icmp .ne 7, 3) := by decide +kernel
theorem dX7_isSkimmed_7 : decode cX7_isSkimmed 7 = .ok (.iconst 1, 1) := by decide +kernel
theorem dX7_isSkimmed_8 : decode cX7_isSkimmed 8 = .ok (.goto 4, 3) := by decide +kernel
theorem dX7_isSkimmed_11 : decode cX7_isSkimmed 11 = .ok (.iconst 0, 1) := by decide +kernel
theorem dX7_isSkimmed_12 : decode cX7_isSkimmed 12 = .ok (.ireturn, 1) := by decide +kernel
