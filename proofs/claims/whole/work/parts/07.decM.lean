theorem dX8_init_0 : decode cX8_init 0 = .ok (.aload_n 0, 1) := by decide +kernel
theorem dX8_init_1 : decode cX8_init 1 = .ok (.invokespecial 3, 3) := by decide +kernel
theorem dX8_init_4 : decode cX8_init 4 = .ok (.aload_n 0, 1) := by decide +kernel
theorem dX8_init_5 : decode cX8_init 5 = .ok (.bipush 12, 2) := by decide +kernel
theorem dX8_init_7 : decode cX8_init 7 = .ok (.newarray .int, 2) := by decide +kernel
theorem dX8_init_9 : decode cX8_init 9 = .ok (.putfield 9, 3) := by decide +kernel
theorem dX8_init_12 : decode cX8_init 12 = .ok (.aload_n 0, 1) := by decide +kernel
theorem dX8_init_13 : decode cX8_init 13 = .ok (.bipush 12, 2) := by decide +kernel
theorem dX8_init_15 : decode cX8_init 15 = .ok (.newarray .int, 2) := by decide +kernel
theorem dX8_init_17 : decode cX8_init 17 = .ok (.putfield 13, 3) := by decide +kernel
theorem dX8_init_20 : decode cX8_init 20 = .ok (.aload_n 0, 1) := by decide +kernel
theorem dX8_init_21 : decode cX8_init 21 = .ok (.bipush 14, 2) := by decide +kernel
theorem dX8_init_23 : decode cX8_init 23 = .ok (.newarray .int, 2) := by decide +kernel
theorem dX8_init_25 : decode cX8_init 25 = .ok (.putfield 16, 3) := by decide +kernel
theorem dX8_init_28 : decode cX8_init 28 = .ok (.aload_n 0, 1) := by decide +kernel
theorem dX8_init_29 : decode cX8_init 29 = .ok (.bipush 14, 2) := by decide +kernel
theorem dX8_init_31 : decode cX8_init 31 = .ok (.newarray .int, 2) := by decide +kernel
theorem dX8_init_33 : decode cX8_init 33 = .ok (.putfield 19, 3) := by decide +kernel
theorem dX8_init_36 : decode cX8_init 36 = .ok (.aload_n 0, 1) := by decide +kernel
theorem dX8_init_37 : decode cX8_init 37 = .ok (.bipush 14, 2) := by decide +kernel
theorem dX8_init_39 : decode cX8_init 39 = .ok (.newarray .int, 2) := by decide +kernel
theorem dX8_init_41 : decode cX8_init 41 = .ok (.putfield 22, 3) := by decide +kernel
theorem dX8_init_44 : decode cX8_init 44 = .ok (.aload_n 0, 1) := by decide +kernel
theorem dX8_init_45 : decode cX8_init 45 = .ok (.bipush 14, 2) := by decide +kernel
theorem dX8_init_47 : decode cX8_init 47 = .ok (.newarray .int, 2) := by decide +kernel
theorem dX8_init_49 : decode cX8_init 49 = .ok (.putfield 25, 3) := by decide +kernel
theorem dX8_init_52 : decode cX8_init 52 = .ok (.aload_n 0, 1) := by decide +kernel
theorem dX8_init_53 : decode cX8_init 53 = .ok (.bipush 14, 2) := by decide +kernel
theorem dX8_init_55 : decode cX8_init 55 = .ok (.newarray .int, 2) := by decide +kernel
theorem dX8_init_57 : decode cX8_init 57 = .ok (.putfield 28, 3) := by decide +kernel
theorem dX8_init_60 : decode cX8_init 60 = .ok (.aload_n 0, 1) := by decide +kernel
theorem dX8_init_61 : decode cX8_init 61 = .ok (.iconst 2, 1) := by decide +kernel
theorem dX8_init_62 : decode cX8_init 62 = .ok (.putfield 31, 3) := by decide +kernel
theorem dX8_init_65 : decode cX8_init 65 = .ok (.aload_n 0, 1) := by decide +kernel
theorem dX8_init_66 : decode cX8_init 66 = .ok (.bipush 12, 2) := by decide +kernel
theorem dX8_init_68 : decode cX8_init 68 = .ok (.newarray .int, 2) := by decide +kernel
theorem dX8_init_70 : decode cX8_init 70 = .ok (.putfield 35, 3) := by decide +kernel
theorem dX8_init_73 : decode cX8_init 73 = .ok (.aload_n 0, 1) := by decide +kernel
theorem dX8_init_74 : decode cX8_init 74 = .ok (.bipush 52, 2) := by decide +kernel
theorem dX8_init_76 : decode cX8_init 76 = .ok (.newarray .int, 2) := by decide +kernel
theorem dX8_init_78 : decode cX8_init 78 = .ok (.putfield 38, 3) := by decide +kernel
theorem dX8_init_81 : decode cX8_init 81 = .ok (.aload_n 0, 1) := by decide +kernel
theorem dX8_init_82 : decode cX8_init 82 = .ok (.bipush 12, 2) := by decide +kernel
theorem dX8_init_84 : decode cX8_init 84 = .ok (.newarray .int, 2) := by decide +kernel
theorem dX8_init_86 : decode cX8_init 86 = .ok (.putfield 41, 3) := by decide +kernel
theorem dX8_init_89 : decode cX8_init 89 = .ok (.aload_n 0, 1) := by decide +kernel
theorem dX8_init_90 : decode cX8_init 90 = .ok (.bipush 12, 2) := by decide +kernel
theorem dX8_init_92 : decode cX8_init 92 = .ok (.newarray .int, 2) := by decide +kernel
theorem dX8_init_94 : decode cX8_init 94 = .ok (.putfield 44, 3) := by decide +kernel
theorem dX8_init_97 : decode cX8_init 97 = .ok (.aload_n 0, 1) := by decide +kernel
theorem dX8_init_98 : decode cX8_init 98 = .ok (.sipush 4096, 3) := by decide +kernel
theorem dX8_init_101 : decode cX8_init 101 = .ok (.newarray .int, 2) := by decide +kernel
theorem dX8_init_103 : decode cX8_init 103 = .ok (.putfield 47, 3) := by decide +kernel
theorem dX8_init_106 : decode cX8_init 106 = .ok (.aload_n 0, 1) := by decide +kernel
theorem dX8_init_107 : decode cX8_init 107 = .ok (.sipush 4096, 3) := by decide +kernel
theorem dX8_init_110 : decode cX8_init 110 = .ok (.newarray .int, 2) := by decide +kernel
theorem dX8_init_112 : decode cX8_init 112 = .ok (.putfield 50, 3) := by decide +kernel
theorem dX8_init_115 : decode cX8_init 115 = .ok (.aload_n 0, 1) := by decide +kernel
theorem dX8_init_116 : decode cX8_init 116 = .ok (.sipush 4096, 3) := by decide +kernel
theorem dX8_init_119 : decode cX8_init 119 = .ok (.newarray .boolean, 2) := by decide +kernel
theorem dX8_init_121 : decode cX8_init 121 = .ok (.putfield 53, 3) := by decide +kernel
theorem dX8_init_124 : decode cX8_init 124 = .ok (.aload_n 0, 1) := by decide +kernel
theorem dX8_init_125 : decode cX8_init 125 = .ok (.bipush 12, 2) := by decide +kernel
theorem dX8_init_127 : decode cX8_init 127 = .ok (.newarray .int, 2) := by decide +kernel
theorem dX8_init_129 : decode cX8_init 129 = .ok (.putfield 57, 3) := by decide +kernel
theorem dX8_init_132 : decode cX8_init 132 = .ok (.aload_n 0, 1) := by decide +kernel
theorem dX8_init_133 : decode cX8_init 133 = .ok (.bipush 64, 2) := by decide +kernel
theorem dX8_init_135 : decode cX8_init 135 = .ok (.newarray .int, 2) := by decide +kernel
theorem dX8_init_137 : decode cX8_init 137 = .ok (.putfield 60, 3) := by decide +kernel
theorem dX8_init_140 : decode cX8_init 140 = .ok (.iconst 0, 1) := by decide +kernel
theorem dX8_init_141 : decode cX8_init 141 = .ok (.istore_n 1, 1) := by decide +kernel
theorem dX8_init_142 : decode cX8_init 142 = .ok (.iload_n 1, 1) := by decide +kernel
theorem dX8_init_143 : decode cX8_init 143 = .ok (.bipush 52, 2) := by decide +kernel
theorem dX8_init_145 : decode cX8_init 145 = .ok (.if_icmp .ge 18, 3) := by decide +kernel
theorem dX8_init_148 : decode cX8_init 148 = .ok (.aload_n 0, 1) := by decide +kernel
theorem dX8_init_149 : decode cX8_init 149 = .ok (.getfield 38, 3) := by decide +kernel
theorem dX8_init_152 : decode cX8_init 152 = .ok (.iload_n 1, 1) := by decide +kernel
theorem dX8_init_153 : decode cX8_init 153 = .ok (.sipush 300, 3) := by decide +kernel
theorem dX8_init_156 : decode cX8_init 156 = .ok (.iastore, 1) := by decide +kernel
theorem dX8_init_157 : decode cX8_init 157 = .ok (.iinc 1 1, 3) := by decide +kernel
theorem dX8_init_160 : decode cX8_init 160 = .ok (.goto (-18), 3) := by decide +kernel
theorem dX8_init_163 : decode cX8_init 163 = .ok (.return_, 1) := by decide +kernel
theorem dX8_thrown_0 : decode cX8_thrown 0 = .ok (.aload_n 0, 1) := by decide +kernel
theorem dX8_thrown_1 : decode cX8_thrown 1 = .ok (.getfield 63, 3) := by decide +kernel
theorem dX8_thrown_4 : decode cX8_thrown 4 = .ok (.ireturn, 1) := by decide +kernel
theorem dX8_in_0 : decode cX8_in 0 = .ok (.iload_n 0, 1) := by decide +kernel
theorem dX8_in_1 : decode cX8_in 1 = .ok (.iload_n 1, 1) := by decide +kernel
theorem dX8_in_2 : decode cX8_in 2 = .ok (.if_icmp .lt 12, 3) := by decide +kernel
theorem dX8_in_5 : decode cX8_in 5 = .ok (.iload_n 0, 1) := by decide +kernel
theorem dX8_in_6 : decode cX8_in 6 = .ok (.iload_n 2, 1) := by decide +kernel
theorem dX8_in_7 : decode cX8_in 7 = .ok (.if_icmp .gt 7, 3) := by decide +kernel
theorem dX8_in_10 : decode cX8_in 10 = .ok (.iconst 1, 1) := by decide +kernel
theorem dX8_in_11 : decode cX8_in 11 = .ok (.goto 4, 3) := by decide +kernel
theorem dX8_in_14 : decode cX8_in 14 = .ok (.iconst 0, 1) := by decide +kernel
theorem dX8_in_15 : decode cX8_in 15 = .ok (.ireturn, 1) := by decide +kernel
set_option maxRecDepth 20000 in
theorem ggX8_areBits_X8_in : GoodIn wsX8_areBits wsX8_in := goodIn_r _ [5] (by decide +kernel) (by decide +kernel)
set_option maxRecDepth 20000 in
theorem gX8_areBits_X8_in : GoodIn wsX8_areBits (va_wsS RX8 69 yX8_in wsX8_in) := goodIn_app (goodIn_of _ (by decide +kernel)) ggX8_areBits_X8_in
theorem dX8_areBits_0 : decode cX8_areBits 0 = .ok (.iload_n 1, 1) := by decide +kernel
theorem dX8_areBits_1 : decode cX8_areBits 1 = .ok (.iconst 0, 1) := by decide +kernel
theorem dX8_areBits_2 : decode cX8_areBits 2 = .ok (.iconst 1, 1) := by decide +kernel
theorem dX8_areBits_3 : decode cX8_areBits 3 = .ok (.aload_n 0, 1) := by decide +kernel
theorem dX8_areBits_4 : decode cX8_areBits 4 = .ok (.getfield 66, 3) := by decide +kernel
theorem dX8_areBits_7 : decode cX8_areBits 7 = .ok (.ishl, 1) := by decide +kernel
theorem dX8_areBits_8 : decode cX8_areBits 8 = .ok (.iconst 1, 1) := by decide +kernel
theorem dX8_areBits_9 : decode cX8_areBits 9 = .ok (.isub, 1) := by decide +kernel
theorem dX8_areBits_10 : decode cX8_areBits 10 = .ok (.invokestatic 69, 3) := by decide +kernel
theorem dX8_areBits_13 : decode cX8_areBits 13 = .ok (.ireturn, 1) := by decide +kernel
set_option maxRecDepth 20000 in
theorem ggX8_isStep_X8_in : GoodIn wsX8_isStep wsX8_in := goodIn_r _ [5] (by decide +kernel) (by decide +kernel)
set_option maxRecDepth 20000 in
theorem gX8_isStep_X8_in : GoodIn wsX8_isStep (va_wsS RX8 69 yX8_in wsX8_in) := goodIn_app (goodIn_of _ (by decide +kernel)) ggX8_isStep_X8_in
theorem dX8_isStep_0 : decode cX8_isStep 0 = .ok (.iload_n 1, 1) := by decide +kernel
theorem dX8_isStep_1 : decode cX8_isStep 1 = .ok (.iconst 0, 1) := by decide +kernel
theorem dX8_isStep_2 : decode cX8_isStep 2 = .ok (.iconst 2, 1) := by decide +kernel
theorem dX8_isStep_3 : decode cX8_isStep 3 = .ok (.aload_n 0, 1) := by decide +kernel
theorem dX8_isStep_4 : decode cX8_isStep 4 = .ok (.getfield 73, 3) := by decide +kernel
theorem dX8_isStep_7 : decode cX8_isStep 7 = .ok (.imul, 1) := by decide +kernel
theorem dX8_isStep_8 : decode cX8_isStep 8 = .ok (.iconst 1, 1) := by decide +kernel
theorem dX8_isStep_9 : decode cX8_isStep 9 = .ok (.isub, 1) := by decide +kernel
theorem dX8_isStep_10 : decode cX8_isStep 10 = .ok (.invokestatic 69, 3) := by decide +kernel
theorem dX8_isStep_13 : decode cX8_isStep 13 = .ok (.ireturn, 1) := by decide +kernel
theorem dX8_withAll_0 : decode cX8_withAll 0 = .ok (.iload_n 1, 1) := by decide +kernel
theorem dX8_withAll_1 : decode cX8_withAll 1 = .ok (.istore_n 2, 1) := by decide +kernel
theorem dX8_withAll_2 : decode cX8_withAll 2 = .ok (.iconst 0, 1) := by decide +kernel
theorem dX8_withAll_3 : decode cX8_withAll 3 = .ok (.istore_n 3, 1) := by decide +kernel
theorem dX8_withAll_4 : decode cX8_withAll 4 = .ok (.iload_n 3, 1) := by decide +kernel
theorem dX8_withAll_5 : decode cX8_withAll 5 = .ok (.aload_n 0, 1) := by decide +kernel
theorem dX8_withAll_6 : decode cX8_withAll 6 = .ok (.getfield 66, 3) := by decide +kernel
theorem dX8_withAll_9 : decode cX8_withAll 9 = .ok (.if_icmp .ge 27, 3) := by decide +kernel
theorem dX8_withAll_12 : decode cX8_withAll 12 = .ok (.iload_n 1, 1) := by decide +kernel
theorem dX8_withAll_13 : decode cX8_withAll 13 = .ok (.iload_n 3, 1) := by decide +kernel
theorem dX8_withAll_14 : decode cX8_withAll 14 = .ok (.ishr, 1) := by decide +kernel
theorem dX8_withAll_15 : decode cX8_withAll 15 = .ok (.iconst 1, 1) := by decide +kernel
theorem dX8_withAll_16 : decode cX8_withAll 16 = .ok (.iand, 1) := by decide +kernel
theorem dX8_withAll_17 : decode cX8_withAll 17 = .ok (.iconst 1, 1) := by decide +kernel
theorem dX8_withAll_18 : decode cX8_withAll 18 = .ok (.if_icmp .ne 12, 3) := by decide +kernel
theorem dX8_withAll_21 : decode cX8_withAll 21 = .ok (.iload_n 2, 1) := by decide +kernel
theorem dX8_withAll_22 : decode cX8_withAll 22 = .ok (.aload_n 0, 1) := by decide +kernel
theorem dX8_withAll_23 : decode cX8_withAll 23 = .ok (.getfield 13, 3) := by decide +kernel
theorem dX8_withAll_26 : decode cX8_withAll 26 = .ok (.iload_n 3, 1) := by decide +kernel
theorem dX8_withAll_27 : decode cX8_withAll 27 = .ok (.iaload, 1) := by decide +kernel
theorem dX8_withAll_28 : decode cX8_withAll 28 = .ok (.ior, 1) := by decide +kernel
theorem dX8_withAll_29 : decode cX8_withAll 29 = .ok (.istore_n 2, 1) := by decide +kernel
theorem dX8_withAll_30 : decode cX8_withAll 30 = .ok (.iinc 3 1, 3) := by decide +kernel
theorem dX8_withAll_33 : decode cX8_withAll 33 = .ok (.goto (-29), 3) := by decide +kernel
theorem dX8_withAll_36 : decode cX8_withAll 36 = .ok (.iload_n 2, 1) := by decide +kernel
theorem dX8_withAll_37 : decode cX8_withAll 37 = .ok (.ireturn, 1) := by decide +kernel
set_option maxRecDepth 20000 in
theorem ggX8_topic_X8_in : GoodIn wsX8_topic wsX8_in := goodIn_r _ [8] (by decide +kernel) (by decide +kernel)
set_option maxRecDepth 20000 in
theorem gX8_topic_X8_in : GoodIn wsX8_topic (va_wsS RX8 69 yX8_in wsX8_in) := goodIn_app (goodIn_of _ (by decide +kernel)) ggX8_topic_X8_in
set_option maxRecDepth 20000 in
theorem ggX8_topic_X8_areBits : GoodIn wsX8_topic wsX8_areBits := goodIn_r _ [12, 2, 5, 6, 7, 8, 17, 18, 19, 20, 21, 22, 23, 24, 25, 26, 27, 28, 29, 30, 31, 32, 33, 34, 35, 36, 37, 38, 39, 40] (by decide +kernel) (by decide +kernel)
set_option maxRecDepth 20000 in
theorem gX8_topic_X8_areBits : GoodIn wsX8_topic (wsV RX8 76 RX8 yX8_areBits wsX8_areBits) := goodIn_app (goodIn_of _ (by decide +kernel)) ggX8_topic_X8_areBits
set_option maxRecDepth 20000 in
theorem ggX8_topic_X8_withAll : GoodIn wsX8_topic wsX8_withAll := goodIn_r _ [16, 2, 4, 17, 18, 19, 20, 21, 22, 23, 24, 25, 26, 27, 28, 29, 30, 31, 32, 33, 34, 35, 36, 37, 38, 39, 40] (by decide +kernel) (by decide +kernel)
set_option maxRecDepth 20000 in
theorem gX8_topic_X8_withAll : GoodIn wsX8_topic (wsV RX8 80 RX8 yX8_withAll wsX8_withAll) := goodIn_app (goodIn_of _ (by decide +kernel)) ggX8_topic_X8_withAll
theorem dX8_topic_0 : decode cX8_topic 0 = .ok (.aload_n 0, 1) := by decide +kernel
theorem dX8_topic_1 : decode cX8_topic 1 = .ok (.iconst 0, 1) := by decide +kernel
theorem dX8_topic_2 : decode cX8_topic 2 = .ok (.putfield 63, 3) := by decide +kernel
theorem dX8_topic_5 : decode cX8_topic 5 = .ok (.iload_n 1, 1) := by decide +kernel
theorem dX8_topic_6 : decode cX8_topic 6 = .ok (.iconst 0, 1) := by decide +kernel
theorem dX8_topic_7 : decode cX8_topic 7 = .ok (.bipush 9, 2) := by decide +kernel
theorem dX8_topic_9 : decode cX8_topic 9 = .ok (.invokestatic 69, 3) := by decide +kernel
theorem dX8_topic_12 : decode cX8_topic 12 = .ok (.ifCond .eq 20, 3) := by decide +kernel
theorem dX8_topic_15 : decode cX8_topic 15 = .ok (.aload_n 0, 1) := by decide +kernel
theorem dX8_topic_16 : decode cX8_topic 16 = .ok (.iload_n 2, 1) := by decide +kernel
theorem dX8_topic_17 : decode cX8_topic 17 = .ok (.invokevirtual 76, 3) := by decide +kernel
theorem dX8_topic_20 : decode cX8_topic 20 = .ok (.ifCond .eq 12, 3) := by decide +kernel
theorem dX8_topic_23 : decode cX8_topic 23 = .ok (.aload_n 0, 1) := by decide +kernel
theorem dX8_topic_24 : decode cX8_topic 24 = .ok (.getfield 66, 3) := by decide +kernel
theorem dX8_topic_27 : decode cX8_topic 27 = .ok (.bipush 12, 2) := by decide +kernel
theorem dX8_topic_29 : decode cX8_topic 29 = .ok (.if_icmp .ne 5, 3) := by decide +kernel
theorem dX8_topic_32 : decode cX8_topic 32 = .ok (.iconst (-1), 1) := by decide +kernel
theorem dX8_topic_33 : decode cX8_topic 33 = .ok (.ireturn, 1) := by decide +kernel
theorem dX8_topic_34 : decode cX8_topic 34 = .ok (.aload_n 0, 1) := by decide +kernel
theorem dX8_topic_35 : decode cX8_topic 35 = .ok (.getfield 9, 3) := by decide +kernel
theorem dX8_topic_38 : decode cX8_topic 38 = .ok (.aload_n 0, 1) := by decide +kernel
theorem dX8_topic_39 : decode cX8_topic 39 = .ok (.getfield 66, 3) := by decide +kernel
theorem dX8_topic_42 : decode cX8_topic 42 = .ok (.iload_n 1, 1) := by decide +kernel
theorem dX8_topic_43 : decode cX8_topic 43 = .ok (.iastore, 1) := by decide +kernel
theorem dX8_topic_44 : decode cX8_topic 44 = .ok (.aload_n 0, 1) := by decide +kernel
theorem dX8_topic_45 : decode cX8_topic 45 = .ok (.getfield 13, 3) := by decide +kernel
theorem dX8_topic_48 : decode cX8_topic 48 = .ok (.aload_n 0, 1) := by decide +kernel
theorem dX8_topic_49 : decode cX8_topic 49 = .ok (.getfield 66, 3) := by decide +kernel
theorem dX8_topic_52 : decode cX8_topic 52 = .ok (.aload_n 0, 1) := by decide +kernel
theorem dX8_topic_53 : decode cX8_topic 53 = .ok (.iload_n 2, 1) := by decide +kernel
theorem dX8_topic_54 : decode cX8_topic 54 = .ok (.invokevirtual 80, 3) := by decide +kernel
theorem dX8_topic_57 : decode cX8_topic 57 = .ok (.iastore, 1) := by decide +kernel
theorem dX8_topic_58 : decode cX8_topic 58 = .ok (.aload_n 0, 1) := by decide +kernel
theorem dX8_topic_59 : decode cX8_topic 59 = .ok (.dup, 1) := by decide +kernel
theorem dX8_topic_60 : decode cX8_topic 60 = .ok (.getfield 66, 3) := by decide +kernel
theorem dX8_topic_63 : decode cX8_topic 63 = .ok (.iconst 1, 1) := by decide +kernel
theorem dX8_topic_64 : decode cX8_topic 64 = .ok (.iadd, 1) := by decide +kernel
theorem dX8_topic_65 : decode cX8_topic 65 = .ok (.putfield 66, 3) := by decide +kernel
theorem dX8_topic_68 : decode cX8_topic 68 = .ok (.aload_n 0, 1) := by decide +kernel
theorem dX8_topic_69 : decode cX8_topic 69 = .ok (.getfield 66, 3) := by decide +kernel
theorem dX8_topic_72 : decode cX8_topic 72 = .ok (.iconst 1, 1) := by decide +kernel
theorem dX8_topic_73 : decode cX8_topic 73 = .ok (.isub, 1) := by decide +kernel
theorem dX8_topic_74 : decode cX8_topic 74 = .ok (.ireturn, 1) := by decide +kernel
set_option maxRecDepth 20000 in
theorem ggX8_piece_X8_areBits : GoodIn wsX8_piece wsX8_areBits := goodIn_r _ [12, 13, 14, 15, 11, 16, 17, 18, 19, 20, 21, 22, 23, 24, 25, 26, 27, 28, 29, 30, 31, 32, 33, 34, 35, 36, 37, 38, 39, 40] (by decide +kernel) (by decide +kernel)
set_option maxRecDepth 20000 in
theorem gX8_piece_X8_areBits : GoodIn wsX8_piece (wsV RX8 76 RX8 yX8_areBits wsX8_areBits) := goodIn_app (goodIn_of _ (by decide +kernel)) ggX8_piece_X8_areBits
set_option maxRecDepth 20000 in
theorem ggX8_piece_X8_in : GoodIn wsX8_piece wsX8_in := goodIn_r _ [16] (by decide +kernel) (by decide +kernel)
set_option maxRecDepth 20000 in
theorem gX8_piece_X8_in : GoodIn wsX8_piece (va_wsS RX8 69 yX8_in wsX8_in) := goodIn_app (goodIn_of _ (by decide +kernel)) ggX8_piece_X8_in
theorem dX8_piece_0 : decode cX8_piece 0 = .ok (.aload_n 0, 1) := by decide +kernel
theorem dX8_piece_1 : decode cX8_piece 1 = .ok (.iconst 0, 1) := by decide +kernel
theorem dX8_piece_2 : decode cX8_piece 2 = .ok (.putfield 63, 3) := by decide +kernel
theorem dX8_piece_5 : decode cX8_piece 5 = .ok (.aload_n 0, 1) := by decide +kernel
theorem dX8_piece_6 : decode cX8_piece 6 = .ok (.iload_n 1, 1) := by decide +kernel
theorem dX8_piece_7 : decode cX8_piece 7 = .ok (.invokevirtual 76, 3) := by decide +kernel
theorem dX8_piece_10 : decode cX8_piece 10 = .ok (.ifCond .eq 62, 3) := by decide +kernel
theorem dX8_piece_13 : decode cX8_piece 13 = .ok (.aload_n 0, 1) := by decide +kernel
theorem dX8_piece_14 : decode cX8_piece 14 = .ok (.iload_n 2, 1) := by decide +kernel
theorem dX8_piece_15 : decode cX8_piece 15 = .ok (.invokevirtual 76, 3) := by decide +kernel
theorem dX8_piece_18 : decode cX8_piece 18 = .ok (.ifCond .eq 54, 3) := by decide +kernel
theorem dX8_piece_21 : decode cX8_piece 21 = .ok (.aload_n 0, 1) := by decide +kernel
theorem dX8_piece_22 : decode cX8_piece 22 = .ok (.iload_n 3, 1) := by decide +kernel
theorem dX8_piece_23 : decode cX8_piece 23 = .ok (.invokevirtual 76, 3) := by decide +kernel
theorem dX8_piece_26 : decode cX8_piece 26 = .ok (.ifCond .eq 46, 3) := by decide +kernel
theorem dX8_piece_29 : decode cX8_piece 29 = .ok (.aload_n 0, 1) := by decide +kernel
theorem dX8_piece_30 : decode cX8_piece 30 = .ok (.iload 4, 2) := by decide +kernel
theorem dX8_piece_32 : decode cX8_piece 32 = .ok (.invokevirtual 76, 3) := by decide +kernel
theorem dX8_piece_35 : decode cX8_piece 35 = .ok (.ifCond .eq 37, 3) := by decide +kernel
theorem dX8_piece_38 : decode cX8_piece 38 = .ok (.iload_n 3, 1) := by decide +kernel
theorem dX8_piece_39 : decode cX8_piece 39 = .ok (.ifCond .eq 33, 3) := by decide +kernel
theorem dX8_piece_42 : decode cX8_piece 42 = .ok (.iload 4, 2) := by decide +kernel
theorem dX8_piece_44 : decode cX8_piece 44 = .ok (.iload_n 3, 1) := by decide +kernel
theorem dX8_piece_45 : decode cX8_piece 45 = .ok (.iconst (-1), 1) := by decide +kernel
theorem dX8_piece_46 : decode cX8_piece 46 = .ok (.ixor, 1) := by decide +kernel
theorem dX8_piece_47 : decode cX8_piece 47 = .ok (.iand, 1) := by decide +kernel
theorem dX8_piece_48 : decode cX8_piece 48 = .ok (.ifCond .ne 24, 3) := by decide +kernel
theorem dX8_piece_51 : decode cX8_piece 51 = .ok (.iload 5, 2) := by decide +kernel
theorem dX8_piece_53 : decode cX8_piece 53 = .ok (.iconst 1, 1) := by decide +kernel
theorem dX8_piece_54 : decode cX8_piece 54 = .ok (.sipush 400, 3) := by decide +kernel
theorem dX8_piece_57 : decode cX8_piece 57 = .ok (.invokestatic 69, 3) := by decide +kernel
theorem dX8_piece_60 : decode cX8_piece 60 = .ok (.ifCond .eq 12, 3) := by decide +kernel
theorem dX8_piece_63 : decode cX8_piece 63 = .ok (.aload_n 0, 1) := by decide +kernel
theorem dX8_piece_64 : decode cX8_piece 64 = .ok (.getfield 73, 3) := by decide +kernel
theorem dX8_piece_67 : decode cX8_piece 67 = .ok (.bipush 14, 2) := by decide +kernel
theorem dX8_piece_69 : decode cX8_piece 69 = .ok (.if_icmp .ne 5, 3) := by decide +kernel
theorem dX8_piece_72 : decode cX8_piece 72 = .ok (.iconst (-1), 1) := by decide +kernel
theorem dX8_piece_73 : decode cX8_piece 73 = .ok (.ireturn, 1) := by decide +kernel
theorem dX8_piece_74 : decode cX8_piece 74 = .ok (.aload_n 0, 1) := by decide +kernel
theorem dX8_piece_75 : decode cX8_piece 75 = .ok (.getfield 16, 3) := by decide +kernel
theorem dX8_piece_78 : decode cX8_piece 78 = .ok (.aload_n 0, 1) := by decide +kernel
theorem dX8_piece_79 : decode cX8_piece 79 = .ok (.getfield 73, 3) := by decide +kernel
theorem dX8_piece_82 : decode cX8_piece 82 = .ok (.iload_n 1, 1) := by decide +kernel
theorem dX8_piece_83 : decode cX8_piece 83 = .ok (.iastore, 1) := by decide +kernel
theorem dX8_piece_84 : decode cX8_piece 84 = .ok (.aload_n 0, 1) := by decide +kernel
theorem dX8_piece_85 : decode cX8_piece 85 = .ok (.getfield 19, 3) := by decide +kernel
theorem dX8_piece_88 : decode cX8_piece 88 = .ok (.aload_n 0, 1) := by decide +kernel
theorem dX8_piece_89 : decode cX8_piece 89 = .ok (.getfield 73, 3) := by decide +kernel
theorem dX8_piece_92 : decode cX8_piece 92 = .ok (.iload_n 2, 1) := by decide +kernel
theorem dX8_piece_93 : decode cX8_piece 93 = .ok (.iastore, 1) := by decide +kernel
theorem dX8_piece_94 : decode cX8_piece 94 = .ok (.aload_n 0, 1) := by decide +kernel
theorem dX8_piece_95 : decode cX8_piece 95 = .ok (.getfield 22, 3) := by decide +kernel
theorem dX8_piece_98 : decode cX8_piece 98 = .ok (.aload_n 0, 1) := by decide +kernel
theorem dX8_piece_99 : decode cX8_piece 99 = .ok (.getfield 73, 3) := by decide +kernel
theorem dX8_piece_102 : decode cX8_piece 102 = .ok (.iload_n 3, 1) := by decide +kernel
theorem dX8_piece_103 : decode cX8_piece 103 = .ok (.iastore, 1) := by decide +kernel
theorem dX8_piece_104 : decode cX8_piece 104 = .ok (.aload_n 0, 1) := by decide +kernel
theorem dX8_piece_105 : decode cX8_piece 105 = .ok (.getfield 25, 3) := by decide +kernel
theorem dX8_piece_108 : decode cX8_piece 108 = .ok (.aload_n 0, 1) := by decide +kernel
theorem dX8_piece_109 : decode cX8_piece 109 = .ok (.getfield 73, 3) := by decide +kernel
theorem dX8_piece_112 : decode cX8_piece 112 = .ok (.iload 4, 2) := by decide +kernel
theorem dX8_piece_114 : decode cX8_piece 114 = .ok (.iastore, 1) := by decide +kernel
theorem dX8_piece_115 : decode cX8_piece 115 = .ok (.aload_n 0, 1) := by decide +kernel
theorem dX8_piece_116 : decode cX8_piece 116 = .ok (.getfield 28, 3) := by decide +kernel
theorem dX8_piece_119 : decode cX8_piece 119 = .ok (.aload_n 0, 1) := by decide +kernel
theorem dX8_piece_120 : decode cX8_piece 120 = .ok (.getfield 73, 3) := by decide +kernel
theorem dX8_piece_123 : decode cX8_piece 123 = .ok (.iload 5, 2) := by decide +kernel
theorem dX8_piece_125 : decode cX8_piece 125 = .ok (.iastore, 1) := by decide +kernel
theorem dX8_piece_126 : decode cX8_piece 126 = .ok (.aload_n 0, 1) := by decide +kernel
theorem dX8_piece_127 : decode cX8_piece 127 = .ok (.dup, 1) := by decide +kernel
theorem dX8_piece_128 : decode cX8_piece 128 = .ok (.getfield 73, 3) := by decide +kernel
theorem dX8_piece_131 : decode cX8_piece 131 = .ok (.iconst 1, 1) := by decide +kernel
theorem dX8_piece_132 : decode cX8_piece 132 = .ok (.iadd, 1) := by decide +kernel
theorem dX8_piece_133 : decode cX8_piece 133 = .ok (.putfield 73, 3) := by decide +kernel
theorem dX8_piece_136 : decode cX8_piece 136 = .ok (.aload_n 0, 1) := by decide +kernel
theorem dX8_piece_137 : decode cX8_piece 137 = .ok (.getfield 73, 3) := by decide +kernel
theorem dX8_piece_140 : decode cX8_piece 140 = .ok (.iconst 1, 1) := by decide +kernel
theorem dX8_piece_141 : decode cX8_piece 141 = .ok (.isub, 1) := by decide +kernel
theorem dX8_piece_142 : decode cX8_piece 142 = .ok (.ireturn, 1) := by decide +kernel
theorem dX8_drop_0 : decode cX8_drop 0 = .ok (.aload_n 0, 1) := by decide +kernel
theorem dX8_drop_1 : decode cX8_drop 1 = .ok (.iconst 0, 1) := by decide +kernel
theorem dX8_drop_2 : decode cX8_drop 2 = .ok (.putfield 63, 3) := by decide +kernel
theorem dX8_drop_5 : decode cX8_drop 5 = .ok (.aload_n 0, 1) := by decide +kernel
theorem dX8_drop_6 : decode cX8_drop 6 = .ok (.getfield 73, 3) := by decide +kernel
theorem dX8_drop_9 : decode cX8_drop 9 = .ok (.ifCond .ne 5, 3) := by decide +kernel
theorem dX8_drop_12 : decode cX8_drop 12 = .ok (.iconst (-1), 1) := by decide +kernel
theorem dX8_drop_13 : decode cX8_drop 13 = .ok (.ireturn, 1) := by decide +kernel
theorem dX8_drop_14 : decode cX8_drop 14 = .ok (.aload_n 0, 1) := by decide +kernel
theorem dX8_drop_15 : decode cX8_drop 15 = .ok (.dup, 1) := by decide +kernel
theorem dX8_drop_16 : decode cX8_drop 16 = .ok (.getfield 73, 3) := by decide +kernel
theorem dX8_drop_19 : decode cX8_drop 19 = .ok (.iconst 1, 1) := by decide +kernel
theorem dX8_drop_20 : decode cX8_drop 20 = .ok (.isub, 1) := by decide +kernel
theorem dX8_drop_21 : decode cX8_drop 21 = .ok (.putfield 73, 3) := by decide +kernel
theorem dX8_drop_24 : decode cX8_drop 24 = .ok (.aload_n 0, 1) := by decide +kernel
theorem dX8_drop_25 : decode cX8_drop 25 = .ok (.getfield 73, 3) := by decide +kernel
theorem dX8_drop_28 : decode cX8_drop 28 = .ok (.ireturn, 1) := by decide +kernel
set_option maxRecDepth 20000 in
theorem ggX8_pace_X8_in : GoodIn wsX8_pace wsX8_in := goodIn_r _ [6] (by decide +kernel) (by decide +kernel)
set_option maxRecDepth 20000 in
theorem gX8_pace_X8_in : GoodIn wsX8_pace (va_wsS RX8 69 yX8_in wsX8_in) := goodIn_app (goodIn_of _ (by decide +kernel)) ggX8_pace_X8_in
theorem dX8_pace_0 : decode cX8_pace 0 = .ok (.aload_n 0, 1) := by decide +kernel
theorem dX8_pace_1 : decode cX8_pace 1 = .ok (.iconst 0, 1) := by decide +kernel
theorem dX8_pace_2 : decode cX8_pace 2 = .ok (.putfield 63, 3) := by decide +kernel
theorem dX8_pace_5 : decode cX8_pace 5 = .ok (.iload_n 1, 1) := by decide +kernel
theorem dX8_pace_6 : decode cX8_pace 6 = .ok (.iconst 1, 1) := by decide +kernel
theorem dX8_pace_7 : decode cX8_pace 7 = .ok (.bipush 10, 2) := by decide +kernel
theorem dX8_pace_9 : decode cX8_pace 9 = .ok (.invokestatic 69, 3) := by decide +kernel
theorem dX8_pace_12 : decode cX8_pace 12 = .ok (.ifCond .ne 5, 3) := by decide +kernel
theorem dX8_pace_15 : decode cX8_pace 15 = .ok (.iconst (-1), 1) := by decide +kernel
theorem dX8_pace_16 : decode cX8_pace 16 = .ok (.ireturn, 1) := by decide +kernel
theorem dX8_pace_17 : decode cX8_pace 17 = .ok (.aload_n 0, 1) := by decide +kernel
theorem dX8_pace_18 : decode cX8_pace 18 = .ok (.getfield 31, 3) := by decide +kernel
theorem dX8_pace_21 : decode cX8_pace 21 = .ok (.istore_n 2, 1) := by decide +kernel
theorem dX8_pace_22 : decode cX8_pace 22 = .ok (.aload_n 0, 1) := by decide +kernel
theorem dX8_pace_23 : decode cX8_pace 23 = .ok (.iload_n 1, 1) := by decide +kernel
theorem dX8_pace_24 : decode cX8_pace 24 = .ok (.putfield 31, 3) := by decide +kernel
theorem dX8_pace_27 : decode cX8_pace 27 = .ok (.iload_n 2, 1) := by decide +kernel
theorem dX8_pace_28 : decode cX8_pace 28 = .ok (.ireturn, 1) := by decide +kernel
set_option maxRecDepth 20000 in
theorem ggX8_know_X8_areBits : GoodIn wsX8_know wsX8_areBits := goodIn_r _ [7, 8, 9, 10, 6, 11, 17, 18, 19, 20, 21, 22, 23, 24, 25, 26, 27, 28, 29, 30, 31, 32, 33, 34, 35, 36, 37, 38, 39, 40] (by decide +kernel) (by decide +kernel)
set_option maxRecDepth 20000 in
theorem gX8_know_X8_areBits : GoodIn wsX8_know (wsV RX8 76 RX8 yX8_areBits wsX8_areBits) := goodIn_app (goodIn_of _ (by decide +kernel)) ggX8_know_X8_areBits
set_option maxRecDepth 20000 in
theorem ggX8_know_X8_withAll : GoodIn wsX8_know wsX8_withAll := goodIn_r _ [15, 8, 16, 17, 18, 19, 20, 21, 22, 23, 24, 25, 26, 27, 28, 29, 30, 31, 32, 33, 34, 35, 36, 37, 38, 39, 40] (by decide +kernel) (by decide +kernel)
set_option maxRecDepth 20000 in
theorem gX8_know_X8_withAll : GoodIn wsX8_know (wsV RX8 80 RX8 yX8_withAll wsX8_withAll) := goodIn_app (goodIn_of _ (by decide +kernel)) ggX8_know_X8_withAll
theorem dX8_know_0 : decode cX8_know 0 = .ok (.aload_n 0, 1) := by decide +kernel
theorem dX8_know_1 : decode cX8_know 1 = .ok (.iconst 0, 1) := by decide +kernel
theorem dX8_know_2 : decode cX8_know 2 = .ok (.putfield 63, 3) := by decide +kernel
theorem dX8_know_5 : decode cX8_know 5 = .ok (.aload_n 0, 1) := by decide +kernel
theorem dX8_know_6 : decode cX8_know 6 = .ok (.iload_n 1, 1) := by decide +kernel
theorem dX8_know_7 : decode cX8_know 7 = .ok (.invokevirtual 76, 3) := by decide +kernel
theorem dX8_know_10 : decode cX8_know 10 = .ok (.ifCond .ne 5, 3) := by decide +kernel
theorem dX8_know_13 : decode cX8_know 13 = .ok (.iconst (-1), 1) := by decide +kernel
theorem dX8_know_14 : decode cX8_know 14 = .ok (.ireturn, 1) := by decide +kernel
theorem dX8_know_15 : decode cX8_know 15 = .ok (.aload_n 0, 1) := by decide +kernel
theorem dX8_know_16 : decode cX8_know 16 = .ok (.aload_n 0, 1) := by decide +kernel
theorem dX8_know_17 : decode cX8_know 17 = .ok (.iload_n 1, 1) := by decide +kernel
theorem dX8_know_18 : decode cX8_know 18 = .ok (.invokevirtual 80, 3) := by decide +kernel
theorem dX8_know_21 : decode cX8_know 21 = .ok (.putfield 84, 3) := by decide +kernel
theorem dX8_know_24 : decode cX8_know 24 = .ok (.aload_n 0, 1) := by decide +kernel
theorem dX8_know_25 : decode cX8_know 25 = .ok (.getfield 84, 3) := by decide +kernel
theorem dX8_know_28 : decode cX8_know 28 = .ok (.ireturn, 1) := by decide +kernel
theorem dX8_worthOf_0 : decode cX8_worthOf 0 = .ok (.iconst 0, 1) := by decide +kernel
theorem dX8_worthOf_1 : decode cX8_worthOf 1 = .ok (.istore_n 2, 1) := by decide +kernel
theorem dX8_worthOf_2 : decode cX8_worthOf 2 = .ok (.iconst 0, 1) := by decide +kernel
theorem dX8_worthOf_3 : decode cX8_worthOf 3 = .ok (.istore_n 3, 1) := by decide +kernel
theorem dX8_worthOf_4 : decode cX8_worthOf 4 = .ok (.iload_n 3, 1) := by decide +kernel
theorem dX8_worthOf_5 : decode cX8_worthOf 5 = .ok (.aload_n 0, 1) := by decide +kernel
theorem dX8_worthOf_6 : decode cX8_worthOf 6 = .ok (.getfield 66, 3) := by decide +kernel
theorem dX8_worthOf_9 : decode cX8_worthOf 9 = .ok (.if_icmp .ge 27, 3) := by decide +kernel
theorem dX8_worthOf_12 : decode cX8_worthOf 12 = .ok (.iload_n 1, 1) := by decide +kernel
theorem dX8_worthOf_13 : decode cX8_worthOf 13 = .ok (.iload_n 3, 1) := by decide +kernel
theorem dX8_worthOf_14 : decode cX8_worthOf 14 = .ok (.ishr, 1) := by decide +kernel
theorem dX8_worthOf_15 : decode cX8_worthOf 15 = .ok (.iconst 1, 1) := by decide +kernel
theorem dX8_worthOf_16 : decode cX8_worthOf 16 = .ok (.iand, 1) := by decide +kernel
theorem dX8_worthOf_17 : decode cX8_worthOf 17 = .ok (.iconst 1, 1) := by decide +kernel
theorem dX8_worthOf_18 : decode cX8_worthOf 18 = .ok (.if_icmp .ne 12, 3) := by decide +kernel
theorem dX8_worthOf_21 : decode cX8_worthOf 21 = .ok (.iload_n 2, 1) := by decide +kernel
theorem dX8_worthOf_22 : decode cX8_worthOf 22 = .ok (.aload_n 0, 1) := by decide +kernel
theorem dX8_worthOf_23 : decode cX8_worthOf 23 = .ok (.getfield 9, 3) := by decide +kernel
theorem dX8_worthOf_26 : decode cX8_worthOf 26 = .ok (.iload_n 3, 1) := by decide +kernel
theorem dX8_worthOf_27 : decode cX8_worthOf 27 = .ok (.iaload, 1) := by decide +kernel
theorem dX8_worthOf_28 : decode cX8_worthOf 28 = .ok (.iadd, 1) := by decide +kernel
theorem dX8_worthOf_29 : decode cX8_worthOf 29 = .ok (.istore_n 2, 1) := by decide +kernel
theorem dX8_worthOf_30 : decode cX8_worthOf 30 = .ok (.iinc 3 1, 3) := by decide +kernel
theorem dX8_worthOf_33 : decode cX8_worthOf 33 = .ok (.goto (-29), 3) := by decide +kernel
theorem dX8_worthOf_36 : decode cX8_worthOf 36 = .ok (.iload_n 2, 1) := by decide +kernel
theorem dX8_worthOf_37 : decode cX8_worthOf 37 = .ok (.ireturn, 1) := by decide +kernel
set_option maxRecDepth 20000 in
theorem ggX8_count_X8_worthOf : GoodIn wsX8_count wsX8_worthOf := goodIn_r _ [11, 2, 12, 13, 14, 15, 16, 17, 18, 19, 20, 21, 22, 23, 24, 25, 26, 27, 28, 29, 30, 31, 32, 33, 34, 35, 36] (by decide +kernel) (by decide +kernel)
set_option maxRecDepth 20000 in
theorem gX8_count_X8_worthOf : GoodIn wsX8_count (wsV RX8 87 RX8 yX8_worthOf wsX8_worthOf) := goodIn_app (goodIn_of _ (by decide +kernel)) ggX8_count_X8_worthOf
theorem dX8_count_0 : decode cX8_count 0 = .ok (.aload_n 0, 1) := by decide +kernel
theorem dX8_count_1 : decode cX8_count 1 = .ok (.iconst 0, 1) := by decide +kernel
theorem dX8_count_2 : decode cX8_count 2 = .ok (.putfield 63, 3) := by decide +kernel
theorem dX8_count_5 : decode cX8_count 5 = .ok (.iload_n 1, 1) := by decide +kernel
theorem dX8_count_6 : decode cX8_count 6 = .ok (.tableswitch 72 0 5 #[38, 43, 48, 53, 58, 67], 38) := by decide +kernel
theorem dX8_count_44 : decode cX8_count 44 = .ok (.aload_n 0, 1) := by decide +kernel
theorem dX8_count_45 : decode cX8_count 45 = .ok (.getfield 66, 3) := by decide +kernel
theorem dX8_count_48 : decode cX8_count 48 = .ok (.ireturn, 1) := by decide +kernel
theorem dX8_count_49 : decode cX8_count 49 = .ok (.aload_n 0, 1) := by decide +kernel
theorem dX8_count_50 : decode cX8_count 50 = .ok (.getfield 73, 3) := by decide +kernel
theorem dX8_count_53 : decode cX8_count 53 = .ok (.ireturn, 1) := by decide +kernel
theorem dX8_count_54 : decode cX8_count 54 = .ok (.aload_n 0, 1) := by decide +kernel
theorem dX8_count_55 : decode cX8_count 55 = .ok (.getfield 84, 3) := by decide +kernel
theorem dX8_count_58 : decode cX8_count 58 = .ok (.ireturn, 1) := by decide +kernel
theorem dX8_count_59 : decode cX8_count 59 = .ok (.aload_n 0, 1) := by decide +kernel
theorem dX8_count_60 : decode cX8_count 60 = .ok (.getfield 31, 3) := by decide +kernel
theorem dX8_count_63 : decode cX8_count 63 = .ok (.ireturn, 1) := by decide +kernel
theorem dX8_count_64 : decode cX8_count 64 = .ok (.aload_n 0, 1) := by decide +kernel
theorem dX8_count_65 : decode cX8_count 65 = .ok (.aload_n 0, 1) := by decide +kernel
theorem dX8_count_66 : decode cX8_count 66 = .ok (.getfield 84, 3) := by decide +kernel
theorem dX8_count_69 : decode cX8_count 69 = .ok (.invokevirtual 87, 3) := by decide +kernel
theorem dX8_count_72 : decode cX8_count 72 = .ok (.ireturn, 1) := by decide +kernel
theorem dX8_count_73 : decode cX8_count 73 = .ok (.aload_n 0, 1) := by decide +kernel
theorem dX8_count_74 : decode cX8_count 74 = .ok (.getfield 90, 3) := by decide +kernel
theorem dX8_count_77 : decode cX8_count 77 = .ok (.ireturn, 1) := by decide +kernel
theorem dX8_count_78 : decode cX8_count 78 = .ok (.iconst (-1), 1) := by decide +kernel
theorem dX8_count_79 : decode cX8_count 79 = .ok (.ireturn, 1) := by decide +kernel
set_option maxRecDepth 20000 in
theorem ggX8_with_X8_areBits : GoodIn wsX8_with wsX8_areBits := goodIn_r _ [6, 7, 8, 9, 5, 10, 16, 17, 18, 19, 20, 21, 22, 23, 24, 25, 26, 27, 28, 29, 30, 31, 32, 33, 34, 35, 36, 37, 38, 39] (by decide +kernel) (by decide +kernel)
set_option maxRecDepth 20000 in
theorem gX8_with_X8_areBits : GoodIn wsX8_with (wsV RX8 76 RX8 yX8_areBits wsX8_areBits) := goodIn_app (goodIn_of _ (by decide +kernel)) ggX8_with_X8_areBits
set_option maxRecDepth 20000 in
theorem ggX8_with_X8_withAll : GoodIn wsX8_with wsX8_withAll := goodIn_r _ [14, 7, 15, 16, 17, 18, 19, 20, 21, 22, 23, 24, 25, 26, 27, 28, 29, 30, 31, 32, 33, 34, 35, 36, 37, 38, 39] (by decide +kernel) (by decide +kernel)
set_option maxRecDepth 20000 in
theorem gX8_with_X8_withAll : GoodIn wsX8_with (wsV RX8 80 RX8 yX8_withAll wsX8_withAll) := goodIn_app (goodIn_of _ (by decide +kernel)) ggX8_with_X8_withAll
theorem dX8_with_0 : decode cX8_with 0 = .ok (.aload_n 0, 1) := by decide +kernel
theorem dX8_with_1 : decode cX8_with 1 = .ok (.iconst 0, 1) := by decide +kernel
theorem dX8_with_2 : decode cX8_with 2 = .ok (.putfield 63, 3) := by decide +kernel
theorem dX8_with_5 : decode cX8_with 5 = .ok (.aload_n 0, 1) := by decide +kernel
theorem dX8_with_6 : decode cX8_with 6 = .ok (.iload_n 1, 1) := by decide +kernel
theorem dX8_with_7 : decode cX8_with 7 = .ok (.invokevirtual 76, 3) := by decide +kernel
theorem dX8_with_10 : decode cX8_with 10 = .ok (.ifCond .eq 11, 3) := by decide +kernel
theorem dX8_with_13 : decode cX8_with 13 = .ok (.aload_n 0, 1) := by decide +kernel
theorem dX8_with_14 : decode cX8_with 14 = .ok (.iload_n 1, 1) := by decide +kernel
theorem dX8_with_15 : decode cX8_with 15 = .ok (.invokevirtual 80, 3) := by decide +kernel
theorem dX8_with_18 : decode cX8_with 18 = .ok (.goto 4, 3) := by decide +kernel
theorem dX8_with_21 : decode cX8_with 21 = .ok (.iconst (-1), 1) := by decide +kernel
theorem dX8_with_22 : decode cX8_with 22 = .ok (.ireturn, 1) := by decide +kernel
theorem dX8_time_0 : decode cX8_time 0 = .ok (.aload_n 0, 1) := by decide +kernel
theorem dX8_time_1 : decode cX8_time 1 = .ok (.getfield 28, 3) := by decide +kernel
theorem dX8_time_4 : decode cX8_time 4 = .ok (.iload_n 1, 1) := by decide +kernel
theorem dX8_time_5 : decode cX8_time 5 = .ok (.iconst 2, 1) := by decide +kernel
theorem dX8_time_6 : decode cX8_time 6 = .ok (.idiv, 1) := by decide +kernel
theorem dX8_time_7 : decode cX8_time 7 = .ok (.iaload, 1) := by decide +kernel
theorem dX8_time_8 : decode cX8_time 8 = .ok (.aload_n 0, 1) := by decide +kernel
theorem dX8_time_9 : decode cX8_time 9 = .ok (.getfield 31, 3) := by decide +kernel
theorem dX8_time_12 : decode cX8_time 12 = .ok (.imul, 1) := by decide +kernel
theorem dX8_time_13 : decode cX8_time 13 = .ok (.istore_n 2, 1) := by decide +kernel
theorem dX8_time_14 : decode cX8_time 14 = .ok (.iload_n 1, 1) := by decide +kernel
theorem dX8_time_15 : decode cX8_time 15 = .ok (.iconst 2, 1) := by decide +kernel
theorem dX8_time_16 : decode cX8_time 16 = .ok (.irem, 1) := by decide +kernel
theorem dX8_time_17 : decode cX8_time 17 = .ok (.ifCond .ne 7, 3) := by decide +kernel
theorem dX8_time_20 : decode cX8_time 20 = .ok (.iload_n 2, 1) := by decide +kernel
theorem dX8_time_21 : decode cX8_time 21 = .ok (.goto 8, 3) := by decide +kernel
theorem dX8_time_24 : decode cX8_time 24 = .ok (.iload_n 2, 1) := by decide +kernel
theorem dX8_time_25 : decode cX8_time 25 = .ok (.iconst 2, 1) := by decide +kernel
theorem dX8_time_26 : decode cX8_time 26 = .ok (.iadd, 1) := by decide +kernel
theorem dX8_time_27 : decode cX8_time 27 = .ok (.iconst 3, 1) := by decide +kernel
theorem dX8_time_28 : decode cX8_time 28 = .ok (.idiv, 1) := by decide +kernel
theorem dX8_time_29 : decode cX8_time 29 = .ok (.ireturn, 1) := by decide +kernel
set_option maxRecDepth 20000 in
theorem ggX8_minutes_X8_isStep : GoodIn wsX8_minutes wsX8_isStep := goodIn_r _ [6, 7, 8, 9, 5, 10, 17, 18, 19, 20, 21, 22, 23, 24, 25, 26, 27, 28, 29, 30, 31, 32, 33, 34, 35, 36, 37, 38, 39, 40] (by decide +kernel) (by decide +kernel)
set_option maxRecDepth 20000 in
theorem gX8_minutes_X8_isStep : GoodIn wsX8_minutes (wsV RX8 93 RX8 yX8_isStep wsX8_isStep) := goodIn_app (goodIn_of _ (by decide +kernel)) ggX8_minutes_X8_isStep
set_option maxRecDepth 20000 in
theorem ggX8_minutes_X8_time : GoodIn wsX8_minutes wsX8_time := goodIn_r _ [14, 15, 16, 17, 18, 19, 20, 21, 22, 23, 24, 25, 26, 27, 28, 29, 30, 31, 32, 33, 34, 35, 36, 37, 38, 39, 40] (by decide +kernel) (by decide +kernel)
set_option maxRecDepth 20000 in
theorem gX8_minutes_X8_time : GoodIn wsX8_minutes (wsV RX8 96 RX8 yX8_time wsX8_time) := goodIn_app (goodIn_of _ (by decide +kernel)) ggX8_minutes_X8_time
theorem dX8_minutes_0 : decode cX8_minutes 0 = .ok (.aload_n 0, 1) := by decide +kernel
theorem dX8_minutes_1 : decode cX8_minutes 1 = .ok (.iconst 0, 1) := by decide +kernel
theorem dX8_minutes_2 : decode cX8_minutes 2 = .ok (.putfield 63, 3) := by decide +kernel
theorem dX8_minutes_5 : decode cX8_minutes 5 = .ok (.aload_n 0, 1) := by decide +kernel
theorem dX8_minutes_6 : decode cX8_minutes 6 = .ok (.iload_n 1, 1) := by decide +kernel
theorem dX8_minutes_7 : decode cX8_minutes 7 = .ok (.invokevirtual 93, 3) := by decide +kernel
theorem dX8_minutes_10 : decode cX8_minutes 10 = .ok (.ifCond .eq 11, 3) := by decide +kernel
theorem dX8_minutes_13 : decode cX8_minutes 13 = .ok (.aload_n 0, 1) := by decide +kernel
theorem dX8_minutes_14 : decode cX8_minutes 14 = .ok (.iload_n 1, 1) := by decide +kernel
theorem dX8_minutes_15 : decode cX8_minutes 15 = .ok (.invokevirtual 96, 3) := by decide +kernel
theorem dX8_minutes_18 : decode cX8_minutes 18 = .ok (.goto 4, 3) := by decide +kernel
theorem dX8_minutes_21 : decode cX8_minutes 21 = .ok (.iconst (-1), 1) := by decide +kernel
theorem dX8_minutes_22 : decode cX8_minutes 22 = .ok (.ireturn, 1) := by decide +kernel
theorem dX8_canDo_0 : decode cX8_canDo 0 = .ok (.iload_n 1, 1) := by decide +kernel
theorem dX8_canDo_1 : decode cX8_canDo 1 = .ok (.iconst 2, 1) := by decide +kernel
theorem dX8_canDo_2 : decode cX8_canDo 2 = .ok (.idiv, 1) := by decide +kernel
theorem dX8_canDo_3 : decode cX8_canDo 3 = .ok (.istore_n 3, 1) := by decide +kernel
theorem dX8_canDo_4 : decode cX8_canDo 4 = .ok (.aload_n 0, 1) := by decide +kernel
theorem dX8_canDo_5 : decode cX8_canDo 5 = .ok (.getfield 16, 3) := by decide +kernel
theorem dX8_canDo_8 : decode cX8_canDo 8 = .ok (.iload_n 3, 1) := by decide +kernel
theorem dX8_canDo_9 : decode cX8_canDo 9 = .ok (.iaload, 1) := by decide +kernel
theorem dX8_canDo_10 : decode cX8_canDo 10 = .ok (.iload_n 2, 1) := by decide +kernel
theorem dX8_canDo_11 : decode cX8_canDo 11 = .ok (.iconst (-1), 1) := by decide +kernel
theorem dX8_canDo_12 : decode cX8_canDo 12 = .ok (.ixor, 1) := by decide +kernel
theorem dX8_canDo_13 : decode cX8_canDo 13 = .ok (.iand, 1) := by decide +kernel
theorem dX8_canDo_14 : decode cX8_canDo 14 = .ok (.ifCond .ne 27, 3) := by decide +kernel
theorem dX8_canDo_17 : decode cX8_canDo 17 = .ok (.aload_n 0, 1) := by decide +kernel
theorem dX8_canDo_18 : decode cX8_canDo 18 = .ok (.getfield 19, 3) := by decide +kernel
theorem dX8_canDo_21 : decode cX8_canDo 21 = .ok (.iload_n 3, 1) := by decide +kernel
theorem dX8_canDo_22 : decode cX8_canDo 22 = .ok (.iaload, 1) := by decide +kernel
theorem dX8_canDo_23 : decode cX8_canDo 23 = .ok (.ifCond .eq 14, 3) := by decide +kernel
theorem dX8_canDo_26 : decode cX8_canDo 26 = .ok (.aload_n 0, 1) := by decide +kernel
theorem dX8_canDo_27 : decode cX8_canDo 27 = .ok (.getfield 19, 3) := by decide +kernel
theorem dX8_canDo_30 : decode cX8_canDo 30 = .ok (.iload_n 3, 1) := by decide +kernel
theorem dX8_canDo_31 : decode cX8_canDo 31 = .ok (.iaload, 1) := by decide +kernel
theorem dX8_canDo_32 : decode cX8_canDo 32 = .ok (.iload_n 2, 1) := by decide +kernel
theorem dX8_canDo_33 : decode cX8_canDo 33 = .ok (.iand, 1) := by decide +kernel
theorem dX8_canDo_34 : decode cX8_canDo 34 = .ok (.ifCond .eq 7, 3) := by decide +kernel
theorem dX8_canDo_37 : decode cX8_canDo 37 = .ok (.iconst 1, 1) := by decide +kernel
theorem dX8_canDo_38 : decode cX8_canDo 38 = .ok (.goto 4, 3) := by decide +kernel
theorem dX8_canDo_41 : decode cX8_canDo 41 = .ok (.iconst 0, 1) := by decide +kernel
theorem dX8_canDo_42 : decode cX8_canDo 42 = .ok (.ireturn, 1) := by decide +kernel
set_option maxRecDepth 20000 in
theorem ggX8_behind_X8_withAll : GoodIn wsX8_behind wsX8_withAll := goodIn_r _ [7, 8, 9, 10, 11, 12, 13, 14, 15, 16, 17, 18, 19, 20, 21, 22, 23, 24, 25, 26, 27, 28, 29, 30, 31, 32, 33] (by decide +kernel) (by decide +kernel)
set_option maxRecDepth 20000 in
theorem gX8_behind_X8_withAll : GoodIn wsX8_behind (wsV RX8 80 RX8 yX8_withAll wsX8_withAll) := goodIn_app (goodIn_of _ (by decide +kernel)) ggX8_behind_X8_withAll
theorem dX8_behind_0 : decode cX8_behind 0 = .ok (.iload_n 2, 1) := by decide +kernel
theorem dX8_behind_1 : decode cX8_behind 1 = .ok (.aload_n 0, 1) := by decide +kernel
theorem dX8_behind_2 : decode cX8_behind 2 = .ok (.iload_n 1, 1) := by decide +kernel
theorem dX8_behind_3 : decode cX8_behind 3 = .ok (.iconst 2, 1) := by decide +kernel
theorem dX8_behind_4 : decode cX8_behind 4 = .ok (.irem, 1) := by decide +kernel
theorem dX8_behind_5 : decode cX8_behind 5 = .ok (.ifCond .ne 14, 3) := by decide +kernel
theorem dX8_behind_8 : decode cX8_behind 8 = .ok (.aload_n 0, 1) := by decide +kernel
theorem dX8_behind_9 : decode cX8_behind 9 = .ok (.getfield 22, 3) := by decide +kernel
theorem dX8_behind_12 : decode cX8_behind 12 = .ok (.iload_n 1, 1) := by decide +kernel
theorem dX8_behind_13 : decode cX8_behind 13 = .ok (.iconst 2, 1) := by decide +kernel
theorem dX8_behind_14 : decode cX8_behind 14 = .ok (.idiv, 1) := by decide +kernel
theorem dX8_behind_15 : decode cX8_behind 15 = .ok (.iaload, 1) := by decide +kernel
theorem dX8_behind_16 : decode cX8_behind 16 = .ok (.goto 11, 3) := by decide +kernel
theorem dX8_behind_19 : decode cX8_behind 19 = .ok (.aload_n 0, 1) := by decide +kernel
theorem dX8_behind_20 : decode cX8_behind 20 = .ok (.getfield 25, 3) := by decide +kernel
theorem dX8_behind_23 : decode cX8_behind 23 = .ok (.iload_n 1, 1) := by decide +kernel
theorem dX8_behind_24 : decode cX8_behind 24 = .ok (.iconst 2, 1) := by decide +kernel
theorem dX8_behind_25 : decode cX8_behind 25 = .ok (.idiv, 1) := by decide +kernel
theorem dX8_behind_26 : decode cX8_behind 26 = .ok (.iaload, 1) := by decide +kernel
theorem dX8_behind_27 : decode cX8_behind 27 = .ok (.invokevirtual 80, 3) := by decide +kernel
theorem dX8_behind_30 : decode cX8_behind 30 = .ok (.ior, 1) := by decide +kernel
theorem dX8_behind_31 : decode cX8_behind 31 = .ok (.ireturn, 1) := by decide +kernel
set_option maxRecDepth 20000 in
theorem ggX8_can_X8_isStep : GoodIn wsX8_can wsX8_isStep := goodIn_r _ [7, 8, 9, 10, 6, 11, 18, 19, 20, 21, 22, 23, 24, 25, 26, 27, 28, 29, 30, 31, 32, 33, 34, 35, 36, 37, 38, 39, 40, 41] (by decide +kernel) (by decide +kernel)
set_option maxRecDepth 20000 in
theorem gX8_can_X8_isStep : GoodIn wsX8_can (wsV RX8 93 RX8 yX8_isStep wsX8_isStep) := goodIn_app (goodIn_of _ (by decide +kernel)) ggX8_can_X8_isStep
set_option maxRecDepth 20000 in
theorem ggX8_can_X8_canDo : GoodIn wsX8_can wsX8_canDo := goodIn_r _ [15, 16, 17, 18, 19, 20, 21, 22, 23, 24, 25, 26, 27, 28, 29, 30, 31, 32, 33, 34, 35, 36, 37, 38, 39, 40, 41] (by decide +kernel) (by decide +kernel)
set_option maxRecDepth 20000 in
theorem gX8_can_X8_canDo : GoodIn wsX8_can (wsV RX8 99 RX8 yX8_canDo wsX8_canDo) := goodIn_app (goodIn_of _ (by decide +kernel)) ggX8_can_X8_canDo
theorem dX8_can_0 : decode cX8_can 0 = .ok (.aload_n 0, 1) := by decide +kernel
theorem dX8_can_1 : decode cX8_can 1 = .ok (.iconst 0, 1) := by decide +kernel
theorem dX8_can_2 : decode cX8_can 2 = .ok (.putfield 63, 3) := by decide +kernel
theorem dX8_can_5 : decode cX8_can 5 = .ok (.aload_n 0, 1) := by decide +kernel
theorem dX8_can_6 : decode cX8_can 6 = .ok (.iload_n 1, 1) := by decide +kernel
theorem dX8_can_7 : decode cX8_can 7 = .ok (.invokevirtual 93, 3) := by decide +kernel
theorem dX8_can_10 : decode cX8_can 10 = .ok (.ifCond .eq 23, 3) := by decide +kernel
theorem dX8_can_13 : decode cX8_can 13 = .ok (.aload_n 0, 1) := by decide +kernel
theorem dX8_can_14 : decode cX8_can 14 = .ok (.iload_n 1, 1) := by decide +kernel
theorem dX8_can_15 : decode cX8_can 15 = .ok (.aload_n 0, 1) := by decide +kernel
theorem dX8_can_16 : decode cX8_can 16 = .ok (.getfield 84, 3) := by decide +kernel
theorem dX8_can_19 : decode cX8_can 19 = .ok (.invokevirtual 99, 3) := by decide +kernel
theorem dX8_can_22 : decode cX8_can 22 = .ok (.ifCond .eq 7, 3) := by decide +kernel
theorem dX8_can_25 : decode cX8_can 25 = .ok (.iconst 1, 1) := by decide +kernel
theorem dX8_can_26 : decode cX8_can 26 = .ok (.goto 8, 3) := by decide +kernel
theorem dX8_can_29 : decode cX8_can 29 = .ok (.iconst 0, 1) := by decide +kernel
theorem dX8_can_30 : decode cX8_can 30 = .ok (.goto 4, 3) := by decide +kernel
theorem dX8_can_33 : decode cX8_can 33 = .ok (.iconst (-1), 1) := by decide +kernel
theorem dX8_can_34 : decode cX8_can 34 = .ok (.ireturn, 1) := by decide +kernel
set_option maxRecDepth 20000 in
theorem ggX8_done_X8_isStep : GoodIn wsX8_done wsX8_isStep := goodIn_r _ [7, 8, 9, 10, 6, 11, 30, 31, 32, 33, 34, 35, 36, 37, 38, 39, 40, 41, 42, 43, 44, 45, 46, 47, 48, 49, 50, 51, 52, 53] (by decide +kernel) (by decide +kernel)
set_option maxRecDepth 20000 in
theorem gX8_done_X8_isStep : GoodIn wsX8_done (wsV RX8 93 RX8 yX8_isStep wsX8_isStep) := goodIn_app (goodIn_of _ (by decide +kernel)) ggX8_done_X8_isStep
set_option maxRecDepth 20000 in
theorem ggX8_done_X8_canDo : GoodIn wsX8_done wsX8_canDo := goodIn_r _ [15, 16, 17, 30, 31, 32, 33, 34, 35, 36, 37, 38, 39, 40, 41, 42, 43, 44, 45, 46, 47, 48, 49, 50, 51, 52, 53] (by decide +kernel) (by decide +kernel)
set_option maxRecDepth 20000 in
theorem gX8_done_X8_canDo : GoodIn wsX8_done (wsV RX8 99 RX8 yX8_canDo wsX8_canDo) := goodIn_app (goodIn_of _ (by decide +kernel)) ggX8_done_X8_canDo
set_option maxRecDepth 20000 in
theorem ggX8_done_X8_behind : GoodIn wsX8_done wsX8_behind := goodIn_r _ [21, 22, 23, 24, 25, 26, 6, 27, 28, 29, 30, 31, 32, 33, 34, 35, 36, 37, 38, 39, 40, 41, 42, 43, 44, 45, 46, 47, 48, 49, 50, 51, 52, 53] (by decide +kernel) (by decide +kernel)
set_option maxRecDepth 20000 in
theorem gX8_done_X8_behind : GoodIn wsX8_done (wsV RX8 103 RX8 yX8_behind wsX8_behind) := goodIn_app (goodIn_of _ (by decide +kernel)) ggX8_done_X8_behind
theorem dX8_done_0 : decode cX8_done 0 = .ok (.aload_n 0, 1) := by decide +kernel
theorem dX8_done_1 : decode cX8_done 1 = .ok (.iconst 0, 1) := by decide +kernel
theorem dX8_done_2 : decode cX8_done 2 = .ok (.putfield 63, 3) := by decide +kernel
theorem dX8_done_5 : decode cX8_done 5 = .ok (.aload_n 0, 1) := by decide +kernel
theorem dX8_done_6 : decode cX8_done 6 = .ok (.iload_n 1, 1) := by decide +kernel
theorem dX8_done_7 : decode cX8_done 7 = .ok (.invokevirtual 93, 3) := by decide +kernel
theorem dX8_done_10 : decode cX8_done 10 = .ok (.ifCond .eq 15, 3) := by decide +kernel
theorem dX8_done_13 : decode cX8_done 13 = .ok (.aload_n 0, 1) := by decide +kernel
theorem dX8_done_14 : decode cX8_done 14 = .ok (.iload_n 1, 1) := by decide +kernel
theorem dX8_done_15 : decode cX8_done 15 = .ok (.aload_n 0, 1) := by decide +kernel
theorem dX8_done_16 : decode cX8_done 16 = .ok (.getfield 84, 3) := by decide +kernel
theorem dX8_done_19 : decode cX8_done 19 = .ok (.invokevirtual 99, 3) := by decide +kernel
theorem dX8_done_22 : decode cX8_done 22 = .ok (.ifCond .ne 5, 3) := by decide +kernel
theorem dX8_done_25 : decode cX8_done 25 = .ok (.iconst (-1), 1) := by decide +kernel
theorem dX8_done_26 : decode cX8_done 26 = .ok (.ireturn, 1) := by decide +kernel
theorem dX8_done_27 : decode cX8_done 27 = .ok (.aload_n 0, 1) := by decide +kernel
theorem dX8_done_28 : decode cX8_done 28 = .ok (.aload_n 0, 1) := by decide +kernel
theorem dX8_done_29 : decode cX8_done 29 = .ok (.iload_n 1, 1) := by decide +kernel
theorem dX8_done_30 : decode cX8_done 30 = .ok (.aload_n 0, 1) := by decide +kernel
theorem dX8_done_31 : decode cX8_done 31 = .ok (.getfield 84, 3) := by decide +kernel
theorem dX8_done_34 : decode cX8_done 34 = .ok (.invokevirtual 103, 3) := by decide +kernel
theorem dX8_done_37 : decode cX8_done 37 = .ok (.putfield 84, 3) := by decide +kernel
theorem dX8_done_40 : decode cX8_done 40 = .ok (.aload_n 0, 1) := by decide +kernel
theorem dX8_done_41 : decode cX8_done 41 = .ok (.getfield 84, 3) := by decide +kernel
theorem dX8_done_44 : decode cX8_done 44 = .ok (.ireturn, 1) := by decide +kernel
set_option maxRecDepth 20000 in
theorem ggX8_newBehind_X8_canDo : GoodIn wsX8_newBehind wsX8_canDo := goodIn_r _ [6, 7, 8, 21, 22, 23, 24, 25, 26, 27, 28, 29, 30, 31, 32, 33, 34, 35, 36, 37, 38, 39, 40, 41, 42, 43, 44] (by decide +kernel) (by decide +kernel)
set_option maxRecDepth 20000 in
theorem gX8_newBehind_X8_canDo : GoodIn wsX8_newBehind (wsV RX8 99 RX8 yX8_canDo wsX8_canDo) := goodIn_app (goodIn_of _ (by decide +kernel)) ggX8_newBehind_X8_canDo
set_option maxRecDepth 20000 in
theorem ggX8_newBehind_X8_behind : GoodIn wsX8_newBehind wsX8_behind := goodIn_r _ [12, 13, 14, 15, 16, 17, 5, 18, 19, 20, 21, 22, 23, 24, 25, 26, 27, 28, 29, 30, 31, 32, 33, 34, 35, 36, 37, 38, 39, 40, 41, 42, 43, 44] (by decide +kernel) (by decide +kernel)
set_option maxRecDepth 20000 in
theorem gX8_newBehind_X8_behind : GoodIn wsX8_newBehind (wsV RX8 103 RX8 yX8_behind wsX8_behind) := goodIn_app (goodIn_of _ (by decide +kernel)) ggX8_newBehind_X8_behind
theorem dX8_newBehind_0 : decode cX8_newBehind 0 = .ok (.iload_n 1, 1) := by decide +kernel
theorem dX8_newBehind_1 : decode cX8_newBehind 1 = .ok (.iconst 2, 1) := by decide +kernel
theorem dX8_newBehind_2 : decode cX8_newBehind 2 = .ok (.idiv, 1) := by decide +kernel
theorem dX8_newBehind_3 : decode cX8_newBehind 3 = .ok (.aload_n 0, 1) := by decide +kernel
theorem dX8_newBehind_4 : decode cX8_newBehind 4 = .ok (.getfield 107, 3) := by decide +kernel
theorem dX8_newBehind_7 : decode cX8_newBehind 7 = .ok (.if_icmp .eq 12, 3) := by decide +kernel
theorem dX8_newBehind_10 : decode cX8_newBehind 10 = .ok (.aload_n 0, 1) := by decide +kernel
theorem dX8_newBehind_11 : decode cX8_newBehind 11 = .ok (.iload_n 1, 1) := by decide +kernel
theorem dX8_newBehind_12 : decode cX8_newBehind 12 = .ok (.iload_n 2, 1) := by decide +kernel
theorem dX8_newBehind_13 : decode cX8_newBehind 13 = .ok (.invokevirtual 99, 3) := by decide +kernel
theorem dX8_newBehind_16 : decode cX8_newBehind 16 = .ok (.ifCond .ne 5, 3) := by decide +kernel
theorem dX8_newBehind_19 : decode cX8_newBehind 19 = .ok (.iconst (-1), 1) := by decide +kernel
theorem dX8_newBehind_20 : decode cX8_newBehind 20 = .ok (.ireturn, 1) := by decide +kernel
theorem dX8_newBehind_21 : decode cX8_newBehind 21 = .ok (.aload_n 0, 1) := by decide +kernel
theorem dX8_newBehind_22 : decode cX8_newBehind 22 = .ok (.iload_n 1, 1) := by decide +kernel
theorem dX8_newBehind_23 : decode cX8_newBehind 23 = .ok (.iload_n 2, 1) := by decide +kernel
theorem dX8_newBehind_24 : decode cX8_newBehind 24 = .ok (.invokevirtual 103, 3) := by decide +kernel
theorem dX8_newBehind_27 : decode cX8_newBehind 27 = .ok (.istore_n 3, 1) := by decide +kernel
theorem dX8_newBehind_28 : decode cX8_newBehind 28 = .ok (.iload_n 3, 1) := by decide +kernel
theorem dX8_newBehind_29 : decode cX8_newBehind 29 = .ok (.iload_n 2, 1) := by decide +kernel
theorem dX8_newBehind_30 : decode cX8_newBehind 30 = .ok (.if_icmp .ne 7, 3) := by decide +kernel
theorem dX8_newBehind_33 : decode cX8_newBehind 33 = .ok (.iconst (-1), 1) := by decide +kernel
theorem dX8_newBehind_34 : decode cX8_newBehind 34 = .ok (.goto 4, 3) := by decide +kernel
theorem dX8_newBehind_37 : decode cX8_newBehind 37 = .ok (.iload_n 3, 1) := by decide +kernel
theorem dX8_newBehind_38 : decode cX8_newBehind 38 = .ok (.ireturn, 1) := by decide +kernel
set_option maxRecDepth 20000 in
theorem ggX8_findWays_X8_newBehind : GoodIn wsX8_findWays wsX8_newBehind := goodIn_r _ [11, 1, 12, 13, 14, 10, 15, 16, 17, 18, 19, 20, 21, 22, 23, 24, 25, 26, 27, 2, 28, 35, 36, 37, 38, 39, 40, 41, 42, 43, 44, 45, 46, 47, 48, 49, 50, 51, 52, 53, 54, 55, 56, 57, 58] (by decide +kernel) (by decide +kernel)
set_option maxRecDepth 20000 in
theorem gX8_findWays_X8_newBehind : GoodIn wsX8_findWays (wsV RX8 111 RX8 yX8_newBehind wsX8_newBehind) := goodIn_app (goodIn_of _ (by decide +kernel)) ggX8_findWays_X8_newBehind
set_option maxRecDepth 20000 in
theorem ggX8_findWays_X8_time : GoodIn wsX8_findWays wsX8_time := goodIn_r _ [32, 33, 34, 35, 36, 37, 38, 39, 40, 41, 42, 43, 44, 45, 46, 47, 48, 49, 50, 51, 52, 53, 54, 55, 56, 57, 58] (by decide +kernel) (by decide +kernel)
set_option maxRecDepth 20000 in
theorem gX8_findWays_X8_time : GoodIn wsX8_findWays (wsV RX8 96 RX8 yX8_time wsX8_time) := goodIn_app (goodIn_of _ (by decide +kernel)) ggX8_findWays_X8_time
theorem dX8_findWays_0 : decode cX8_findWays 0 = .ok (.aload_n 0, 1) := by decide +kernel
theorem dX8_findWays_1 : decode cX8_findWays 1 = .ok (.iload_n 2, 1) := by decide +kernel
theorem dX8_findWays_2 : decode cX8_findWays 2 = .ok (.putfield 107, 3) := by decide +kernel
theorem dX8_findWays_5 : decode cX8_findWays 5 = .ok (.iconst 1, 1) := by decide +kernel
theorem dX8_findWays_6 : decode cX8_findWays 6 = .ok (.aload_n 0, 1) := by decide +kernel
theorem dX8_findWays_7 : decode cX8_findWays 7 = .ok (.getfield 66, 3) := by decide +kernel
theorem dX8_findWays_10 : decode cX8_findWays 10 = .ok (.ishl, 1) := by decide +kernel
theorem dX8_findWays_11 : decode cX8_findWays 11 = .ok (.iconst 1, 1) := by decide +kernel
theorem dX8_findWays_12 : decode cX8_findWays 12 = .ok (.isub, 1) := by decide +kernel
theorem dX8_findWays_13 : decode cX8_findWays 13 = .ok (.istore_n 3, 1) := by decide +kernel
theorem dX8_findWays_14 : decode cX8_findWays 14 = .ok (.iload_n 3, 1) := by decide +kernel
theorem dX8_findWays_15 : decode cX8_findWays 15 = .ok (.ifCond .lt 182, 3) := by decide +kernel
theorem dX8_findWays_18 : decode cX8_findWays 18 = .ok (.iload_n 1, 1) := by decide +kernel
theorem dX8_findWays_19 : decode cX8_findWays 19 = .ok (.iload_n 3, 1) := by decide +kernel
theorem dX8_findWays_20 : decode cX8_findWays 20 = .ok (.iconst (-1), 1) := by decide +kernel
theorem dX8_findWays_21 : decode cX8_findWays 21 = .ok (.ixor, 1) := by decide +kernel
theorem dX8_findWays_22 : decode cX8_findWays 22 = .ok (.iand, 1) := by decide +kernel
theorem dX8_findWays_23 : decode cX8_findWays 23 = .ok (.ifCond .ne 7, 3) := by decide +kernel
theorem dX8_findWays_26 : decode cX8_findWays 26 = .ok (.iconst 1, 1) := by decide +kernel
theorem dX8_findWays_27 : decode cX8_findWays 27 = .ok (.goto 4, 3) := by decide +kernel
theorem dX8_findWays_30 : decode cX8_findWays 30 = .ok (.iconst 0, 1) := by decide +kernel
theorem dX8_findWays_31 : decode cX8_findWays 31 = .ok (.istore 4, 2) := by decide +kernel
theorem dX8_findWays_33 : decode cX8_findWays 33 = .ok (.aload_n 0, 1) := by decide +kernel
theorem dX8_findWays_34 : decode cX8_findWays 34 = .ok (.getfield 47, 3) := by decide +kernel
theorem dX8_findWays_37 : decode cX8_findWays 37 = .ok (.iload_n 3, 1) := by decide +kernel
theorem dX8_findWays_38 : decode cX8_findWays 38 = .ok (.iload 4, 2) := by decide +kernel
theorem dX8_findWays_40 : decode cX8_findWays 40 = .ok (.ifCond .eq 7, 3) := by decide +kernel
theorem dX8_findWays_43 : decode cX8_findWays 43 = .ok (.iconst 0, 1) := by decide +kernel
theorem dX8_findWays_44 : decode cX8_findWays 44 = .ok (.goto 5, 3) := by decide +kernel
theorem dX8_findWays_47 : decode cX8_findWays 47 = .ok (.ldc 110, 2) := by decide +kernel
theorem dX8_findWays_49 : decode cX8_findWays 49 = .ok (.iastore, 1) := by decide +kernel
theorem dX8_findWays_50 : decode cX8_findWays 50 = .ok (.aload_n 0, 1) := by decide +kernel
theorem dX8_findWays_51 : decode cX8_findWays 51 = .ok (.getfield 50, 3) := by decide +kernel
theorem dX8_findWays_54 : decode cX8_findWays 54 = .ok (.iload_n 3, 1) := by decide +kernel
theorem dX8_findWays_55 : decode cX8_findWays 55 = .ok (.iconst 0, 1) := by decide +kernel
theorem dX8_findWays_56 : decode cX8_findWays 56 = .ok (.iastore, 1) := by decide +kernel
theorem dX8_findWays_57 : decode cX8_findWays 57 = .ok (.iconst 0, 1) := by decide +kernel
theorem dX8_findWays_58 : decode cX8_findWays 58 = .ok (.istore 5, 2) := by decide +kernel
theorem dX8_findWays_60 : decode cX8_findWays 60 = .ok (.iload 5, 2) := by decide +kernel
theorem dX8_findWays_62 : decode cX8_findWays 62 = .ok (.iconst 2, 1) := by decide +kernel
theorem dX8_findWays_63 : decode cX8_findWays 63 = .ok (.aload_n 0, 1) := by decide +kernel
theorem dX8_findWays_64 : decode cX8_findWays 64 = .ok (.getfield 73, 3) := by decide +kernel
theorem dX8_findWays_67 : decode cX8_findWays 67 = .ok (.imul, 1) := by decide +kernel
theorem dX8_findWays_68 : decode cX8_findWays 68 = .ok (.if_icmp .ge 123, 3) := by decide +kernel
theorem dX8_findWays_71 : decode cX8_findWays 71 = .ok (.iload 4, 2) := by decide +kernel
theorem dX8_findWays_73 : decode cX8_findWays 73 = .ok (.ifCond .ne 118, 3) := by decide +kernel
theorem dX8_findWays_76 : decode cX8_findWays 76 = .ok (.aload_n 0, 1) := by decide +kernel
theorem dX8_findWays_77 : decode cX8_findWays 77 = .ok (.iload 5, 2) := by decide +kernel
theorem dX8_findWays_79 : decode cX8_findWays 79 = .ok (.iload_n 3, 1) := by decide +kernel
theorem dX8_findWays_80 : decode cX8_findWays 80 = .ok (.invokevirtual 111, 3) := by decide +kernel
theorem dX8_findWays_83 : decode cX8_findWays 83 = .ok (.istore 6, 2) := by decide +kernel
theorem dX8_findWays_85 : decode cX8_findWays 85 = .ok (.iload 6, 2) := by decide +kernel
theorem dX8_findWays_87 : decode cX8_findWays 87 = .ok (.iconst (-1), 1) := by decide +kernel
theorem dX8_findWays_88 : decode cX8_findWays 88 = .ok (.if_icmp .eq 97, 3) := by decide +kernel
theorem dX8_findWays_91 : decode cX8_findWays 91 = .ok (.aload_n 0, 1) := by decide +kernel
theorem dX8_findWays_92 : decode cX8_findWays 92 = .ok (.getfield 47, 3) := by decide +kernel
theorem dX8_findWays_95 : decode cX8_findWays 95 = .ok (.iload 6, 2) := by decide +kernel
theorem dX8_findWays_97 : decode cX8_findWays 97 = .ok (.iaload, 1) := by decide +kernel
theorem dX8_findWays_98 : decode cX8_findWays 98 = .ok (.ldc 110, 2) := by decide +kernel
theorem dX8_findWays_100 : decode cX8_findWays 100 = .ok (.if_icmp .ne 6, 3) := by decide +kernel
theorem dX8_findWays_103 : decode cX8_findWays 103 = .ok (.goto 82, 3) := by decide +kernel
theorem dX8_findWays_106 : decode cX8_findWays 106 = .ok (.aload_n 0, 1) := by decide +kernel
theorem dX8_findWays_107 : decode cX8_findWays 107 = .ok (.iload 5, 2) := by decide +kernel
theorem dX8_findWays_109 : decode cX8_findWays 109 = .ok (.invokevirtual 96, 3) := by decide +kernel
theorem dX8_findWays_112 : decode cX8_findWays 112 = .ok (.aload_n 0, 1) := by decide +kernel
theorem dX8_findWays_113 : decode cX8_findWays 113 = .ok (.getfield 47, 3) := by decide +kernel
theorem dX8_findWays_116 : decode cX8_findWays 116 = .ok (.iload 6, 2) := by decide +kernel
theorem dX8_findWays_118 : decode cX8_findWays 118 = .ok (.iaload, 1) := by decide +kernel
theorem dX8_findWays_119 : decode cX8_findWays 119 = .ok (.iadd, 1) := by decide +kernel
theorem dX8_findWays_120 : decode cX8_findWays 120 = .ok (.istore 7, 2) := by decide +kernel
theorem dX8_findWays_122 : decode cX8_findWays 122 = .ok (.iconst 1, 1) := by decide +kernel
theorem dX8_findWays_123 : decode cX8_findWays 123 = .ok (.aload_n 0, 1) := by decide +kernel
theorem dX8_findWays_124 : decode cX8_findWays 124 = .ok (.getfield 50, 3) := by decide +kernel
theorem dX8_findWays_127 : decode cX8_findWays 127 = .ok (.iload 6, 2) := by decide +kernel
theorem dX8_findWays_129 : decode cX8_findWays 129 = .ok (.iaload, 1) := by decide +kernel
theorem dX8_findWays_130 : decode cX8_findWays 130 = .ok (.iadd, 1) := by decide +kernel
theorem dX8_findWays_131 : decode cX8_findWays 131 = .ok (.istore 8, 2) := by decide +kernel
theorem dX8_findWays_133 : decode cX8_findWays 133 = .ok (.iload 7, 2) := by decide +kernel
theorem dX8_findWays_135 : decode cX8_findWays 135 = .ok (.aload_n 0, 1) := by decide +kernel
theorem dX8_findWays_136 : decode cX8_findWays 136 = .ok (.getfield 47, 3) := by decide +kernel
theorem dX8_findWays_139 : decode cX8_findWays 139 = .ok (.iload_n 3, 1) := by decide +kernel
theorem dX8_findWays_140 : decode cX8_findWays 140 = .ok (.iaload, 1) := by decide +kernel
theorem dX8_findWays_141 : decode cX8_findWays 141 = .ok (.if_icmp .gt 44, 3) := by decide +kernel
theorem dX8_findWays_144 : decode cX8_findWays 144 = .ok (.iload 7, 2) := by decide +kernel
theorem dX8_findWays_146 : decode cX8_findWays 146 = .ok (.aload_n 0, 1) := by decide +kernel
theorem dX8_findWays_147 : decode cX8_findWays 147 = .ok (.getfield 47, 3) := by decide +kernel
theorem dX8_findWays_150 : decode cX8_findWays 150 = .ok (.iload_n 3, 1) := by decide +kernel
theorem dX8_findWays_151 : decode cX8_findWays 151 = .ok (.iaload, 1) := by decide +kernel
theorem dX8_findWays_152 : decode cX8_findWays 152 = .ok (.if_icmp .ne 17, 3) := by decide +kernel
theorem dX8_findWays_155 : decode cX8_findWays 155 = .ok (.iload 8, 2) := by decide +kernel
theorem dX8_findWays_157 : decode cX8_findWays 157 = .ok (.aload_n 0, 1) := by decide +kernel
theorem dX8_findWays_158 : decode cX8_findWays 158 = .ok (.getfield 50, 3) := by decide +kernel
theorem dX8_findWays_161 : decode cX8_findWays 161 = .ok (.iload_n 3, 1) := by decide +kernel
theorem dX8_findWays_162 : decode cX8_findWays 162 = .ok (.iaload, 1) := by decide +kernel
theorem dX8_findWays_163 : decode cX8_findWays 163 = .ok (.if_icmp .lt 6, 3) := by decide +kernel
theorem dX8_findWays_166 : decode cX8_findWays 166 = .ok (.goto 19, 3) := by decide +kernel
theorem dX8_findWays_169 : decode cX8_findWays 169 = .ok (.aload_n 0, 1) := by decide +kernel
theorem dX8_findWays_170 : decode cX8_findWays 170 = .ok (.getfield 47, 3) := by decide +kernel
theorem dX8_findWays_173 : decode cX8_findWays 173 = .ok (.iload_n 3, 1) := by decide +kernel
theorem dX8_findWays_174 : decode cX8_findWays 174 = .ok (.iload 7, 2) := by decide +kernel
theorem dX8_findWays_176 : decode cX8_findWays 176 = .ok (.iastore, 1) := by decide +kernel
theorem dX8_findWays_177 : decode cX8_findWays 177 = .ok (.aload_n 0, 1) := by decide +kernel
theorem dX8_findWays_178 : decode cX8_findWays 178 = .ok (.getfield 50, 3) := by decide +kernel
theorem dX8_findWays_181 : decode cX8_findWays 181 = .ok (.iload_n 3, 1) := by decide +kernel
theorem dX8_findWays_182 : decode cX8_findWays 182 = .ok (.iload 8, 2) := by decide +kernel
theorem dX8_findWays_184 : decode cX8_findWays 184 = .ok (.iastore, 1) := by decide +kernel
theorem dX8_findWays_185 : decode cX8_findWays 185 = .ok (.iinc 5 1, 3) := by decide +kernel
theorem dX8_findWays_188 : decode cX8_findWays 188 = .ok (.goto (-128), 3) := by decide +kernel
theorem dX8_findWays_191 : decode cX8_findWays 191 = .ok (.iinc 3 (-1), 3) := by decide +kernel
theorem dX8_findWays_194 : decode cX8_findWays 194 = .ok (.goto (-180), 3) := by decide +kernel
theorem dX8_findWays_197 : decode cX8_findWays 197 = .ok (.return_, 1) := by decide +kernel
set_option maxRecDepth 20000 in
theorem ggX8_way_X8_areBits : GoodIn wsX8_way wsX8_areBits := goodIn_r _ [12, 13, 14, 15, 11, 16, 50, 51, 52, 53, 54, 55, 56, 57, 58, 59, 60, 61, 62, 63, 64, 65, 66, 67, 68, 69, 70, 71, 72, 73] (by decide +kernel) (by decide +kernel)
set_option maxRecDepth 20000 in
theorem gX8_way_X8_areBits : GoodIn wsX8_way (wsV RX8 76 RX8 yX8_areBits wsX8_areBits) := goodIn_app (goodIn_of _ (by decide +kernel)) ggX8_way_X8_areBits
set_option maxRecDepth 20000 in
theorem ggX8_way_X8_findWays : GoodIn wsX8_way wsX8_findWays := goodIn_r _ [20, 21, 13, 2, 4, 5, 22, 23, 24, 25, 11, 26, 27, 28, 29, 30, 31, 32, 33, 34, 35, 36, 37, 38, 39, 40, 41, 42, 43, 44, 45, 46, 47, 48, 49, 50, 51, 52, 53, 54, 55, 56, 57, 58, 59, 60, 61, 62, 63, 64, 65, 66, 67, 68, 69, 70, 71, 72, 73] (by decide +kernel) (by decide +kernel)
set_option maxRecDepth 20000 in
theorem gX8_way_X8_findWays : GoodIn wsX8_way (wsV RX8 114 RX8 yX8_findWays wsX8_findWays) := goodIn_app (goodIn_of _ (by decide +kernel)) ggX8_way_X8_findWays
set_option maxRecDepth 20000 in
theorem ggX8_way_X8_newBehind : GoodIn wsX8_way wsX8_newBehind := goodIn_r _ [26, 21, 27, 28, 29, 11, 30, 31, 32, 33, 34, 35, 36, 37, 38, 39, 40, 41, 42, 13, 43, 50, 51, 52, 53, 54, 55, 56, 57, 58, 59, 60, 61, 62, 63, 64, 65, 66, 67, 68, 69, 70, 71, 72, 73] (by decide +kernel) (by decide +kernel)
set_option maxRecDepth 20000 in
theorem gX8_way_X8_newBehind : GoodIn wsX8_way (wsV RX8 111 RX8 yX8_newBehind wsX8_newBehind) := goodIn_app (goodIn_of _ (by decide +kernel)) ggX8_way_X8_newBehind
set_option maxRecDepth 20000 in
theorem ggX8_way_X8_time : GoodIn wsX8_way wsX8_time := goodIn_r _ [47, 48, 49, 50, 51, 52, 53, 54, 55, 56, 57, 58, 59, 60, 61, 62, 63, 64, 65, 66, 67, 68, 69, 70, 71, 72, 73] (by decide +kernel) (by decide +kernel)
set_option maxRecDepth 20000 in
theorem gX8_way_X8_time : GoodIn wsX8_way (wsV RX8 96 RX8 yX8_time wsX8_time) := goodIn_app (goodIn_of _ (by decide +kernel)) ggX8_way_X8_time
set_option maxRecDepth 20000 in
theorem ggX8_way_X8_behind : GoodIn wsX8_way wsX8_behind := goodIn_r _ [36, 37, 38, 39, 40, 41, 11, 42, 13, 43, 50, 51, 52, 53, 54, 55, 56, 57, 58, 59, 60, 61, 62, 63, 64, 65, 66, 67, 68, 69, 70, 71, 72, 73] (by decide +kernel) (by decide +kernel)
set_option maxRecDepth 20000 in
theorem gX8_way_X8_behind : GoodIn wsX8_way (wsV RX8 103 RX8 yX8_behind wsX8_behind) := goodIn_app (goodIn_of _ (by decide +kernel)) ggX8_way_X8_behind
theorem dX8_way_0 : decode cX8_way 0 = .ok (.aload_n 0, 1) := by decide +kernel
theorem dX8_way_1 : decode cX8_way 1 = .ok (.iconst 0, 1) := by decide +kernel
theorem dX8_way_2 : decode cX8_way 2 = .ok (.putfield 63, 3) := by decide +kernel
theorem dX8_way_5 : decode cX8_way 5 = .ok (.aload_n 0, 1) := by decide +kernel
theorem dX8_way_6 : decode cX8_way 6 = .ok (.iload_n 1, 1) := by decide +kernel
theorem dX8_way_7 : decode cX8_way 7 = .ok (.invokevirtual 76, 3) := by decide +kernel
theorem dX8_way_10 : decode cX8_way 10 = .ok (.ifCond .ne 5, 3) := by decide +kernel
theorem dX8_way_13 : decode cX8_way 13 = .ok (.iconst (-1), 1) := by decide +kernel
theorem dX8_way_14 : decode cX8_way 14 = .ok (.ireturn, 1) := by decide +kernel
theorem dX8_way_15 : decode cX8_way 15 = .ok (.aload_n 0, 1) := by decide +kernel
theorem dX8_way_16 : decode cX8_way 16 = .ok (.iload_n 1, 1) := by decide +kernel
theorem dX8_way_17 : decode cX8_way 17 = .ok (.iconst (-1), 1) := by decide +kernel
theorem dX8_way_18 : decode cX8_way 18 = .ok (.invokevirtual 114, 3) := by decide +kernel
theorem dX8_way_21 : decode cX8_way 21 = .ok (.aload_n 0, 1) := by decide +kernel
theorem dX8_way_22 : decode cX8_way 22 = .ok (.getfield 47, 3) := by decide +kernel
theorem dX8_way_25 : decode cX8_way 25 = .ok (.aload_n 0, 1) := by decide +kernel
theorem dX8_way_26 : decode cX8_way 26 = .ok (.getfield 84, 3) := by decide +kernel
theorem dX8_way_29 : decode cX8_way 29 = .ok (.iaload, 1) := by decide +kernel
theorem dX8_way_30 : decode cX8_way 30 = .ok (.ldc 110, 2) := by decide +kernel
theorem dX8_way_32 : decode cX8_way 32 = .ok (.if_icmp .ne 5, 3) := by decide +kernel
theorem dX8_way_35 : decode cX8_way 35 = .ok (.iconst (-1), 1) := by decide +kernel
theorem dX8_way_36 : decode cX8_way 36 = .ok (.ireturn, 1) := by decide +kernel
theorem dX8_way_37 : decode cX8_way 37 = .ok (.iconst 0, 1) := by decide +kernel
theorem dX8_way_38 : decode cX8_way 38 = .ok (.istore_n 2, 1) := by decide +kernel
theorem dX8_way_39 : decode cX8_way 39 = .ok (.aload_n 0, 1) := by decide +kernel
theorem dX8_way_40 : decode cX8_way 40 = .ok (.getfield 84, 3) := by decide +kernel
theorem dX8_way_43 : decode cX8_way 43 = .ok (.istore_n 3, 1) := by decide +kernel
theorem dX8_way_44 : decode cX8_way 44 = .ok (.aload_n 0, 1) := by decide +kernel
theorem dX8_way_45 : decode cX8_way 45 = .ok (.getfield 50, 3) := by decide +kernel
theorem dX8_way_48 : decode cX8_way 48 = .ok (.iload_n 3, 1) := by decide +kernel
theorem dX8_way_49 : decode cX8_way 49 = .ok (.iaload, 1) := by decide +kernel
theorem dX8_way_50 : decode cX8_way 50 = .ok (.ifCond .le 105, 3) := by decide +kernel
theorem dX8_way_53 : decode cX8_way 53 = .ok (.iconst 0, 1) := by decide +kernel
theorem dX8_way_54 : decode cX8_way 54 = .ok (.istore 4, 2) := by decide +kernel
theorem dX8_way_56 : decode cX8_way 56 = .ok (.aload_n 0, 1) := by decide +kernel
theorem dX8_way_57 : decode cX8_way 57 = .ok (.iload 4, 2) := by decide +kernel
theorem dX8_way_59 : decode cX8_way 59 = .ok (.iload_n 3, 1) := by decide +kernel
theorem dX8_way_60 : decode cX8_way 60 = .ok (.invokevirtual 111, 3) := by decide +kernel
theorem dX8_way_63 : decode cX8_way 63 = .ok (.istore 5, 2) := by decide +kernel
theorem dX8_way_65 : decode cX8_way 65 = .ok (.iload 5, 2) := by decide +kernel
theorem dX8_way_67 : decode cX8_way 67 = .ok (.iconst (-1), 1) := by decide +kernel
theorem dX8_way_68 : decode cX8_way 68 = .ok (.if_icmp .eq 59, 3) := by decide +kernel
theorem dX8_way_71 : decode cX8_way 71 = .ok (.aload_n 0, 1) := by decide +kernel
theorem dX8_way_72 : decode cX8_way 72 = .ok (.getfield 47, 3) := by decide +kernel
theorem dX8_way_75 : decode cX8_way 75 = .ok (.iload 5, 2) := by decide +kernel
theorem dX8_way_77 : decode cX8_way 77 = .ok (.iaload, 1) := by decide +kernel
theorem dX8_way_78 : decode cX8_way 78 = .ok (.ldc 110, 2) := by decide +kernel
theorem dX8_way_80 : decode cX8_way 80 = .ok (.if_icmp .ge 47, 3) := by decide +kernel
theorem dX8_way_83 : decode cX8_way 83 = .ok (.aload_n 0, 1) := by decide +kernel
theorem dX8_way_84 : decode cX8_way 84 = .ok (.iload 4, 2) := by decide +kernel
theorem dX8_way_86 : decode cX8_way 86 = .ok (.invokevirtual 96, 3) := by decide +kernel
theorem dX8_way_89 : decode cX8_way 89 = .ok (.aload_n 0, 1) := by decide +kernel
theorem dX8_way_90 : decode cX8_way 90 = .ok (.getfield 47, 3) := by decide +kernel
theorem dX8_way_93 : decode cX8_way 93 = .ok (.iload 5, 2) := by decide +kernel
theorem dX8_way_95 : decode cX8_way 95 = .ok (.iaload, 1) := by decide +kernel
theorem dX8_way_96 : decode cX8_way 96 = .ok (.iadd, 1) := by decide +kernel
theorem dX8_way_97 : decode cX8_way 97 = .ok (.aload_n 0, 1) := by decide +kernel
theorem dX8_way_98 : decode cX8_way 98 = .ok (.getfield 47, 3) := by decide +kernel
theorem dX8_way_101 : decode cX8_way 101 = .ok (.iload_n 3, 1) := by decide +kernel
theorem dX8_way_102 : decode cX8_way 102 = .ok (.iaload, 1) := by decide +kernel
theorem dX8_way_103 : decode cX8_way 103 = .ok (.if_icmp .ne 24, 3) := by decide +kernel
theorem dX8_way_106 : decode cX8_way 106 = .ok (.iconst 1, 1) := by decide +kernel
theorem dX8_way_107 : decode cX8_way 107 = .ok (.aload_n 0, 1) := by decide +kernel
theorem dX8_way_108 : decode cX8_way 108 = .ok (.getfield 50, 3) := by decide +kernel
theorem dX8_way_111 : decode cX8_way 111 = .ok (.iload 5, 2) := by decide +kernel
theorem dX8_way_113 : decode cX8_way 113 = .ok (.iaload, 1) := by decide +kernel
theorem dX8_way_114 : decode cX8_way 114 = .ok (.iadd, 1) := by decide +kernel
theorem dX8_way_115 : decode cX8_way 115 = .ok (.aload_n 0, 1) := by decide +kernel
theorem dX8_way_116 : decode cX8_way 116 = .ok (.getfield 50, 3) := by decide +kernel
theorem dX8_way_119 : decode cX8_way 119 = .ok (.iload_n 3, 1) := by decide +kernel
theorem dX8_way_120 : decode cX8_way 120 = .ok (.iaload, 1) := by decide +kernel
theorem dX8_way_121 : decode cX8_way 121 = .ok (.if_icmp .ne 6, 3) := by decide +kernel
theorem dX8_way_124 : decode cX8_way 124 = .ok (.goto 9, 3) := by decide +kernel
theorem dX8_way_127 : decode cX8_way 127 = .ok (.iinc 4 1, 3) := by decide +kernel
theorem dX8_way_130 : decode cX8_way 130 = .ok (.goto (-74), 3) := by decide +kernel
theorem dX8_way_133 : decode cX8_way 133 = .ok (.aload_n 0, 1) := by decide +kernel
theorem dX8_way_134 : decode cX8_way 134 = .ok (.getfield 35, 3) := by decide +kernel
theorem dX8_way_137 : decode cX8_way 137 = .ok (.iload_n 2, 1) := by decide +kernel
theorem dX8_way_138 : decode cX8_way 138 = .ok (.iload 4, 2) := by decide +kernel
theorem dX8_way_140 : decode cX8_way 140 = .ok (.iastore, 1) := by decide +kernel
theorem dX8_way_141 : decode cX8_way 141 = .ok (.iinc 2 1, 3) := by decide +kernel
theorem dX8_way_144 : decode cX8_way 144 = .ok (.aload_n 0, 1) := by decide +kernel
theorem dX8_way_145 : decode cX8_way 145 = .ok (.iload 4, 2) := by decide +kernel
theorem dX8_way_147 : decode cX8_way 147 = .ok (.iload_n 3, 1) := by decide +kernel
theorem dX8_way_148 : decode cX8_way 148 = .ok (.invokevirtual 103, 3) := by decide +kernel
theorem dX8_way_151 : decode cX8_way 151 = .ok (.istore_n 3, 1) := by decide +kernel
theorem dX8_way_152 : decode cX8_way 152 = .ok (.goto (-108), 3) := by decide +kernel
theorem dX8_way_155 : decode cX8_way 155 = .ok (.aload_n 0, 1) := by decide +kernel
theorem dX8_way_156 : decode cX8_way 156 = .ok (.iload_n 2, 1) := by decide +kernel
theorem dX8_way_157 : decode cX8_way 157 = .ok (.putfield 90, 3) := by decide +kernel
theorem dX8_way_160 : decode cX8_way 160 = .ok (.aload_n 0, 1) := by decide +kernel
theorem dX8_way_161 : decode cX8_way 161 = .ok (.getfield 47, 3) := by decide +kernel
theorem dX8_way_164 : decode cX8_way 164 = .ok (.aload_n 0, 1) := by decide +kernel
theorem dX8_way_165 : decode cX8_way 165 = .ok (.getfield 84, 3) := by decide +kernel
theorem dX8_way_168 : decode cX8_way 168 = .ok (.iaload, 1) := by decide +kernel
theorem dX8_way_169 : decode cX8_way 169 = .ok (.ireturn, 1) := by decide +kernel
set_option maxRecDepth 20000 in
theorem ggX8_step_X8_in : GoodIn wsX8_step wsX8_in := goodIn_r _ [7] (by decide +kernel) (by decide +kernel)
set_option maxRecDepth 20000 in
theorem gX8_step_X8_in : GoodIn wsX8_step (va_wsS RX8 69 yX8_in wsX8_in) := goodIn_app (goodIn_of _ (by decide +kernel)) ggX8_step_X8_in
theorem dX8_step_0 : decode cX8_step 0 = .ok (.aload_n 0, 1) := by decide +kernel
theorem dX8_step_1 : decode cX8_step 1 = .ok (.iconst 0, 1) := by decide +kernel
theorem dX8_step_2 : decode cX8_step 2 = .ok (.putfield 63, 3) := by decide +kernel
theorem dX8_step_5 : decode cX8_step 5 = .ok (.iload_n 1, 1) := by decide +kernel
theorem dX8_step_6 : decode cX8_step 6 = .ok (.iconst 0, 1) := by decide +kernel
theorem dX8_step_7 : decode cX8_step 7 = .ok (.aload_n 0, 1) := by decide +kernel
theorem dX8_step_8 : decode cX8_step 8 = .ok (.getfield 90, 3) := by decide +kernel
theorem dX8_step_11 : decode cX8_step 11 = .ok (.iconst 1, 1) := by decide +kernel
theorem dX8_step_12 : decode cX8_step 12 = .ok (.isub, 1) := by decide +kernel
theorem dX8_step_13 : decode cX8_step 13 = .ok (.invokestatic 69, 3) := by decide +kernel
theorem dX8_step_16 : decode cX8_step 16 = .ok (.ifCond .eq 12, 3) := by decide +kernel
theorem dX8_step_19 : decode cX8_step 19 = .ok (.aload_n 0, 1) := by decide +kernel
theorem dX8_step_20 : decode cX8_step 20 = .ok (.getfield 35, 3) := by decide +kernel
theorem dX8_step_23 : decode cX8_step 23 = .ok (.iload_n 1, 1) := by decide +kernel
theorem dX8_step_24 : decode cX8_step 24 = .ok (.iaload, 1) := by decide +kernel
theorem dX8_step_25 : decode cX8_step 25 = .ok (.goto 4, 3) := by decide +kernel
theorem dX8_step_28 : decode cX8_step 28 = .ok (.iconst (-1), 1) := by decide +kernel
theorem dX8_step_29 : decode cX8_step 29 = .ok (.ireturn, 1) := by decide +kernel
set_option maxRecDepth 20000 in
theorem ggX8_isTight_X8_time : GoodIn wsX8_isTight wsX8_time := goodIn_r _ [7, 8, 9, 10, 11, 12, 13, 14, 15, 16, 17, 18, 19, 20, 21, 22, 23, 24, 25, 26, 27, 28, 29, 30, 31, 32, 33] (by decide +kernel) (by decide +kernel)
set_option maxRecDepth 20000 in
theorem gX8_isTight_X8_time : GoodIn wsX8_isTight (wsV RX8 96 RX8 yX8_time wsX8_time) := goodIn_app (goodIn_of _ (by decide +kernel)) ggX8_isTight_X8_time
theorem dX8_isTight_0 : decode cX8_isTight 0 = .ok (.aload_n 0, 1) := by decide +kernel
theorem dX8_isTight_1 : decode cX8_isTight 1 = .ok (.getfield 47, 3) := by decide +kernel
theorem dX8_isTight_4 : decode cX8_isTight 4 = .ok (.iload_n 2, 1) := by decide +kernel
theorem dX8_isTight_5 : decode cX8_isTight 5 = .ok (.iaload, 1) := by decide +kernel
theorem dX8_isTight_6 : decode cX8_isTight 6 = .ok (.aload_n 0, 1) := by decide +kernel
theorem dX8_isTight_7 : decode cX8_isTight 7 = .ok (.iload_n 1, 1) := by decide +kernel
theorem dX8_isTight_8 : decode cX8_isTight 8 = .ok (.invokevirtual 96, 3) := by decide +kernel
theorem dX8_isTight_11 : decode cX8_isTight 11 = .ok (.iadd, 1) := by decide +kernel
theorem dX8_isTight_12 : decode cX8_isTight 12 = .ok (.aload_n 0, 1) := by decide +kernel
theorem dX8_isTight_13 : decode cX8_isTight 13 = .ok (.getfield 47, 3) := by decide +kernel
theorem dX8_isTight_16 : decode cX8_isTight 16 = .ok (.iload_n 3, 1) := by decide +kernel
theorem dX8_isTight_17 : decode cX8_isTight 17 = .ok (.iaload, 1) := by decide +kernel
theorem dX8_isTight_18 : decode cX8_isTight 18 = .ok (.if_icmp .ne 24, 3) := by decide +kernel
theorem dX8_isTight_21 : decode cX8_isTight 21 = .ok (.aload_n 0, 1) := by decide +kernel
theorem dX8_isTight_22 : decode cX8_isTight 22 = .ok (.getfield 50, 3) := by decide +kernel
theorem dX8_isTight_25 : decode cX8_isTight 25 = .ok (.iload_n 2, 1) := by decide +kernel
theorem dX8_isTight_26 : decode cX8_isTight 26 = .ok (.iaload, 1) := by decide +kernel
theorem dX8_isTight_27 : decode cX8_isTight 27 = .ok (.iconst 1, 1) := by decide +kernel
theorem dX8_isTight_28 : decode cX8_isTight 28 = .ok (.iadd, 1) := by decide +kernel
theorem dX8_isTight_29 : decode cX8_isTight 29 = .ok (.aload_n 0, 1) := by decide +kernel
theorem dX8_isTight_30 : decode cX8_isTight 30 = .ok (.getfield 50, 3) := by decide +kernel
theorem dX8_isTight_33 : decode cX8_isTight 33 = .ok (.iload_n 3, 1) := by decide +kernel
theorem dX8_isTight_34 : decode cX8_isTight 34 = .ok (.iaload, 1) := by decide +kernel
theorem dX8_isTight_35 : decode cX8_isTight 35 = .ok (.if_icmp .ne 7, 3) := by decide +kernel
theorem dX8_isTight_38 : decode cX8_isTight 38 = .ok (.iconst 1, 1) := by decide +kernel
theorem dX8_isTight_39 : decode cX8_isTight 39 = .ok (.goto 4, 3) := by decide +kernel
theorem dX8_isTight_42 : decode cX8_isTight 42 = .ok (.iconst 0, 1) := by decide +kernel
theorem dX8_isTight_43 : decode cX8_isTight 43 = .ok (.ireturn, 1) := by decide +kernel
set_option maxRecDepth 20000 in
theorem ggX8_most_X8_in : GoodIn wsX8_most wsX8_in := goodIn_r _ [15] (by decide +kernel) (by decide +kernel)
set_option maxRecDepth 20000 in
theorem gX8_most_X8_in : GoodIn wsX8_most (va_wsS RX8 69 yX8_in wsX8_in) := goodIn_app (goodIn_of _ (by decide +kernel)) ggX8_most_X8_in
set_option maxRecDepth 20000 in
theorem ggX8_most_X8_newBehind : GoodIn wsX8_most wsX8_newBehind := goodIn_r _ [19, 2, 20, 21, 22, 14, 23, 24, 25, 26, 27, 28, 29, 30, 31, 32, 33, 34, 35, 3, 36, 52, 53, 54, 55, 56, 57, 58, 59, 60, 61, 62, 63, 64, 65, 66, 67, 68, 69, 70, 71, 72, 73, 74, 75] (by decide +kernel) (by decide +kernel)
set_option maxRecDepth 20000 in
theorem gX8_most_X8_newBehind : GoodIn wsX8_most (wsV RX8 111 RX8 yX8_newBehind wsX8_newBehind) := goodIn_app (goodIn_of _ (by decide +kernel)) ggX8_most_X8_newBehind
set_option maxRecDepth 20000 in
theorem ggX8_most_X8_time : GoodIn wsX8_most wsX8_time := goodIn_r _ [40, 41, 42, 52, 53, 54, 55, 56, 57, 58, 59, 60, 61, 62, 63, 64, 65, 66, 67, 68, 69, 70, 71, 72, 73, 74, 75] (by decide +kernel) (by decide +kernel)
set_option maxRecDepth 20000 in
theorem gX8_most_X8_time : GoodIn wsX8_most (wsV RX8 96 RX8 yX8_time wsX8_time) := goodIn_app (goodIn_of _ (by decide +kernel)) ggX8_most_X8_time
set_option maxRecDepth 20000 in
theorem ggX8_most_X8_worthOf : GoodIn wsX8_most wsX8_worthOf := goodIn_r _ [46, 3, 47, 52, 53, 54, 55, 56, 57, 58, 59, 60, 61, 62, 63, 64, 65, 66, 67, 68, 69, 70, 71, 72, 73, 74, 75] (by decide +kernel) (by decide +kernel)
set_option maxRecDepth 20000 in
theorem gX8_most_X8_worthOf : GoodIn wsX8_most (wsV RX8 87 RX8 yX8_worthOf wsX8_worthOf) := goodIn_app (goodIn_of _ (by decide +kernel)) ggX8_most_X8_worthOf
set_option maxRecDepth 20000 in
theorem ggX8_most_X8_isTight : GoodIn wsX8_most wsX8_isTight := goodIn_r _ [51, 4, 7, 37, 38, 39, 14, 40, 41, 42, 52, 53, 54, 55, 56, 57, 58, 59, 60, 61, 62, 63, 64, 65, 66, 67, 68, 69, 70, 71, 72, 73, 74, 75] (by decide +kernel) (by decide +kernel)
set_option maxRecDepth 20000 in
theorem gX8_most_X8_isTight : GoodIn wsX8_most (wsV RX8 118 RX8 yX8_isTight wsX8_isTight) := goodIn_app (goodIn_of _ (by decide +kernel)) ggX8_most_X8_isTight
set_option maxRecDepth 20000 in
theorem ggX8_most_X8_behind : GoodIn wsX8_most wsX8_behind := goodIn_r _ [29, 30, 31, 32, 33, 34, 14, 35, 3, 36, 52, 53, 54, 55, 56, 57, 58, 59, 60, 61, 62, 63, 64, 65, 66, 67, 68, 69, 70, 71, 72, 73, 74, 75] (by decide +kernel) (by decide +kernel)
set_option maxRecDepth 20000 in
theorem gX8_most_X8_behind : GoodIn wsX8_most (wsV RX8 103 RX8 yX8_behind wsX8_behind) := goodIn_app (goodIn_of _ (by decide +kernel)) ggX8_most_X8_behind
theorem dX8_most_0 : decode cX8_most 0 = .ok (.aload_n 0, 1) := by decide +kernel
theorem dX8_most_1 : decode cX8_most 1 = .ok (.iconst 0, 1) := by decide +kernel
theorem dX8_most_2 : decode cX8_most 2 = .ok (.putfield 63, 3) := by decide +kernel
theorem dX8_most_5 : decode cX8_most 5 = .ok (.iload_n 1, 1) := by decide +kernel
theorem dX8_most_6 : decode cX8_most 6 = .ok (.iconst 0, 1) := by decide +kernel
theorem dX8_most_7 : decode cX8_most 7 = .ok (.sipush 10000, 3) := by decide +kernel
theorem dX8_most_10 : decode cX8_most 10 = .ok (.invokestatic 69, 3) := by decide +kernel
theorem dX8_most_13 : decode cX8_most 13 = .ok (.ifCond .ne 5, 3) := by decide +kernel
theorem dX8_most_16 : decode cX8_most 16 = .ok (.iconst (-1), 1) := by decide +kernel
theorem dX8_most_17 : decode cX8_most 17 = .ok (.ireturn, 1) := by decide +kernel
theorem dX8_most_18 : decode cX8_most 18 = .ok (.aload_n 0, 1) := by decide +kernel
theorem dX8_most_19 : decode cX8_most 19 = .ok (.iconst (-1), 1) := by decide +kernel
theorem dX8_most_20 : decode cX8_most 20 = .ok (.putfield 107, 3) := by decide +kernel
theorem dX8_most_23 : decode cX8_most 23 = .ok (.iconst 1, 1) := by decide +kernel
theorem dX8_most_24 : decode cX8_most 24 = .ok (.aload_n 0, 1) := by decide +kernel
theorem dX8_most_25 : decode cX8_most 25 = .ok (.getfield 66, 3) := by decide +kernel
theorem dX8_most_28 : decode cX8_most 28 = .ok (.ishl, 1) := by decide +kernel
theorem dX8_most_29 : decode cX8_most 29 = .ok (.istore_n 2, 1) := by decide +kernel
theorem dX8_most_30 : decode cX8_most 30 = .ok (.iconst 0, 1) := by decide +kernel
theorem dX8_most_31 : decode cX8_most 31 = .ok (.istore_n 3, 1) := by decide +kernel
theorem dX8_most_32 : decode cX8_most 32 = .ok (.iload_n 3, 1) := by decide +kernel
theorem dX8_most_33 : decode cX8_most 33 = .ok (.iload_n 2, 1) := by decide +kernel
theorem dX8_most_34 : decode cX8_most 34 = .ok (.if_icmp .ge 36, 3) := by decide +kernel
theorem dX8_most_37 : decode cX8_most 37 = .ok (.aload_n 0, 1) := by decide +kernel
theorem dX8_most_38 : decode cX8_most 38 = .ok (.getfield 47, 3) := by decide +kernel
theorem dX8_most_41 : decode cX8_most 41 = .ok (.iload_n 3, 1) := by decide +kernel
theorem dX8_most_42 : decode cX8_most 42 = .ok (.iload_n 3, 1) := by decide +kernel
theorem dX8_most_43 : decode cX8_most 43 = .ok (.aload_n 0, 1) := by decide +kernel
theorem dX8_most_44 : decode cX8_most 44 = .ok (.getfield 84, 3) := by decide +kernel
theorem dX8_most_47 : decode cX8_most 47 = .ok (.if_icmp .ne 7, 3) := by decide +kernel
theorem dX8_most_50 : decode cX8_most 50 = .ok (.iconst 0, 1) := by decide +kernel
theorem dX8_most_51 : decode cX8_most 51 = .ok (.goto 5, 3) := by decide +kernel
theorem dX8_most_54 : decode cX8_most 54 = .ok (.ldc 110, 2) := by decide +kernel
theorem dX8_most_56 : decode cX8_most 56 = .ok (.iastore, 1) := by decide +kernel
theorem dX8_most_57 : decode cX8_most 57 = .ok (.aload_n 0, 1) := by decide +kernel
theorem dX8_most_58 : decode cX8_most 58 = .ok (.getfield 50, 3) := by decide +kernel
theorem dX8_most_61 : decode cX8_most 61 = .ok (.iload_n 3, 1) := by decide +kernel
theorem dX8_most_62 : decode cX8_most 62 = .ok (.iconst 0, 1) := by decide +kernel
theorem dX8_most_63 : decode cX8_most 63 = .ok (.iastore, 1) := by decide +kernel
theorem dX8_most_64 : decode cX8_most 64 = .ok (.iinc 3 1, 3) := by decide +kernel
theorem dX8_most_67 : decode cX8_most 67 = .ok (.goto (-35), 3) := by decide +kernel
theorem dX8_most_70 : decode cX8_most 70 = .ok (.aload_n 0, 1) := by decide +kernel
theorem dX8_most_71 : decode cX8_most 71 = .ok (.getfield 84, 3) := by decide +kernel
theorem dX8_most_74 : decode cX8_most 74 = .ok (.istore_n 3, 1) := by decide +kernel
theorem dX8_most_75 : decode cX8_most 75 = .ok (.iload_n 3, 1) := by decide +kernel
theorem dX8_most_76 : decode cX8_most 76 = .ok (.iload_n 2, 1) := by decide +kernel
theorem dX8_most_77 : decode cX8_most 77 = .ok (.if_icmp .ge 140, 3) := by decide +kernel
theorem dX8_most_80 : decode cX8_most 80 = .ok (.iconst 0, 1) := by decide +kernel
theorem dX8_most_81 : decode cX8_most 81 = .ok (.istore 4, 2) := by decide +kernel
theorem dX8_most_83 : decode cX8_most 83 = .ok (.iload 4, 2) := by decide +kernel
theorem dX8_most_85 : decode cX8_most 85 = .ok (.iconst 2, 1) := by decide +kernel
theorem dX8_most_86 : decode cX8_most 86 = .ok (.aload_n 0, 1) := by decide +kernel
theorem dX8_most_87 : decode cX8_most 87 = .ok (.getfield 73, 3) := by decide +kernel
theorem dX8_most_90 : decode cX8_most 90 = .ok (.imul, 1) := by decide +kernel
theorem dX8_most_91 : decode cX8_most 91 = .ok (.if_icmp .ge 120, 3) := by decide +kernel
theorem dX8_most_94 : decode cX8_most 94 = .ok (.aload_n 0, 1) := by decide +kernel
theorem dX8_most_95 : decode cX8_most 95 = .ok (.getfield 47, 3) := by decide +kernel
theorem dX8_most_98 : decode cX8_most 98 = .ok (.iload_n 3, 1) := by decide +kernel
theorem dX8_most_99 : decode cX8_most 99 = .ok (.iaload, 1) := by decide +kernel
theorem dX8_most_100 : decode cX8_most 100 = .ok (.ldc 110, 2) := by decide +kernel
theorem dX8_most_102 : decode cX8_most 102 = .ok (.if_icmp .ge 109, 3) := by decide +kernel
theorem dX8_most_105 : decode cX8_most 105 = .ok (.aload_n 0, 1) := by decide +kernel
theorem dX8_most_106 : decode cX8_most 106 = .ok (.iload 4, 2) := by decide +kernel
theorem dX8_most_108 : decode cX8_most 108 = .ok (.iload_n 3, 1) := by decide +kernel
theorem dX8_most_109 : decode cX8_most 109 = .ok (.invokevirtual 111, 3) := by decide +kernel
theorem dX8_most_112 : decode cX8_most 112 = .ok (.istore 5, 2) := by decide +kernel
theorem dX8_most_114 : decode cX8_most 114 = .ok (.iload 5, 2) := by decide +kernel
theorem dX8_most_116 : decode cX8_most 116 = .ok (.iconst (-1), 1) := by decide +kernel
theorem dX8_most_117 : decode cX8_most 117 = .ok (.if_icmp .ne 6, 3) := by decide +kernel
theorem dX8_most_120 : decode cX8_most 120 = .ok (.goto 85, 3) := by decide +kernel
theorem dX8_most_123 : decode cX8_most 123 = .ok (.aload_n 0, 1) := by decide +kernel
theorem dX8_most_124 : decode cX8_most 124 = .ok (.getfield 47, 3) := by decide +kernel
theorem dX8_most_127 : decode cX8_most 127 = .ok (.iload_n 3, 1) := by decide +kernel
theorem dX8_most_128 : decode cX8_most 128 = .ok (.iaload, 1) := by decide +kernel
theorem dX8_most_129 : decode cX8_most 129 = .ok (.aload_n 0, 1) := by decide +kernel
theorem dX8_most_130 : decode cX8_most 130 = .ok (.iload 4, 2) := by decide +kernel
theorem dX8_most_132 : decode cX8_most 132 = .ok (.invokevirtual 96, 3) := by decide +kernel
theorem dX8_most_135 : decode cX8_most 135 = .ok (.iadd, 1) := by decide +kernel
theorem dX8_most_136 : decode cX8_most 136 = .ok (.istore 6, 2) := by decide +kernel
theorem dX8_most_138 : decode cX8_most 138 = .ok (.aload_n 0, 1) := by decide +kernel
theorem dX8_most_139 : decode cX8_most 139 = .ok (.getfield 50, 3) := by decide +kernel
theorem dX8_most_142 : decode cX8_most 142 = .ok (.iload_n 3, 1) := by decide +kernel
theorem dX8_most_143 : decode cX8_most 143 = .ok (.iaload, 1) := by decide +kernel
theorem dX8_most_144 : decode cX8_most 144 = .ok (.iconst 1, 1) := by decide +kernel
theorem dX8_most_145 : decode cX8_most 145 = .ok (.iadd, 1) := by decide +kernel
theorem dX8_most_146 : decode cX8_most 146 = .ok (.istore 7, 2) := by decide +kernel
theorem dX8_most_148 : decode cX8_most 148 = .ok (.iload 6, 2) := by decide +kernel
theorem dX8_most_150 : decode cX8_most 150 = .ok (.aload_n 0, 1) := by decide +kernel
theorem dX8_most_151 : decode cX8_most 151 = .ok (.getfield 47, 3) := by decide +kernel
theorem dX8_most_154 : decode cX8_most 154 = .ok (.iload 5, 2) := by decide +kernel
theorem dX8_most_156 : decode cX8_most 156 = .ok (.iaload, 1) := by decide +kernel
theorem dX8_most_157 : decode cX8_most 157 = .ok (.if_icmp .gt 48, 3) := by decide +kernel
theorem dX8_most_160 : decode cX8_most 160 = .ok (.iload 6, 2) := by decide +kernel
theorem dX8_most_162 : decode cX8_most 162 = .ok (.aload_n 0, 1) := by decide +kernel
theorem dX8_most_163 : decode cX8_most 163 = .ok (.getfield 47, 3) := by decide +kernel
theorem dX8_most_166 : decode cX8_most 166 = .ok (.iload 5, 2) := by decide +kernel
theorem dX8_most_168 : decode cX8_most 168 = .ok (.iaload, 1) := by decide +kernel
theorem dX8_most_169 : decode cX8_most 169 = .ok (.if_icmp .ne 18, 3) := by decide +kernel
theorem dX8_most_172 : decode cX8_most 172 = .ok (.iload 7, 2) := by decide +kernel
theorem dX8_most_174 : decode cX8_most 174 = .ok (.aload_n 0, 1) := by decide +kernel
theorem dX8_most_175 : decode cX8_most 175 = .ok (.getfield 50, 3) := by decide +kernel
theorem dX8_most_178 : decode cX8_most 178 = .ok (.iload 5, 2) := by decide +kernel
theorem dX8_most_180 : decode cX8_most 180 = .ok (.iaload, 1) := by decide +kernel
theorem dX8_most_181 : decode cX8_most 181 = .ok (.if_icmp .lt 6, 3) := by decide +kernel
theorem dX8_most_184 : decode cX8_most 184 = .ok (.goto 21, 3) := by decide +kernel
theorem dX8_most_187 : decode cX8_most 187 = .ok (.aload_n 0, 1) := by decide +kernel
theorem dX8_most_188 : decode cX8_most 188 = .ok (.getfield 47, 3) := by decide +kernel
theorem dX8_most_191 : decode cX8_most 191 = .ok (.iload 5, 2) := by decide +kernel
theorem dX8_most_193 : decode cX8_most 193 = .ok (.iload 6, 2) := by decide +kernel
theorem dX8_most_195 : decode cX8_most 195 = .ok (.iastore, 1) := by decide +kernel
theorem dX8_most_196 : decode cX8_most 196 = .ok (.aload_n 0, 1) := by decide +kernel
theorem dX8_most_197 : decode cX8_most 197 = .ok (.getfield 50, 3) := by decide +kernel
theorem dX8_most_200 : decode cX8_most 200 = .ok (.iload 5, 2) := by decide +kernel
theorem dX8_most_202 : decode cX8_most 202 = .ok (.iload 7, 2) := by decide +kernel
theorem dX8_most_204 : decode cX8_most 204 = .ok (.iastore, 1) := by decide +kernel
theorem dX8_most_205 : decode cX8_most 205 = .ok (.iinc 4 1, 3) := by decide +kernel
theorem dX8_most_208 : decode cX8_most 208 = .ok (.goto (-125), 3) := by decide +kernel
theorem dX8_most_211 : decode cX8_most 211 = .ok (.iinc 3 1, 3) := by decide +kernel
theorem dX8_most_214 : decode cX8_most 214 = .ok (.goto (-139), 3) := by decide +kernel
theorem dX8_most_217 : decode cX8_most 217 = .ok (.aload_n 0, 1) := by decide +kernel
theorem dX8_most_218 : decode cX8_most 218 = .ok (.getfield 84, 3) := by decide +kernel
theorem dX8_most_221 : decode cX8_most 221 = .ok (.istore_n 3, 1) := by decide +kernel
theorem dX8_most_222 : decode cX8_most 222 = .ok (.iconst 0, 1) := by decide +kernel
theorem dX8_most_223 : decode cX8_most 223 = .ok (.istore 4, 2) := by decide +kernel
theorem dX8_most_225 : decode cX8_most 225 = .ok (.iload 4, 2) := by decide +kernel
theorem dX8_most_227 : decode cX8_most 227 = .ok (.iload_n 2, 1) := by decide +kernel
theorem dX8_most_228 : decode cX8_most 228 = .ok (.if_icmp .ge 87, 3) := by decide +kernel
theorem dX8_most_231 : decode cX8_most 231 = .ok (.aload_n 0, 1) := by decide +kernel
theorem dX8_most_232 : decode cX8_most 232 = .ok (.getfield 47, 3) := by decide +kernel
theorem dX8_most_235 : decode cX8_most 235 = .ok (.iload 4, 2) := by decide +kernel
theorem dX8_most_237 : decode cX8_most 237 = .ok (.iaload, 1) := by decide +kernel
theorem dX8_most_238 : decode cX8_most 238 = .ok (.iload_n 1, 1) := by decide +kernel
theorem dX8_most_239 : decode cX8_most 239 = .ok (.if_icmp .le 6, 3) := by decide +kernel
theorem dX8_most_242 : decode cX8_most 242 = .ok (.goto 67, 3) := by decide +kernel
theorem dX8_most_245 : decode cX8_most 245 = .ok (.aload_n 0, 1) := by decide +kernel
theorem dX8_most_246 : decode cX8_most 246 = .ok (.iload 4, 2) := by decide +kernel
theorem dX8_most_248 : decode cX8_most 248 = .ok (.invokevirtual 87, 3) := by decide +kernel
theorem dX8_most_251 : decode cX8_most 251 = .ok (.aload_n 0, 1) := by decide +kernel
theorem dX8_most_252 : decode cX8_most 252 = .ok (.iload_n 3, 1) := by decide +kernel
theorem dX8_most_253 : decode cX8_most 253 = .ok (.invokevirtual 87, 3) := by decide +kernel
theorem dX8_most_256 : decode cX8_most 256 = .ok (.isub, 1) := by decide +kernel
theorem dX8_most_257 : decode cX8_most 257 = .ok (.istore 5, 2) := by decide +kernel
theorem dX8_most_259 : decode cX8_most 259 = .ok (.iload 5, 2) := by decide +kernel
theorem dX8_most_261 : decode cX8_most 261 = .ok (.ifCond .ne 19, 3) := by decide +kernel
theorem dX8_most_264 : decode cX8_most 264 = .ok (.aload_n 0, 1) := by decide +kernel
theorem dX8_most_265 : decode cX8_most 265 = .ok (.getfield 47, 3) := by decide +kernel
theorem dX8_most_268 : decode cX8_most 268 = .ok (.iload_n 3, 1) := by decide +kernel
theorem dX8_most_269 : decode cX8_most 269 = .ok (.iaload, 1) := by decide +kernel
theorem dX8_most_270 : decode cX8_most 270 = .ok (.aload_n 0, 1) := by decide +kernel
theorem dX8_most_271 : decode cX8_most 271 = .ok (.getfield 47, 3) := by decide +kernel
theorem dX8_most_274 : decode cX8_most 274 = .ok (.iload 4, 2) := by decide +kernel
theorem dX8_most_276 : decode cX8_most 276 = .ok (.iaload, 1) := by decide +kernel
theorem dX8_most_277 : decode cX8_most 277 = .ok (.isub, 1) := by decide +kernel
theorem dX8_most_278 : decode cX8_most 278 = .ok (.istore 5, 2) := by decide +kernel
theorem dX8_most_280 : decode cX8_most 280 = .ok (.iload 5, 2) := by decide +kernel
theorem dX8_most_282 : decode cX8_most 282 = .ok (.ifCond .ne 19, 3) := by decide +kernel
theorem dX8_most_285 : decode cX8_most 285 = .ok (.aload_n 0, 1) := by decide +kernel
theorem dX8_most_286 : decode cX8_most 286 = .ok (.getfield 50, 3) := by decide +kernel
theorem dX8_most_289 : decode cX8_most 289 = .ok (.iload_n 3, 1) := by decide +kernel
theorem dX8_most_290 : decode cX8_most 290 = .ok (.iaload, 1) := by decide +kernel
theorem dX8_most_291 : decode cX8_most 291 = .ok (.aload_n 0, 1) := by decide +kernel
theorem dX8_most_292 : decode cX8_most 292 = .ok (.getfield 50, 3) := by decide +kernel
theorem dX8_most_295 : decode cX8_most 295 = .ok (.iload 4, 2) := by decide +kernel
theorem dX8_most_297 : decode cX8_most 297 = .ok (.iaload, 1) := by decide +kernel
theorem dX8_most_298 : decode cX8_most 298 = .ok (.isub, 1) := by decide +kernel
theorem dX8_most_299 : decode cX8_most 299 = .ok (.istore 5, 2) := by decide +kernel
theorem dX8_most_301 : decode cX8_most 301 = .ok (.iload 5, 2) := by decide +kernel
theorem dX8_most_303 : decode cX8_most 303 = .ok (.ifCond .le 6, 3) := by decide +kernel
theorem dX8_most_306 : decode cX8_most 306 = .ok (.iload 4, 2) := by decide +kernel
theorem dX8_most_308 : decode cX8_most 308 = .ok (.istore_n 3, 1) := by decide +kernel
theorem dX8_most_309 : decode cX8_most 309 = .ok (.iinc 4 1, 3) := by decide +kernel
theorem dX8_most_312 : decode cX8_most 312 = .ok (.goto (-87), 3) := by decide +kernel
theorem dX8_most_315 : decode cX8_most 315 = .ok (.aload_n 0, 1) := by decide +kernel
theorem dX8_most_316 : decode cX8_most 316 = .ok (.iload_n 3, 1) := by decide +kernel
theorem dX8_most_317 : decode cX8_most 317 = .ok (.invokevirtual 87, 3) := by decide +kernel
theorem dX8_most_320 : decode cX8_most 320 = .ok (.istore 4, 2) := by decide +kernel
theorem dX8_most_322 : decode cX8_most 322 = .ok (.iload_n 2, 1) := by decide +kernel
theorem dX8_most_323 : decode cX8_most 323 = .ok (.iconst 1, 1) := by decide +kernel
theorem dX8_most_324 : decode cX8_most 324 = .ok (.isub, 1) := by decide +kernel
theorem dX8_most_325 : decode cX8_most 325 = .ok (.istore 5, 2) := by decide +kernel
theorem dX8_most_327 : decode cX8_most 327 = .ok (.iload 5, 2) := by decide +kernel
theorem dX8_most_329 : decode cX8_most 329 = .ok (.ifCond .lt 157, 3) := by decide +kernel
theorem dX8_most_332 : decode cX8_most 332 = .ok (.aload_n 0, 1) := by decide +kernel
theorem dX8_most_333 : decode cX8_most 333 = .ok (.getfield 53, 3) := by decide +kernel
theorem dX8_most_336 : decode cX8_most 336 = .ok (.iload 5, 2) := by decide +kernel
theorem dX8_most_338 : decode cX8_most 338 = .ok (.aload_n 0, 1) := by decide +kernel
theorem dX8_most_339 : decode cX8_most 339 = .ok (.getfield 47, 3) := by decide +kernel
theorem dX8_most_342 : decode cX8_most 342 = .ok (.iload 5, 2) := by decide +kernel
theorem dX8_most_344 : decode cX8_most 344 = .ok (.iaload, 1) := by decide +kernel
theorem dX8_most_345 : decode cX8_most 345 = .ok (.aload_n 0, 1) := by decide +kernel
theorem dX8_most_346 : decode cX8_most 346 = .ok (.getfield 47, 3) := by decide +kernel
theorem dX8_most_349 : decode cX8_most 349 = .ok (.iload_n 3, 1) := by decide +kernel
theorem dX8_most_350 : decode cX8_most 350 = .ok (.iaload, 1) := by decide +kernel
theorem dX8_most_351 : decode cX8_most 351 = .ok (.if_icmp .ne 34, 3) := by decide +kernel
theorem dX8_most_354 : decode cX8_most 354 = .ok (.aload_n 0, 1) := by decide +kernel
theorem dX8_most_355 : decode cX8_most 355 = .ok (.getfield 50, 3) := by decide +kernel
theorem dX8_most_358 : decode cX8_most 358 = .ok (.iload 5, 2) := by decide +kernel
theorem dX8_most_360 : decode cX8_most 360 = .ok (.iaload, 1) := by decide +kernel
theorem dX8_most_361 : decode cX8_most 361 = .ok (.aload_n 0, 1) := by decide +kernel
theorem dX8_most_362 : decode cX8_most 362 = .ok (.getfield 50, 3) := by decide +kernel
theorem dX8_most_365 : decode cX8_most 365 = .ok (.iload_n 3, 1) := by decide +kernel
theorem dX8_most_366 : decode cX8_most 366 = .ok (.iaload, 1) := by decide +kernel
theorem dX8_most_367 : decode cX8_most 367 = .ok (.if_icmp .ne 18, 3) := by decide +kernel
theorem dX8_most_370 : decode cX8_most 370 = .ok (.aload_n 0, 1) := by decide +kernel
theorem dX8_most_371 : decode cX8_most 371 = .ok (.iload 5, 2) := by decide +kernel
theorem dX8_most_373 : decode cX8_most 373 = .ok (.invokevirtual 87, 3) := by decide +kernel
theorem dX8_most_376 : decode cX8_most 376 = .ok (.iload 4, 2) := by decide +kernel
theorem dX8_most_378 : decode cX8_most 378 = .ok (.if_icmp .ne 7, 3) := by decide +kernel
theorem dX8_most_381 : decode cX8_most 381 = .ok (.iconst 1, 1) := by decide +kernel
theorem dX8_most_382 : decode cX8_most 382 = .ok (.goto 4, 3) := by decide +kernel
theorem dX8_most_385 : decode cX8_most 385 = .ok (.iconst 0, 1) := by decide +kernel
theorem dX8_most_386 : decode cX8_most 386 = .ok (.bastore, 1) := by decide +kernel
theorem dX8_most_387 : decode cX8_most 387 = .ok (.iconst 0, 1) := by decide +kernel
theorem dX8_most_388 : decode cX8_most 388 = .ok (.istore 6, 2) := by decide +kernel
theorem dX8_most_390 : decode cX8_most 390 = .ok (.iload 6, 2) := by decide +kernel
theorem dX8_most_392 : decode cX8_most 392 = .ok (.iconst 2, 1) := by decide +kernel
theorem dX8_most_393 : decode cX8_most 393 = .ok (.aload_n 0, 1) := by decide +kernel
theorem dX8_most_394 : decode cX8_most 394 = .ok (.getfield 73, 3) := by decide +kernel
theorem dX8_most_397 : decode cX8_most 397 = .ok (.imul, 1) := by decide +kernel
theorem dX8_most_398 : decode cX8_most 398 = .ok (.if_icmp .ge 82, 3) := by decide +kernel
theorem dX8_most_401 : decode cX8_most 401 = .ok (.aload_n 0, 1) := by decide +kernel
theorem dX8_most_402 : decode cX8_most 402 = .ok (.getfield 47, 3) := by decide +kernel
theorem dX8_most_405 : decode cX8_most 405 = .ok (.iload 5, 2) := by decide +kernel
theorem dX8_most_407 : decode cX8_most 407 = .ok (.iaload, 1) := by decide +kernel
theorem dX8_most_408 : decode cX8_most 408 = .ok (.ldc 110, 2) := by decide +kernel
theorem dX8_most_410 : decode cX8_most 410 = .ok (.if_icmp .ge 70, 3) := by decide +kernel
theorem dX8_most_413 : decode cX8_most 413 = .ok (.aload_n 0, 1) := by decide +kernel
theorem dX8_most_414 : decode cX8_most 414 = .ok (.getfield 53, 3) := by decide +kernel
theorem dX8_most_417 : decode cX8_most 417 = .ok (.iload 5, 2) := by decide +kernel
theorem dX8_most_419 : decode cX8_most 419 = .ok (.baload, 1) := by decide +kernel
theorem dX8_most_420 : decode cX8_most 420 = .ok (.ifCond .ne 60, 3) := by decide +kernel
theorem dX8_most_423 : decode cX8_most 423 = .ok (.aload_n 0, 1) := by decide +kernel
theorem dX8_most_424 : decode cX8_most 424 = .ok (.iload 6, 2) := by decide +kernel
theorem dX8_most_426 : decode cX8_most 426 = .ok (.iload 5, 2) := by decide +kernel
theorem dX8_most_428 : decode cX8_most 428 = .ok (.invokevirtual 111, 3) := by decide +kernel
theorem dX8_most_431 : decode cX8_most 431 = .ok (.istore 7, 2) := by decide +kernel
theorem dX8_most_433 : decode cX8_most 433 = .ok (.aload_n 0, 1) := by decide +kernel
theorem dX8_most_434 : decode cX8_most 434 = .ok (.getfield 53, 3) := by decide +kernel
theorem dX8_most_437 : decode cX8_most 437 = .ok (.iload 5, 2) := by decide +kernel
theorem dX8_most_439 : decode cX8_most 439 = .ok (.iload 7, 2) := by decide +kernel
theorem dX8_most_441 : decode cX8_most 441 = .ok (.iconst (-1), 1) := by decide +kernel
theorem dX8_most_442 : decode cX8_most 442 = .ok (.if_icmp .eq 30, 3) := by decide +kernel
theorem dX8_most_445 : decode cX8_most 445 = .ok (.aload_n 0, 1) := by decide +kernel
theorem dX8_most_446 : decode cX8_most 446 = .ok (.getfield 53, 3) := by decide +kernel
theorem dX8_most_449 : decode cX8_most 449 = .ok (.iload 7, 2) := by decide +kernel
theorem dX8_most_451 : decode cX8_most 451 = .ok (.baload, 1) := by decide +kernel
theorem dX8_most_452 : decode cX8_most 452 = .ok (.ifCond .eq 20, 3) := by decide +kernel
theorem dX8_most_455 : decode cX8_most 455 = .ok (.aload_n 0, 1) := by decide +kernel
theorem dX8_most_456 : decode cX8_most 456 = .ok (.iload 6, 2) := by decide +kernel
theorem dX8_most_458 : decode cX8_most 458 = .ok (.iload 5, 2) := by decide +kernel
theorem dX8_most_460 : decode cX8_most 460 = .ok (.iload 7, 2) := by decide +kernel
theorem dX8_most_462 : decode cX8_most 462 = .ok (.invokevirtual 118, 3) := by decide +kernel
theorem dX8_most_465 : decode cX8_most 465 = .ok (.ifCond .eq 7, 3) := by decide +kernel
theorem dX8_most_468 : decode cX8_most 468 = .ok (.iconst 1, 1) := by decide +kernel
theorem dX8_most_469 : decode cX8_most 469 = .ok (.goto 4, 3) := by decide +kernel
theorem dX8_most_472 : decode cX8_most 472 = .ok (.iconst 0, 1) := by decide +kernel
theorem dX8_most_473 : decode cX8_most 473 = .ok (.bastore, 1) := by decide +kernel
theorem dX8_most_474 : decode cX8_most 474 = .ok (.iinc 6 1, 3) := by decide +kernel
theorem dX8_most_477 : decode cX8_most 477 = .ok (.goto (-87), 3) := by decide +kernel
theorem dX8_most_480 : decode cX8_most 480 = .ok (.iinc 5 (-1), 3) := by decide +kernel
theorem dX8_most_483 : decode cX8_most 483 = .ok (.goto (-156), 3) := by decide +kernel
theorem dX8_most_486 : decode cX8_most 486 = .ok (.iconst 0, 1) := by decide +kernel
theorem dX8_most_487 : decode cX8_most 487 = .ok (.istore 5, 2) := by decide +kernel
theorem dX8_most_489 : decode cX8_most 489 = .ok (.aload_n 0, 1) := by decide +kernel
theorem dX8_most_490 : decode cX8_most 490 = .ok (.getfield 84, 3) := by decide +kernel
theorem dX8_most_493 : decode cX8_most 493 = .ok (.istore 6, 2) := by decide +kernel
theorem dX8_most_495 : decode cX8_most 495 = .ok (.iload 5, 2) := by decide +kernel
theorem dX8_most_497 : decode cX8_most 497 = .ok (.aload_n 0, 1) := by decide +kernel
theorem dX8_most_498 : decode cX8_most 498 = .ok (.getfield 50, 3) := by decide +kernel
theorem dX8_most_501 : decode cX8_most 501 = .ok (.iload_n 3, 1) := by decide +kernel
theorem dX8_most_502 : decode cX8_most 502 = .ok (.iaload, 1) := by decide +kernel
theorem dX8_most_503 : decode cX8_most 503 = .ok (.if_icmp .ge 79, 3) := by decide +kernel
theorem dX8_most_506 : decode cX8_most 506 = .ok (.iconst 0, 1) := by decide +kernel
theorem dX8_most_507 : decode cX8_most 507 = .ok (.istore 7, 2) := by decide +kernel
theorem dX8_most_509 : decode cX8_most 509 = .ok (.aload_n 0, 1) := by decide +kernel
theorem dX8_most_510 : decode cX8_most 510 = .ok (.iload 7, 2) := by decide +kernel
theorem dX8_most_512 : decode cX8_most 512 = .ok (.iload 6, 2) := by decide +kernel
theorem dX8_most_514 : decode cX8_most 514 = .ok (.invokevirtual 111, 3) := by decide +kernel
theorem dX8_most_517 : decode cX8_most 517 = .ok (.istore 8, 2) := by decide +kernel
theorem dX8_most_519 : decode cX8_most 519 = .ok (.iload 8, 2) := by decide +kernel
theorem dX8_most_521 : decode cX8_most 521 = .ok (.iconst (-1), 1) := by decide +kernel
theorem dX8_most_522 : decode cX8_most 522 = .ok (.if_icmp .eq 29, 3) := by decide +kernel
theorem dX8_most_525 : decode cX8_most 525 = .ok (.aload_n 0, 1) := by decide +kernel
theorem dX8_most_526 : decode cX8_most 526 = .ok (.getfield 53, 3) := by decide +kernel
theorem dX8_most_529 : decode cX8_most 529 = .ok (.iload 8, 2) := by decide +kernel
theorem dX8_most_531 : decode cX8_most 531 = .ok (.baload, 1) := by decide +kernel
theorem dX8_most_532 : decode cX8_most 532 = .ok (.ifCond .eq 19, 3) := by decide +kernel
theorem dX8_most_535 : decode cX8_most 535 = .ok (.aload_n 0, 1) := by decide +kernel
theorem dX8_most_536 : decode cX8_most 536 = .ok (.iload 7, 2) := by decide +kernel
theorem dX8_most_538 : decode cX8_most 538 = .ok (.iload 6, 2) := by decide +kernel
theorem dX8_most_540 : decode cX8_most 540 = .ok (.iload 8, 2) := by decide +kernel
theorem dX8_most_542 : decode cX8_most 542 = .ok (.invokevirtual 118, 3) := by decide +kernel
theorem dX8_most_545 : decode cX8_most 545 = .ok (.ifCond .eq 6, 3) := by decide +kernel
theorem dX8_most_548 : decode cX8_most 548 = .ok (.goto 9, 3) := by decide +kernel
theorem dX8_most_551 : decode cX8_most 551 = .ok (.iinc 7 1, 3) := by decide +kernel
theorem dX8_most_554 : decode cX8_most 554 = .ok (.goto (-45), 3) := by decide +kernel
theorem dX8_most_557 : decode cX8_most 557 = .ok (.aload_n 0, 1) := by decide +kernel
theorem dX8_most_558 : decode cX8_most 558 = .ok (.getfield 35, 3) := by decide +kernel
theorem dX8_most_561 : decode cX8_most 561 = .ok (.iload 5, 2) := by decide +kernel
theorem dX8_most_563 : decode cX8_most 563 = .ok (.iload 7, 2) := by decide +kernel
theorem dX8_most_565 : decode cX8_most 565 = .ok (.iastore, 1) := by decide +kernel
theorem dX8_most_566 : decode cX8_most 566 = .ok (.iinc 5 1, 3) := by decide +kernel
theorem dX8_most_569 : decode cX8_most 569 = .ok (.aload_n 0, 1) := by decide +kernel
theorem dX8_most_570 : decode cX8_most 570 = .ok (.iload 7, 2) := by decide +kernel
theorem dX8_most_572 : decode cX8_most 572 = .ok (.iload 6, 2) := by decide +kernel
theorem dX8_most_574 : decode cX8_most 574 = .ok (.invokevirtual 103, 3) := by decide +kernel
theorem dX8_most_577 : decode cX8_most 577 = .ok (.istore 6, 2) := by decide +kernel
theorem dX8_most_579 : decode cX8_most 579 = .ok (.goto (-84), 3) := by decide +kernel
theorem dX8_most_582 : decode cX8_most 582 = .ok (.aload_n 0, 1) := by decide +kernel
theorem dX8_most_583 : decode cX8_most 583 = .ok (.iload 5, 2) := by decide +kernel
theorem dX8_most_585 : decode cX8_most 585 = .ok (.putfield 90, 3) := by decide +kernel
theorem dX8_most_588 : decode cX8_most 588 = .ok (.iload 4, 2) := by decide +kernel
theorem dX8_most_590 : decode cX8_most 590 = .ok (.ireturn, 1) := by decide +kernel
set_option maxRecDepth 20000 in
theorem ggX8_reached_X8_canDo : GoodIn wsX8_reached wsX8_canDo := goodIn_r _ [7, 8, 9, 22, 23, 24, 25, 26, 27, 28, 29, 30, 31, 32, 33, 34, 35, 36, 37, 38, 39, 40, 41, 42, 43, 44, 45] (by decide +kernel) (by decide +kernel)
set_option maxRecDepth 20000 in
theorem gX8_reached_X8_canDo : GoodIn wsX8_reached (wsV RX8 99 RX8 yX8_canDo wsX8_canDo) := goodIn_app (goodIn_of _ (by decide +kernel)) ggX8_reached_X8_canDo
set_option maxRecDepth 20000 in
theorem ggX8_reached_X8_behind : GoodIn wsX8_reached wsX8_behind := goodIn_r _ [13, 14, 15, 16, 17, 18, 6, 19, 20, 21, 22, 23, 24, 25, 26, 27, 28, 29, 30, 31, 32, 33, 34, 35, 36, 37, 38, 39, 40, 41, 42, 43, 44, 45] (by decide +kernel) (by decide +kernel)
set_option maxRecDepth 20000 in
theorem gX8_reached_X8_behind : GoodIn wsX8_reached (wsV RX8 103 RX8 yX8_behind wsX8_behind) := goodIn_app (goodIn_of _ (by decide +kernel)) ggX8_reached_X8_behind
theorem dX8_reached_0 : decode cX8_reached 0 = .ok (.aload_n 0, 1) := by decide +kernel
theorem dX8_reached_1 : decode cX8_reached 1 = .ok (.getfield 84, 3) := by decide +kernel
theorem dX8_reached_4 : decode cX8_reached 4 = .ok (.istore_n 1, 1) := by decide +kernel
theorem dX8_reached_5 : decode cX8_reached 5 = .ok (.iconst 1, 1) := by decide +kernel
theorem dX8_reached_6 : decode cX8_reached 6 = .ok (.istore_n 2, 1) := by decide +kernel
theorem dX8_reached_7 : decode cX8_reached 7 = .ok (.iload_n 2, 1) := by decide +kernel
theorem dX8_reached_8 : decode cX8_reached 8 = .ok (.ifCond .eq 57, 3) := by decide +kernel
theorem dX8_reached_11 : decode cX8_reached 11 = .ok (.iload_n 1, 1) := by decide +kernel
theorem dX8_reached_12 : decode cX8_reached 12 = .ok (.istore_n 3, 1) := by decide +kernel
theorem dX8_reached_13 : decode cX8_reached 13 = .ok (.iconst 0, 1) := by decide +kernel
theorem dX8_reached_14 : decode cX8_reached 14 = .ok (.istore 4, 2) := by decide +kernel
theorem dX8_reached_16 : decode cX8_reached 16 = .ok (.iload 4, 2) := by decide +kernel
theorem dX8_reached_18 : decode cX8_reached 18 = .ok (.iconst 2, 1) := by decide +kernel
theorem dX8_reached_19 : decode cX8_reached 19 = .ok (.aload_n 0, 1) := by decide +kernel
theorem dX8_reached_20 : decode cX8_reached 20 = .ok (.getfield 73, 3) := by decide +kernel
theorem dX8_reached_23 : decode cX8_reached 23 = .ok (.imul, 1) := by decide +kernel
theorem dX8_reached_24 : decode cX8_reached 24 = .ok (.if_icmp .ge 27, 3) := by decide +kernel
theorem dX8_reached_27 : decode cX8_reached 27 = .ok (.aload_n 0, 1) := by decide +kernel
theorem dX8_reached_28 : decode cX8_reached 28 = .ok (.iload 4, 2) := by decide +kernel
theorem dX8_reached_30 : decode cX8_reached 30 = .ok (.iload_n 1, 1) := by decide +kernel
theorem dX8_reached_31 : decode cX8_reached 31 = .ok (.invokevirtual 99, 3) := by decide +kernel
theorem dX8_reached_34 : decode cX8_reached 34 = .ok (.ifCond .eq 11, 3) := by decide +kernel
theorem dX8_reached_37 : decode cX8_reached 37 = .ok (.aload_n 0, 1) := by decide +kernel
theorem dX8_reached_38 : decode cX8_reached 38 = .ok (.iload 4, 2) := by decide +kernel
theorem dX8_reached_40 : decode cX8_reached 40 = .ok (.iload_n 1, 1) := by decide +kernel
theorem dX8_reached_41 : decode cX8_reached 41 = .ok (.invokevirtual 103, 3) := by decide +kernel
theorem dX8_reached_44 : decode cX8_reached 44 = .ok (.istore_n 1, 1) := by decide +kernel
theorem dX8_reached_45 : decode cX8_reached 45 = .ok (.iinc 4 2, 3) := by decide +kernel
theorem dX8_reached_48 : decode cX8_reached 48 = .ok (.goto (-32), 3) := by decide +kernel
theorem dX8_reached_51 : decode cX8_reached 51 = .ok (.iload_n 1, 1) := by decide +kernel
theorem dX8_reached_52 : decode cX8_reached 52 = .ok (.iload_n 3, 1) := by decide +kernel
theorem dX8_reached_53 : decode cX8_reached 53 = .ok (.if_icmp .eq 7, 3) := by decide +kernel
theorem dX8_reached_56 : decode cX8_reached 56 = .ok (.iconst 1, 1) := by decide +kernel
theorem dX8_reached_57 : decode cX8_reached 57 = .ok (.goto 4, 3) := by decide +kernel
theorem dX8_reached_60 : decode cX8_reached 60 = .ok (.iconst 0, 1) := by decide +kernel
theorem dX8_reached_61 : decode cX8_reached 61 = .ok (.istore_n 2, 1) := by decide +kernel
theorem dX8_reached_62 : decode cX8_reached 62 = .ok (.goto (-55), 3) := by decide +kernel
theorem dX8_reached_65 : decode cX8_reached 65 = .ok (.iload_n 1, 1) := by decide +kernel
theorem dX8_reached_66 : decode cX8_reached 66 = .ok (.ireturn, 1) := by decide +kernel
set_option maxRecDepth 20000 in
theorem ggX8_reach_X8_reached : GoodIn wsX8_reach wsX8_reached := goodIn_r _ [6, 7, 8, 9, 10, 11, 5, 12, 13, 14, 15, 16, 17, 18, 19, 20, 21, 22, 23, 24, 25, 26, 27, 28, 29, 30, 31, 32, 33, 34, 35, 36, 37, 38, 39, 40, 41, 42, 43, 44, 45, 46, 47, 48, 49, 50] (by decide +kernel) (by decide +kernel)
set_option maxRecDepth 20000 in
theorem gX8_reach_X8_reached : GoodIn wsX8_reach (wsV RX8 121 RX8 yX8_reached wsX8_reached) := goodIn_app (goodIn_of _ (by decide +kernel)) ggX8_reach_X8_reached
theorem dX8_reach_0 : decode cX8_reach 0 = .ok (.aload_n 0, 1) := by decide +kernel
theorem dX8_reach_1 : decode cX8_reach 1 = .ok (.iconst 0, 1) := by decide +kernel
theorem dX8_reach_2 : decode cX8_reach 2 = .ok (.putfield 63, 3) := by decide +kernel
theorem dX8_reach_5 : decode cX8_reach 5 = .ok (.aload_n 0, 1) := by decide +kernel
theorem dX8_reach_6 : decode cX8_reach 6 = .ok (.invokevirtual 121, 3) := by decide +kernel
theorem dX8_reach_9 : decode cX8_reach 9 = .ok (.ireturn, 1) := by decide +kernel
set_option maxRecDepth 20000 in
theorem ggX8_gaps_X8_withAll : GoodIn wsX8_gaps wsX8_withAll := goodIn_r _ [10, 11, 12, 13, 14, 15, 16, 17, 18, 19, 20, 21, 22, 23, 24, 25, 26, 27, 28, 29, 30, 31, 32, 33, 34, 35, 36] (by decide +kernel) (by decide +kernel)
set_option maxRecDepth 20000 in
theorem gX8_gaps_X8_withAll : GoodIn wsX8_gaps (wsV RX8 80 RX8 yX8_withAll wsX8_withAll) := goodIn_app (goodIn_of _ (by decide +kernel)) ggX8_gaps_X8_withAll
theorem dX8_gaps_0 : decode cX8_gaps 0 = .ok (.aload_n 0, 1) := by decide +kernel
theorem dX8_gaps_1 : decode cX8_gaps 1 = .ok (.iconst 0, 1) := by decide +kernel
theorem dX8_gaps_2 : decode cX8_gaps 2 = .ok (.putfield 63, 3) := by decide +kernel
theorem dX8_gaps_5 : decode cX8_gaps 5 = .ok (.iconst 0, 1) := by decide +kernel
theorem dX8_gaps_6 : decode cX8_gaps 6 = .ok (.istore_n 1, 1) := by decide +kernel
theorem dX8_gaps_7 : decode cX8_gaps 7 = .ok (.aload_n 0, 1) := by decide +kernel
theorem dX8_gaps_8 : decode cX8_gaps 8 = .ok (.getfield 84, 3) := by decide +kernel
theorem dX8_gaps_11 : decode cX8_gaps 11 = .ok (.istore_n 2, 1) := by decide +kernel
theorem dX8_gaps_12 : decode cX8_gaps 12 = .ok (.iconst 0, 1) := by decide +kernel
theorem dX8_gaps_13 : decode cX8_gaps 13 = .ok (.istore_n 3, 1) := by decide +kernel
theorem dX8_gaps_14 : decode cX8_gaps 14 = .ok (.iload_n 3, 1) := by decide +kernel
theorem dX8_gaps_15 : decode cX8_gaps 15 = .ok (.aload_n 0, 1) := by decide +kernel
theorem dX8_gaps_16 : decode cX8_gaps 16 = .ok (.getfield 73, 3) := by decide +kernel
theorem dX8_gaps_19 : decode cX8_gaps 19 = .ok (.if_icmp .ge 31, 3) := by decide +kernel
theorem dX8_gaps_22 : decode cX8_gaps 22 = .ok (.iload_n 1, 1) := by decide +kernel
theorem dX8_gaps_23 : decode cX8_gaps 23 = .ok (.aload_n 0, 1) := by decide +kernel
theorem dX8_gaps_24 : decode cX8_gaps 24 = .ok (.getfield 16, 3) := by decide +kernel
theorem dX8_gaps_27 : decode cX8_gaps 27 = .ok (.iload_n 3, 1) := by decide +kernel
theorem dX8_gaps_28 : decode cX8_gaps 28 = .ok (.iaload, 1) := by decide +kernel
theorem dX8_gaps_29 : decode cX8_gaps 29 = .ok (.ior, 1) := by decide +kernel
theorem dX8_gaps_30 : decode cX8_gaps 30 = .ok (.istore_n 1, 1) := by decide +kernel
theorem dX8_gaps_31 : decode cX8_gaps 31 = .ok (.iload_n 2, 1) := by decide +kernel
theorem dX8_gaps_32 : decode cX8_gaps 32 = .ok (.aload_n 0, 1) := by decide +kernel
theorem dX8_gaps_33 : decode cX8_gaps 33 = .ok (.aload_n 0, 1) := by decide +kernel
theorem dX8_gaps_34 : decode cX8_gaps 34 = .ok (.getfield 22, 3) := by decide +kernel
theorem dX8_gaps_37 : decode cX8_gaps 37 = .ok (.iload_n 3, 1) := by decide +kernel
theorem dX8_gaps_38 : decode cX8_gaps 38 = .ok (.iaload, 1) := by decide +kernel
theorem dX8_gaps_39 : decode cX8_gaps 39 = .ok (.invokevirtual 80, 3) := by decide +kernel
theorem dX8_gaps_42 : decode cX8_gaps 42 = .ok (.ior, 1) := by decide +kernel
theorem dX8_gaps_43 : decode cX8_gaps 43 = .ok (.istore_n 2, 1) := by decide +kernel
theorem dX8_gaps_44 : decode cX8_gaps 44 = .ok (.iinc 3 1, 3) := by decide +kernel
theorem dX8_gaps_47 : decode cX8_gaps 47 = .ok (.goto (-33), 3) := by decide +kernel
theorem dX8_gaps_50 : decode cX8_gaps 50 = .ok (.iload_n 1, 1) := by decide +kernel
theorem dX8_gaps_51 : decode cX8_gaps 51 = .ok (.iload_n 2, 1) := by decide +kernel
theorem dX8_gaps_52 : decode cX8_gaps 52 = .ok (.iconst (-1), 1) := by decide +kernel
theorem dX8_gaps_53 : decode cX8_gaps 53 = .ok (.ixor, 1) := by decide +kernel
theorem dX8_gaps_54 : decode cX8_gaps 54 = .ok (.iand, 1) := by decide +kernel
theorem dX8_gaps_55 : decode cX8_gaps 55 = .ok (.ireturn, 1) := by decide +kernel
set_option maxRecDepth 20000 in
theorem ggX8_shortens_X8_in : GoodIn wsX8_shortens wsX8_in := goodIn_r _ [9] (by decide +kernel) (by decide +kernel)
set_option maxRecDepth 20000 in
theorem gX8_shortens_X8_in : GoodIn wsX8_shortens (va_wsS RX8 69 yX8_in wsX8_in) := goodIn_app (goodIn_of _ (by decide +kernel)) ggX8_shortens_X8_in
set_option maxRecDepth 20000 in
theorem ggX8_shortens_X8_areBits : GoodIn wsX8_shortens wsX8_areBits := goodIn_r _ [13, 14, 6, 7, 8, 9, 48, 49, 50, 51, 52, 53, 54, 55, 56, 57, 58, 59, 60, 61, 62, 63, 64, 65, 66, 67, 68, 69, 70, 71] (by decide +kernel) (by decide +kernel)
set_option maxRecDepth 20000 in
theorem gX8_shortens_X8_areBits : GoodIn wsX8_shortens (wsV RX8 76 RX8 yX8_areBits wsX8_areBits) := goodIn_app (goodIn_of _ (by decide +kernel)) ggX8_shortens_X8_areBits
set_option maxRecDepth 20000 in
theorem ggX8_shortens_X8_findWays : GoodIn wsX8_shortens wsX8_findWays := goodIn_r _ [18, 19, 14, 3, 5, 20, 2, 21, 22, 23, 8, 24, 25, 26, 27, 28, 29, 30, 31, 32, 33, 34, 35, 36, 37, 38, 39, 40, 41, 42, 43, 44, 45, 46, 47, 48, 49, 50, 51, 52, 53, 54, 55, 56, 57, 58, 59, 60, 61, 62, 63, 64, 65, 66, 67, 68, 69, 70, 71] (by decide +kernel) (by decide +kernel)
set_option maxRecDepth 20000 in
theorem gX8_shortens_X8_findWays : GoodIn wsX8_shortens (wsV RX8 114 RX8 yX8_findWays wsX8_findWays) := goodIn_app (goodIn_of _ (by decide +kernel)) ggX8_shortens_X8_findWays
theorem dX8_shortens_0 : decode cX8_shortens 0 = .ok (.aload_n 0, 1) := by decide +kernel
theorem dX8_shortens_1 : decode cX8_shortens 1 = .ok (.iconst 0, 1) := by decide +kernel
theorem dX8_shortens_2 : decode cX8_shortens 2 = .ok (.putfield 63, 3) := by decide +kernel
theorem dX8_shortens_5 : decode cX8_shortens 5 = .ok (.iload_n 1, 1) := by decide +kernel
theorem dX8_shortens_6 : decode cX8_shortens 6 = .ok (.iconst 0, 1) := by decide +kernel
theorem dX8_shortens_7 : decode cX8_shortens 7 = .ok (.aload_n 0, 1) := by decide +kernel
theorem dX8_shortens_8 : decode cX8_shortens 8 = .ok (.getfield 73, 3) := by decide +kernel
theorem dX8_shortens_11 : decode cX8_shortens 11 = .ok (.iconst 1, 1) := by decide +kernel
theorem dX8_shortens_12 : decode cX8_shortens 12 = .ok (.isub, 1) := by decide +kernel
theorem dX8_shortens_13 : decode cX8_shortens 13 = .ok (.invokestatic 69, 3) := by decide +kernel
theorem dX8_shortens_16 : decode cX8_shortens 16 = .ok (.ifCond .eq 11, 3) := by decide +kernel
theorem dX8_shortens_19 : decode cX8_shortens 19 = .ok (.aload_n 0, 1) := by decide +kernel
theorem dX8_shortens_20 : decode cX8_shortens 20 = .ok (.iload_n 2, 1) := by decide +kernel
theorem dX8_shortens_21 : decode cX8_shortens 21 = .ok (.invokevirtual 76, 3) := by decide +kernel
theorem dX8_shortens_24 : decode cX8_shortens 24 = .ok (.ifCond .ne 5, 3) := by decide +kernel
theorem dX8_shortens_27 : decode cX8_shortens 27 = .ok (.iconst (-1), 1) := by decide +kernel
theorem dX8_shortens_28 : decode cX8_shortens 28 = .ok (.ireturn, 1) := by decide +kernel
theorem dX8_shortens_29 : decode cX8_shortens 29 = .ok (.aload_n 0, 1) := by decide +kernel
theorem dX8_shortens_30 : decode cX8_shortens 30 = .ok (.iload_n 2, 1) := by decide +kernel
theorem dX8_shortens_31 : decode cX8_shortens 31 = .ok (.iconst (-1), 1) := by decide +kernel
theorem dX8_shortens_32 : decode cX8_shortens 32 = .ok (.invokevirtual 114, 3) := by decide +kernel
theorem dX8_shortens_35 : decode cX8_shortens 35 = .ok (.aload_n 0, 1) := by decide +kernel
theorem dX8_shortens_36 : decode cX8_shortens 36 = .ok (.getfield 47, 3) := by decide +kernel
theorem dX8_shortens_39 : decode cX8_shortens 39 = .ok (.aload_n 0, 1) := by decide +kernel
theorem dX8_shortens_40 : decode cX8_shortens 40 = .ok (.getfield 84, 3) := by decide +kernel
theorem dX8_shortens_43 : decode cX8_shortens 43 = .ok (.iaload, 1) := by decide +kernel
theorem dX8_shortens_44 : decode cX8_shortens 44 = .ok (.istore_n 3, 1) := by decide +kernel
theorem dX8_shortens_45 : decode cX8_shortens 45 = .ok (.iload_n 3, 1) := by decide +kernel
theorem dX8_shortens_46 : decode cX8_shortens 46 = .ok (.ldc 110, 2) := by decide +kernel
theorem dX8_shortens_48 : decode cX8_shortens 48 = .ok (.if_icmp .ne 5, 3) := by decide +kernel
theorem dX8_shortens_51 : decode cX8_shortens 51 = .ok (.iconst (-1), 1) := by decide +kernel
theorem dX8_shortens_52 : decode cX8_shortens 52 = .ok (.ireturn, 1) := by decide +kernel
theorem dX8_shortens_53 : decode cX8_shortens 53 = .ok (.aload_n 0, 1) := by decide +kernel
theorem dX8_shortens_54 : decode cX8_shortens 54 = .ok (.iload_n 2, 1) := by decide +kernel
theorem dX8_shortens_55 : decode cX8_shortens 55 = .ok (.iload_n 1, 1) := by decide +kernel
theorem dX8_shortens_56 : decode cX8_shortens 56 = .ok (.invokevirtual 114, 3) := by decide +kernel
theorem dX8_shortens_59 : decode cX8_shortens 59 = .ok (.aload_n 0, 1) := by decide +kernel
theorem dX8_shortens_60 : decode cX8_shortens 60 = .ok (.getfield 47, 3) := by decide +kernel
theorem dX8_shortens_63 : decode cX8_shortens 63 = .ok (.aload_n 0, 1) := by decide +kernel
theorem dX8_shortens_64 : decode cX8_shortens 64 = .ok (.getfield 84, 3) := by decide +kernel
theorem dX8_shortens_67 : decode cX8_shortens 67 = .ok (.iaload, 1) := by decide +kernel
theorem dX8_shortens_68 : decode cX8_shortens 68 = .ok (.ldc 110, 2) := by decide +kernel
theorem dX8_shortens_70 : decode cX8_shortens 70 = .ok (.if_icmp .ne 8, 3) := by decide +kernel
theorem dX8_shortens_73 : decode cX8_shortens 73 = .ok (.bipush (-2), 2) := by decide +kernel
theorem dX8_shortens_75 : decode cX8_shortens 75 = .ok (.goto 14, 3) := by decide +kernel
theorem dX8_shortens_78 : decode cX8_shortens 78 = .ok (.aload_n 0, 1) := by decide +kernel
theorem dX8_shortens_79 : decode cX8_shortens 79 = .ok (.getfield 47, 3) := by decide +kernel
theorem dX8_shortens_82 : decode cX8_shortens 82 = .ok (.aload_n 0, 1) := by decide +kernel
theorem dX8_shortens_83 : decode cX8_shortens 83 = .ok (.getfield 84, 3) := by decide +kernel
theorem dX8_shortens_86 : decode cX8_shortens 86 = .ok (.iaload, 1) := by decide +kernel
theorem dX8_shortens_87 : decode cX8_shortens 87 = .ok (.iload_n 3, 1) := by decide +kernel
theorem dX8_shortens_88 : decode cX8_shortens 88 = .ok (.isub, 1) := by decide +kernel
theorem dX8_shortens_89 : decode cX8_shortens 89 = .ok (.ireturn, 1) := by decide +kernel
set_option maxRecDepth 20000 in
theorem ggX8_week_X8_in : GoodIn wsX8_week wsX8_in := goodIn_r _ [6] (by decide +kernel) (by decide +kernel)
set_option maxRecDepth 20000 in
theorem gX8_week_X8_in : GoodIn wsX8_week (va_wsS RX8 69 yX8_in wsX8_in) := goodIn_app (goodIn_of _ (by decide +kernel)) ggX8_week_X8_in
theorem dX8_week_0 : decode cX8_week 0 = .ok (.aload_n 0, 1) := by decide +kernel
theorem dX8_week_1 : decode cX8_week 1 = .ok (.iconst 0, 1) := by decide +kernel
theorem dX8_week_2 : decode cX8_week 2 = .ok (.putfield 63, 3) := by decide +kernel
theorem dX8_week_5 : decode cX8_week 5 = .ok (.iload_n 1, 1) := by decide +kernel
theorem dX8_week_6 : decode cX8_week 6 = .ok (.iconst 0, 1) := by decide +kernel
theorem dX8_week_7 : decode cX8_week 7 = .ok (.bipush 51, 2) := by decide +kernel
theorem dX8_week_9 : decode cX8_week 9 = .ok (.invokestatic 69, 3) := by decide +kernel
theorem dX8_week_12 : decode cX8_week 12 = .ok (.ifCond .eq 14, 3) := by decide +kernel
theorem dX8_week_15 : decode cX8_week 15 = .ok (.iload_n 2, 1) := by decide +kernel
theorem dX8_week_16 : decode cX8_week 16 = .ok (.iconst 0, 1) := by decide +kernel
theorem dX8_week_17 : decode cX8_week 17 = .ok (.sipush 3000, 3) := by decide +kernel
theorem dX8_week_20 : decode cX8_week 20 = .ok (.invokestatic 69, 3) := by decide +kernel
theorem dX8_week_23 : decode cX8_week 23 = .ok (.ifCond .ne 5, 3) := by decide +kernel
theorem dX8_week_26 : decode cX8_week 26 = .ok (.iconst 0, 1) := by decide +kernel
theorem dX8_week_27 : decode cX8_week 27 = .ok (.ireturn, 1) := by decide +kernel
theorem dX8_week_28 : decode cX8_week 28 = .ok (.aload_n 0, 1) := by decide +kernel
theorem dX8_week_29 : decode cX8_week 29 = .ok (.getfield 38, 3) := by decide +kernel
theorem dX8_week_32 : decode cX8_week 32 = .ok (.iload_n 1, 1) := by decide +kernel
theorem dX8_week_33 : decode cX8_week 33 = .ok (.iload_n 2, 1) := by decide +kernel
theorem dX8_week_34 : decode cX8_week 34 = .ok (.iastore, 1) := by decide +kernel
theorem dX8_week_35 : decode cX8_week 35 = .ok (.iconst 1, 1) := by decide +kernel
theorem dX8_week_36 : decode cX8_week 36 = .ok (.ireturn, 1) := by decide +kernel
set_option maxRecDepth 20000 in
theorem ggX8_lay_X8_in : GoodIn wsX8_lay wsX8_in := goodIn_r _ [11] (by decide +kernel) (by decide +kernel)
set_option maxRecDepth 20000 in
theorem gX8_lay_X8_in : GoodIn wsX8_lay (va_wsS RX8 69 yX8_in wsX8_in) := goodIn_app (goodIn_of _ (by decide +kernel)) ggX8_lay_X8_in
set_option maxRecDepth 20000 in
theorem ggX8_lay_X8_isStep : GoodIn wsX8_lay wsX8_isStep := goodIn_r _ [15, 16, 8, 9, 10, 11, 23, 24, 25, 26, 27, 28, 29, 30, 31, 32, 33, 34, 35, 36, 37, 38, 39, 40, 41, 42, 43, 44, 45, 46] (by decide +kernel) (by decide +kernel)
set_option maxRecDepth 20000 in
theorem gX8_lay_X8_isStep : GoodIn wsX8_lay (wsV RX8 93 RX8 yX8_isStep wsX8_isStep) := goodIn_app (goodIn_of _ (by decide +kernel)) ggX8_lay_X8_isStep
set_option maxRecDepth 20000 in
theorem ggX8_lay_X8_time : GoodIn wsX8_lay wsX8_time := goodIn_r _ [20, 21, 22, 23, 24, 25, 26, 27, 28, 29, 30, 31, 32, 33, 34, 35, 36, 37, 38, 39, 40, 41, 42, 43, 44, 45, 46] (by decide +kernel) (by decide +kernel)
set_option maxRecDepth 20000 in
theorem gX8_lay_X8_time : GoodIn wsX8_lay (wsV RX8 96 RX8 yX8_time wsX8_time) := goodIn_app (goodIn_of _ (by decide +kernel)) ggX8_lay_X8_time
theorem dX8_lay_0 : decode cX8_lay 0 = .ok (.aload_n 0, 1) := by decide +kernel
theorem dX8_lay_1 : decode cX8_lay 1 = .ok (.iconst 0, 1) := by decide +kernel
theorem dX8_lay_2 : decode cX8_lay 2 = .ok (.putfield 63, 3) := by decide +kernel
theorem dX8_lay_5 : decode cX8_lay 5 = .ok (.iload_n 1, 1) := by decide +kernel
theorem dX8_lay_6 : decode cX8_lay 6 = .ok (.iconst 0, 1) := by decide +kernel
theorem dX8_lay_7 : decode cX8_lay 7 = .ok (.bipush 51, 2) := by decide +kernel
theorem dX8_lay_9 : decode cX8_lay 9 = .ok (.invokestatic 69, 3) := by decide +kernel
theorem dX8_lay_12 : decode cX8_lay 12 = .ok (.ifCond .ne 5, 3) := by decide +kernel
theorem dX8_lay_15 : decode cX8_lay 15 = .ok (.iconst (-1), 1) := by decide +kernel
theorem dX8_lay_16 : decode cX8_lay 16 = .ok (.ireturn, 1) := by decide +kernel
theorem dX8_lay_17 : decode cX8_lay 17 = .ok (.iload_n 1, 1) := by decide +kernel
theorem dX8_lay_18 : decode cX8_lay 18 = .ok (.istore_n 2, 1) := by decide +kernel
theorem dX8_lay_19 : decode cX8_lay 19 = .ok (.iconst 0, 1) := by decide +kernel
theorem dX8_lay_20 : decode cX8_lay 20 = .ok (.istore_n 3, 1) := by decide +kernel
theorem dX8_lay_21 : decode cX8_lay 21 = .ok (.iconst 0, 1) := by decide +kernel
theorem dX8_lay_22 : decode cX8_lay 22 = .ok (.istore 4, 2) := by decide +kernel
theorem dX8_lay_24 : decode cX8_lay 24 = .ok (.iload 4, 2) := by decide +kernel
theorem dX8_lay_26 : decode cX8_lay 26 = .ok (.aload_n 0, 1) := by decide +kernel
theorem dX8_lay_27 : decode cX8_lay 27 = .ok (.getfield 90, 3) := by decide +kernel
theorem dX8_lay_30 : decode cX8_lay 30 = .ok (.if_icmp .ge 93, 3) := by decide +kernel
theorem dX8_lay_33 : decode cX8_lay 33 = .ok (.aload_n 0, 1) := by decide +kernel
theorem dX8_lay_34 : decode cX8_lay 34 = .ok (.aload_n 0, 1) := by decide +kernel
theorem dX8_lay_35 : decode cX8_lay 35 = .ok (.getfield 35, 3) := by decide +kernel
theorem dX8_lay_38 : decode cX8_lay 38 = .ok (.iload 4, 2) := by decide +kernel
theorem dX8_lay_40 : decode cX8_lay 40 = .ok (.iaload, 1) := by decide +kernel
theorem dX8_lay_41 : decode cX8_lay 41 = .ok (.invokevirtual 93, 3) := by decide +kernel
theorem dX8_lay_44 : decode cX8_lay 44 = .ok (.ifCond .ne 6, 3) := by decide +kernel
theorem dX8_lay_47 : decode cX8_lay 47 = .ok (.bipush (-2), 2) := by decide +kernel
theorem dX8_lay_49 : decode cX8_lay 49 = .ok (.ireturn, 1) := by decide +kernel
theorem dX8_lay_50 : decode cX8_lay 50 = .ok (.iload_n 2, 1) := by decide +kernel
theorem dX8_lay_51 : decode cX8_lay 51 = .ok (.bipush 52, 2) := by decide +kernel
theorem dX8_lay_53 : decode cX8_lay 53 = .ok (.if_icmp .ge 33, 3) := by decide +kernel
theorem dX8_lay_56 : decode cX8_lay 56 = .ok (.iload_n 3, 1) := by decide +kernel
theorem dX8_lay_57 : decode cX8_lay 57 = .ok (.aload_n 0, 1) := by decide +kernel
theorem dX8_lay_58 : decode cX8_lay 58 = .ok (.aload_n 0, 1) := by decide +kernel
theorem dX8_lay_59 : decode cX8_lay 59 = .ok (.getfield 35, 3) := by decide +kernel
theorem dX8_lay_62 : decode cX8_lay 62 = .ok (.iload 4, 2) := by decide +kernel
theorem dX8_lay_64 : decode cX8_lay 64 = .ok (.iaload, 1) := by decide +kernel
theorem dX8_lay_65 : decode cX8_lay 65 = .ok (.invokevirtual 96, 3) := by decide +kernel
theorem dX8_lay_68 : decode cX8_lay 68 = .ok (.iadd, 1) := by decide +kernel
theorem dX8_lay_69 : decode cX8_lay 69 = .ok (.aload_n 0, 1) := by decide +kernel
theorem dX8_lay_70 : decode cX8_lay 70 = .ok (.getfield 38, 3) := by decide +kernel
theorem dX8_lay_73 : decode cX8_lay 73 = .ok (.iload_n 2, 1) := by decide +kernel
theorem dX8_lay_74 : decode cX8_lay 74 = .ok (.iaload, 1) := by decide +kernel
theorem dX8_lay_75 : decode cX8_lay 75 = .ok (.if_icmp .le 11, 3) := by decide +kernel
theorem dX8_lay_78 : decode cX8_lay 78 = .ok (.iinc 2 1, 3) := by decide +kernel
theorem dX8_lay_81 : decode cX8_lay 81 = .ok (.iconst 0, 1) := by decide +kernel
theorem dX8_lay_82 : decode cX8_lay 82 = .ok (.istore_n 3, 1) := by decide +kernel
theorem dX8_lay_83 : decode cX8_lay 83 = .ok (.goto (-33), 3) := by decide +kernel
theorem dX8_lay_86 : decode cX8_lay 86 = .ok (.iload_n 2, 1) := by decide +kernel
theorem dX8_lay_87 : decode cX8_lay 87 = .ok (.bipush 52, 2) := by decide +kernel
theorem dX8_lay_89 : decode cX8_lay 89 = .ok (.if_icmp .ne 6, 3) := by decide +kernel
theorem dX8_lay_92 : decode cX8_lay 92 = .ok (.bipush (-2), 2) := by decide +kernel
theorem dX8_lay_94 : decode cX8_lay 94 = .ok (.ireturn, 1) := by decide +kernel
theorem dX8_lay_95 : decode cX8_lay 95 = .ok (.iload_n 3, 1) := by decide +kernel
theorem dX8_lay_96 : decode cX8_lay 96 = .ok (.aload_n 0, 1) := by decide +kernel
theorem dX8_lay_97 : decode cX8_lay 97 = .ok (.aload_n 0, 1) := by decide +kernel
theorem dX8_lay_98 : decode cX8_lay 98 = .ok (.getfield 35, 3) := by decide +kernel
theorem dX8_lay_101 : decode cX8_lay 101 = .ok (.iload 4, 2) := by decide +kernel
theorem dX8_lay_103 : decode cX8_lay 103 = .ok (.iaload, 1) := by decide +kernel
theorem dX8_lay_104 : decode cX8_lay 104 = .ok (.invokevirtual 96, 3) := by decide +kernel
theorem dX8_lay_107 : decode cX8_lay 107 = .ok (.iadd, 1) := by decide +kernel
theorem dX8_lay_108 : decode cX8_lay 108 = .ok (.istore_n 3, 1) := by decide +kernel
theorem dX8_lay_109 : decode cX8_lay 109 = .ok (.aload_n 0, 1) := by decide +kernel
theorem dX8_lay_110 : decode cX8_lay 110 = .ok (.getfield 57, 3) := by decide +kernel
theorem dX8_lay_113 : decode cX8_lay 113 = .ok (.iload 4, 2) := by decide +kernel
theorem dX8_lay_115 : decode cX8_lay 115 = .ok (.iload_n 2, 1) := by decide +kernel
theorem dX8_lay_116 : decode cX8_lay 116 = .ok (.iastore, 1) := by decide +kernel
theorem dX8_lay_117 : decode cX8_lay 117 = .ok (.iinc 4 1, 3) := by decide +kernel
theorem dX8_lay_120 : decode cX8_lay 120 = .ok (.goto (-96), 3) := by decide +kernel
theorem dX8_lay_123 : decode cX8_lay 123 = .ok (.aload_n 0, 1) := by decide +kernel
theorem dX8_lay_124 : decode cX8_lay 124 = .ok (.aload_n 0, 1) := by decide +kernel
theorem dX8_lay_125 : decode cX8_lay 125 = .ok (.getfield 90, 3) := by decide +kernel
theorem dX8_lay_128 : decode cX8_lay 128 = .ok (.putfield 125, 3) := by decide +kernel
theorem dX8_lay_131 : decode cX8_lay 131 = .ok (.iconst 0, 1) := by decide +kernel
theorem dX8_lay_132 : decode cX8_lay 132 = .ok (.istore 4, 2) := by decide +kernel
theorem dX8_lay_134 : decode cX8_lay 134 = .ok (.iload 4, 2) := by decide +kernel
theorem dX8_lay_136 : decode cX8_lay 136 = .ok (.aload_n 0, 1) := by decide +kernel
theorem dX8_lay_137 : decode cX8_lay 137 = .ok (.getfield 90, 3) := by decide +kernel
theorem dX8_lay_140 : decode cX8_lay 140 = .ok (.if_icmp .ge 23, 3) := by decide +kernel
theorem dX8_lay_143 : decode cX8_lay 143 = .ok (.aload_n 0, 1) := by decide +kernel
theorem dX8_lay_144 : decode cX8_lay 144 = .ok (.getfield 41, 3) := by decide +kernel
theorem dX8_lay_147 : decode cX8_lay 147 = .ok (.iload 4, 2) := by decide +kernel
theorem dX8_lay_149 : decode cX8_lay 149 = .ok (.aload_n 0, 1) := by decide +kernel
theorem dX8_lay_150 : decode cX8_lay 150 = .ok (.getfield 57, 3) := by decide +kernel
theorem dX8_lay_153 : decode cX8_lay 153 = .ok (.iload 4, 2) := by decide +kernel
theorem dX8_lay_155 : decode cX8_lay 155 = .ok (.iaload, 1) := by decide +kernel
theorem dX8_lay_156 : decode cX8_lay 156 = .ok (.iastore, 1) := by decide +kernel
theorem dX8_lay_157 : decode cX8_lay 157 = .ok (.iinc 4 1, 3) := by decide +kernel
theorem dX8_lay_160 : decode cX8_lay 160 = .ok (.goto (-26), 3) := by decide +kernel
theorem dX8_lay_163 : decode cX8_lay 163 = .ok (.iload_n 2, 1) := by decide +kernel
theorem dX8_lay_164 : decode cX8_lay 164 = .ok (.ireturn, 1) := by decide +kernel
set_option maxRecDepth 20000 in
theorem ggX8_laid_X8_in : GoodIn wsX8_laid wsX8_in := goodIn_r _ [7] (by decide +kernel) (by decide +kernel)
set_option maxRecDepth 20000 in
theorem gX8_laid_X8_in : GoodIn wsX8_laid (va_wsS RX8 69 yX8_in wsX8_in) := goodIn_app (goodIn_of _ (by decide +kernel)) ggX8_laid_X8_in
theorem dX8_laid_0 : decode cX8_laid 0 = .ok (.aload_n 0, 1) := by decide +kernel
theorem dX8_laid_1 : decode cX8_laid 1 = .ok (.iconst 0, 1) := by decide +kernel
theorem dX8_laid_2 : decode cX8_laid 2 = .ok (.putfield 63, 3) := by decide +kernel
theorem dX8_laid_5 : decode cX8_laid 5 = .ok (.iload_n 1, 1) := by decide +kernel
theorem dX8_laid_6 : decode cX8_laid 6 = .ok (.iconst 0, 1) := by decide +kernel
theorem dX8_laid_7 : decode cX8_laid 7 = .ok (.aload_n 0, 1) := by decide +kernel
theorem dX8_laid_8 : decode cX8_laid 8 = .ok (.getfield 125, 3) := by decide +kernel
theorem dX8_laid_11 : decode cX8_laid 11 = .ok (.iconst 1, 1) := by decide +kernel
theorem dX8_laid_12 : decode cX8_laid 12 = .ok (.isub, 1) := by decide +kernel
theorem dX8_laid_13 : decode cX8_laid 13 = .ok (.invokestatic 69, 3) := by decide +kernel
theorem dX8_laid_16 : decode cX8_laid 16 = .ok (.ifCond .eq 12, 3) := by decide +kernel
theorem dX8_laid_19 : decode cX8_laid 19 = .ok (.aload_n 0, 1) := by decide +kernel
theorem dX8_laid_20 : decode cX8_laid 20 = .ok (.getfield 41, 3) := by decide +kernel
theorem dX8_laid_23 : decode cX8_laid 23 = .ok (.iload_n 1, 1) := by decide +kernel
theorem dX8_laid_24 : decode cX8_laid 24 = .ok (.iaload, 1) := by decide +kernel
theorem dX8_laid_25 : decode cX8_laid 25 = .ok (.goto 4, 3) := by decide +kernel
theorem dX8_laid_28 : decode cX8_laid 28 = .ok (.iconst (-1), 1) := by decide +kernel
theorem dX8_laid_29 : decode cX8_laid 29 = .ok (.ireturn, 1) := by decide +kernel
set_option maxRecDepth 20000 in
theorem ggX8_isState_X8_withAll : GoodIn wsX8_isState wsX8_withAll := goodIn_r _ [7, 1, 8, 9, 10, 11, 12, 13, 14, 15, 16, 17, 18, 19, 20, 21, 22, 23, 24, 25, 26, 27, 28, 29, 30, 31, 32] (by decide +kernel) (by decide +kernel)
set_option maxRecDepth 20000 in
theorem gX8_isState_X8_withAll : GoodIn wsX8_isState (wsV RX8 80 RX8 yX8_withAll wsX8_withAll) := goodIn_app (goodIn_of _ (by decide +kernel)) ggX8_isState_X8_withAll
theorem dX8_isState_0 : decode cX8_isState 0 = .ok (.aload_n 0, 1) := by decide +kernel
theorem dX8_isState_1 : decode cX8_isState 1 = .ok (.iload_n 1, 1) := by decide +kernel
theorem dX8_isState_2 : decode cX8_isState 2 = .ok (.invokevirtual 80, 3) := by decide +kernel
theorem dX8_isState_5 : decode cX8_isState 5 = .ok (.iload_n 1, 1) := by decide +kernel
theorem dX8_isState_6 : decode cX8_isState 6 = .ok (.if_icmp .eq 5, 3) := by decide +kernel
theorem dX8_isState_9 : decode cX8_isState 9 = .ok (.iconst 0, 1) := by decide +kernel
theorem dX8_isState_10 : decode cX8_isState 10 = .ok (.ireturn, 1) := by decide +kernel
theorem dX8_isState_11 : decode cX8_isState 11 = .ok (.iconst 0, 1) := by decide +kernel
theorem dX8_isState_12 : decode cX8_isState 12 = .ok (.istore_n 2, 1) := by decide +kernel
theorem dX8_isState_13 : decode cX8_isState 13 = .ok (.iload_n 2, 1) := by decide +kernel
theorem dX8_isState_14 : decode cX8_isState 14 = .ok (.aload_n 0, 1) := by decide +kernel
theorem dX8_isState_15 : decode cX8_isState 15 = .ok (.getfield 66, 3) := by decide +kernel
theorem dX8_isState_18 : decode cX8_isState 18 = .ok (.if_icmp .ge 43, 3) := by decide +kernel
theorem dX8_isState_21 : decode cX8_isState 21 = .ok (.aload_n 0, 1) := by decide +kernel
theorem dX8_isState_22 : decode cX8_isState 22 = .ok (.getfield 44, 3) := by decide +kernel
theorem dX8_isState_25 : decode cX8_isState 25 = .ok (.iload_n 2, 1) := by decide +kernel
theorem dX8_isState_26 : decode cX8_isState 26 = .ok (.iaload, 1) := by decide +kernel
theorem dX8_isState_27 : decode cX8_isState 27 = .ok (.ifCond .eq 28, 3) := by decide +kernel
theorem dX8_isState_30 : decode cX8_isState 30 = .ok (.iload_n 1, 1) := by decide +kernel
theorem dX8_isState_31 : decode cX8_isState 31 = .ok (.iload_n 2, 1) := by decide +kernel
theorem dX8_isState_32 : decode cX8_isState 32 = .ok (.ishr, 1) := by decide +kernel
theorem dX8_isState_33 : decode cX8_isState 33 = .ok (.iconst 1, 1) := by decide +kernel
theorem dX8_isState_34 : decode cX8_isState 34 = .ok (.iand, 1) := by decide +kernel
theorem dX8_isState_35 : decode cX8_isState 35 = .ok (.aload_n 0, 1) := by decide +kernel
theorem dX8_isState_36 : decode cX8_isState 36 = .ok (.getfield 44, 3) := by decide +kernel
theorem dX8_isState_39 : decode cX8_isState 39 = .ok (.iload_n 2, 1) := by decide +kernel
theorem dX8_isState_40 : decode cX8_isState 40 = .ok (.iaload, 1) := by decide +kernel
theorem dX8_isState_41 : decode cX8_isState 41 = .ok (.iconst 1, 1) := by decide +kernel
theorem dX8_isState_42 : decode cX8_isState 42 = .ok (.if_icmp .ne 7, 3) := by decide +kernel
theorem dX8_isState_45 : decode cX8_isState 45 = .ok (.iconst 1, 1) := by decide +kernel
theorem dX8_isState_46 : decode cX8_isState 46 = .ok (.goto 4, 3) := by decide +kernel
theorem dX8_isState_49 : decode cX8_isState 49 = .ok (.iconst 0, 1) := by decide +kernel
theorem dX8_isState_50 : decode cX8_isState 50 = .ok (.if_icmp .eq 5, 3) := by decide +kernel
theorem dX8_isState_53 : decode cX8_isState 53 = .ok (.iconst 0, 1) := by decide +kernel
theorem dX8_isState_54 : decode cX8_isState 54 = .ok (.ireturn, 1) := by decide +kernel
theorem dX8_isState_55 : decode cX8_isState 55 = .ok (.iinc 2 1, 3) := by decide +kernel
theorem dX8_isState_58 : decode cX8_isState 58 = .ok (.goto (-45), 3) := by decide +kernel
theorem dX8_isState_61 : decode cX8_isState 61 = .ok (.iconst 1, 1) := by decide +kernel
theorem dX8_isState_62 : decode cX8_isState 62 = .ok (.ireturn, 1) := by decide +kernel
set_option maxRecDepth 20000 in
theorem ggX8_stateMany_X8_isState : GoodIn wsX8_stateMany wsX8_isState := goodIn_r _ [6, 1, 7, 8, 9, 10, 5, 11, 12, 13, 14, 15, 16, 17, 18, 19, 20, 21, 22, 23, 24, 25, 26, 27, 28, 29, 30, 31, 32, 33, 34, 35, 36] (by decide +kernel) (by decide +kernel)
set_option maxRecDepth 20000 in
theorem gX8_stateMany_X8_isState : GoodIn wsX8_stateMany (wsV RX8 128 RX8 yX8_isState wsX8_isState) := goodIn_app (goodIn_of _ (by decide +kernel)) ggX8_stateMany_X8_isState
theorem dX8_stateMany_0 : decode cX8_stateMany 0 = .ok (.iconst 0, 1) := by decide +kernel
theorem dX8_stateMany_1 : decode cX8_stateMany 1 = .ok (.istore_n 1, 1) := by decide +kernel
theorem dX8_stateMany_2 : decode cX8_stateMany 2 = .ok (.iconst 0, 1) := by decide +kernel
theorem dX8_stateMany_3 : decode cX8_stateMany 3 = .ok (.istore_n 2, 1) := by decide +kernel
theorem dX8_stateMany_4 : decode cX8_stateMany 4 = .ok (.iload_n 2, 1) := by decide +kernel
theorem dX8_stateMany_5 : decode cX8_stateMany 5 = .ok (.iconst 1, 1) := by decide +kernel
theorem dX8_stateMany_6 : decode cX8_stateMany 6 = .ok (.aload_n 0, 1) := by decide +kernel
theorem dX8_stateMany_7 : decode cX8_stateMany 7 = .ok (.getfield 66, 3) := by decide +kernel
theorem dX8_stateMany_10 : decode cX8_stateMany 10 = .ok (.ishl, 1) := by decide +kernel
theorem dX8_stateMany_11 : decode cX8_stateMany 11 = .ok (.if_icmp .ge 20, 3) := by decide +kernel
theorem dX8_stateMany_14 : decode cX8_stateMany 14 = .ok (.aload_n 0, 1) := by decide +kernel
theorem dX8_stateMany_15 : decode cX8_stateMany 15 = .ok (.iload_n 2, 1) := by decide +kernel
theorem dX8_stateMany_16 : decode cX8_stateMany 16 = .ok (.invokevirtual 128, 3) := by decide +kernel
theorem dX8_stateMany_19 : decode cX8_stateMany 19 = .ok (.ifCond .eq 6, 3) := by decide +kernel
theorem dX8_stateMany_22 : decode cX8_stateMany 22 = .ok (.iinc 1 1, 3) := by decide +kernel
theorem dX8_stateMany_25 : decode cX8_stateMany 25 = .ok (.iinc 2 1, 3) := by decide +kernel
theorem dX8_stateMany_28 : decode cX8_stateMany 28 = .ok (.goto (-24), 3) := by decide +kernel
theorem dX8_stateMany_31 : decode cX8_stateMany 31 = .ok (.iload_n 1, 1) := by decide +kernel
theorem dX8_stateMany_32 : decode cX8_stateMany 32 = .ok (.ireturn, 1) := by decide +kernel
set_option maxRecDepth 20000 in
theorem ggX8_answer_X8_in : GoodIn wsX8_answer wsX8_in := goodIn_r _ [7] (by decide +kernel) (by decide +kernel)
set_option maxRecDepth 20000 in
theorem gX8_answer_X8_in : GoodIn wsX8_answer (va_wsS RX8 69 yX8_in wsX8_in) := goodIn_app (goodIn_of _ (by decide +kernel)) ggX8_answer_X8_in
set_option maxRecDepth 20000 in
theorem ggX8_answer_X8_stateMany : GoodIn wsX8_answer wsX8_stateMany := goodIn_r _ [11, 2, 12, 13, 14, 6, 15, 3, 16, 17, 18, 19, 20, 21, 22, 23, 24, 25, 26, 27, 28, 29, 30, 31, 32, 33, 34, 35, 36, 37, 38, 39, 40, 41, 42, 43, 44] (by decide +kernel) (by decide +kernel)
set_option maxRecDepth 20000 in
theorem gX8_answer_X8_stateMany : GoodIn wsX8_answer (wsV RX8 131 RX8 yX8_stateMany wsX8_stateMany) := goodIn_app (goodIn_of _ (by decide +kernel)) ggX8_answer_X8_stateMany
theorem dX8_answer_0 : decode cX8_answer 0 = .ok (.aload_n 0, 1) := by decide +kernel
theorem dX8_answer_1 : decode cX8_answer 1 = .ok (.iconst 0, 1) := by decide +kernel
theorem dX8_answer_2 : decode cX8_answer 2 = .ok (.putfield 63, 3) := by decide +kernel
theorem dX8_answer_5 : decode cX8_answer 5 = .ok (.iload_n 1, 1) := by decide +kernel
theorem dX8_answer_6 : decode cX8_answer 6 = .ok (.iconst 0, 1) := by decide +kernel
theorem dX8_answer_7 : decode cX8_answer 7 = .ok (.aload_n 0, 1) := by decide +kernel
theorem dX8_answer_8 : decode cX8_answer 8 = .ok (.getfield 66, 3) := by decide +kernel
theorem dX8_answer_11 : decode cX8_answer 11 = .ok (.iconst 1, 1) := by decide +kernel
theorem dX8_answer_12 : decode cX8_answer 12 = .ok (.isub, 1) := by decide +kernel
theorem dX8_answer_13 : decode cX8_answer 13 = .ok (.invokestatic 69, 3) := by decide +kernel
theorem dX8_answer_16 : decode cX8_answer 16 = .ok (.ifCond .eq 12, 3) := by decide +kernel
theorem dX8_answer_19 : decode cX8_answer 19 = .ok (.aload_n 0, 1) := by decide +kernel
theorem dX8_answer_20 : decode cX8_answer 20 = .ok (.getfield 44, 3) := by decide +kernel
theorem dX8_answer_23 : decode cX8_answer 23 = .ok (.iload_n 1, 1) := by decide +kernel
theorem dX8_answer_24 : decode cX8_answer 24 = .ok (.iaload, 1) := by decide +kernel
theorem dX8_answer_25 : decode cX8_answer 25 = .ok (.ifCond .eq 5, 3) := by decide +kernel
theorem dX8_answer_28 : decode cX8_answer 28 = .ok (.iconst (-1), 1) := by decide +kernel
theorem dX8_answer_29 : decode cX8_answer 29 = .ok (.ireturn, 1) := by decide +kernel
theorem dX8_answer_30 : decode cX8_answer 30 = .ok (.aload_n 0, 1) := by decide +kernel
theorem dX8_answer_31 : decode cX8_answer 31 = .ok (.getfield 44, 3) := by decide +kernel
theorem dX8_answer_34 : decode cX8_answer 34 = .ok (.iload_n 1, 1) := by decide +kernel
theorem dX8_answer_35 : decode cX8_answer 35 = .ok (.iload_n 2, 1) := by decide +kernel
theorem dX8_answer_36 : decode cX8_answer 36 = .ok (.ifCond .eq 7, 3) := by decide +kernel
theorem dX8_answer_39 : decode cX8_answer 39 = .ok (.iconst 1, 1) := by decide +kernel
theorem dX8_answer_40 : decode cX8_answer 40 = .ok (.goto 4, 3) := by decide +kernel
theorem dX8_answer_43 : decode cX8_answer 43 = .ok (.iconst 2, 1) := by decide +kernel
theorem dX8_answer_44 : decode cX8_answer 44 = .ok (.iastore, 1) := by decide +kernel
theorem dX8_answer_45 : decode cX8_answer 45 = .ok (.aload_n 0, 1) := by decide +kernel
theorem dX8_answer_46 : decode cX8_answer 46 = .ok (.invokevirtual 131, 3) := by decide +kernel
theorem dX8_answer_49 : decode cX8_answer 49 = .ok (.istore_n 3, 1) := by decide +kernel
theorem dX8_answer_50 : decode cX8_answer 50 = .ok (.iload_n 3, 1) := by decide +kernel
theorem dX8_answer_51 : decode cX8_answer 51 = .ok (.ifCond .le 5, 3) := by decide +kernel
theorem dX8_answer_54 : decode cX8_answer 54 = .ok (.iload_n 3, 1) := by decide +kernel
theorem dX8_answer_55 : decode cX8_answer 55 = .ok (.ireturn, 1) := by decide +kernel
theorem dX8_answer_56 : decode cX8_answer 56 = .ok (.aload_n 0, 1) := by decide +kernel
theorem dX8_answer_57 : decode cX8_answer 57 = .ok (.getfield 44, 3) := by decide +kernel
theorem dX8_answer_60 : decode cX8_answer 60 = .ok (.iload_n 1, 1) := by decide +kernel
theorem dX8_answer_61 : decode cX8_answer 61 = .ok (.iconst 0, 1) := by decide +kernel
theorem dX8_answer_62 : decode cX8_answer 62 = .ok (.iastore, 1) := by decide +kernel
theorem dX8_answer_63 : decode cX8_answer 63 = .ok (.iconst (-1), 1) := by decide +kernel
theorem dX8_answer_64 : decode cX8_answer 64 = .ok (.ireturn, 1) := by decide +kernel
set_option maxRecDepth 20000 in
theorem ggX8_ask_X8_stateMany : GoodIn wsX8_ask wsX8_stateMany := goodIn_r _ [7, 8, 9, 10, 11, 6, 12, 2, 13, 14, 15, 16, 17, 18, 19, 20, 21, 22, 23, 24, 25, 26, 27, 28, 29, 30, 31, 32, 33, 34, 35, 36, 37, 38, 39, 40, 41] (by decide +kernel) (by decide +kernel)
set_option maxRecDepth 20000 in
theorem gX8_ask_X8_stateMany : GoodIn wsX8_ask (wsV RX8 131 RX8 yX8_stateMany wsX8_stateMany) := goodIn_app (goodIn_of _ (by decide +kernel)) ggX8_ask_X8_stateMany
theorem dX8_ask_0 : decode cX8_ask 0 = .ok (.aload_n 0, 1) := by decide +kernel
theorem dX8_ask_1 : decode cX8_ask 1 = .ok (.iconst 0, 1) := by decide +kernel
theorem dX8_ask_2 : decode cX8_ask 2 = .ok (.putfield 63, 3) := by decide +kernel
theorem dX8_ask_5 : decode cX8_ask 5 = .ok (.iconst 0, 1) := by decide +kernel
theorem dX8_ask_6 : decode cX8_ask 6 = .ok (.istore_n 1, 1) := by decide +kernel
theorem dX8_ask_7 : decode cX8_ask 7 = .ok (.iload_n 1, 1) := by decide +kernel
theorem dX8_ask_8 : decode cX8_ask 8 = .ok (.bipush 12, 2) := by decide +kernel
theorem dX8_ask_10 : decode cX8_ask 10 = .ok (.if_icmp .ge 16, 3) := by decide +kernel
theorem dX8_ask_13 : decode cX8_ask 13 = .ok (.aload_n 0, 1) := by decide +kernel
theorem dX8_ask_14 : decode cX8_ask 14 = .ok (.getfield 44, 3) := by decide +kernel
theorem dX8_ask_17 : decode cX8_ask 17 = .ok (.iload_n 1, 1) := by decide +kernel
theorem dX8_ask_18 : decode cX8_ask 18 = .ok (.iconst 0, 1) := by decide +kernel
theorem dX8_ask_19 : decode cX8_ask 19 = .ok (.iastore, 1) := by decide +kernel
theorem dX8_ask_20 : decode cX8_ask 20 = .ok (.iinc 1 1, 3) := by decide +kernel
theorem dX8_ask_23 : decode cX8_ask 23 = .ok (.goto (-16), 3) := by decide +kernel
theorem dX8_ask_26 : decode cX8_ask 26 = .ok (.aload_n 0, 1) := by decide +kernel
theorem dX8_ask_27 : decode cX8_ask 27 = .ok (.invokevirtual 131, 3) := by decide +kernel
theorem dX8_ask_30 : decode cX8_ask 30 = .ok (.ireturn, 1) := by decide +kernel
set_option maxRecDepth 20000 in
theorem ggX8_states_X8_stateMany : GoodIn wsX8_states wsX8_stateMany := goodIn_r _ [6, 7, 8, 9, 10, 5, 11, 12, 13, 14, 15, 16, 17, 18, 19, 20, 21, 22, 23, 24, 25, 26, 27, 28, 29, 30, 31, 32, 33, 34, 35, 36, 37, 38, 39, 40, 41] (by decide +kernel) (by decide +kernel)
set_option maxRecDepth 20000 in
theorem gX8_states_X8_stateMany : GoodIn wsX8_states (wsV RX8 131 RX8 yX8_stateMany wsX8_stateMany) := goodIn_app (goodIn_of _ (by decide +kernel)) ggX8_states_X8_stateMany
theorem dX8_states_0 : decode cX8_states 0 = .ok (.aload_n 0, 1) := by decide +kernel
theorem dX8_states_1 : decode cX8_states 1 = .ok (.iconst 0, 1) := by decide +kernel
theorem dX8_states_2 : decode cX8_states 2 = .ok (.putfield 63, 3) := by decide +kernel
theorem dX8_states_5 : decode cX8_states 5 = .ok (.aload_n 0, 1) := by decide +kernel
theorem dX8_states_6 : decode cX8_states 6 = .ok (.invokevirtual 131, 3) := by decide +kernel
theorem dX8_states_9 : decode cX8_states 9 = .ok (.ireturn, 1) := by decide +kernel
set_option maxRecDepth 20000 in
theorem ggX8_question_X8_stateMany : GoodIn wsX8_question wsX8_stateMany := goodIn_r _ [8, 2, 9, 10, 11, 7, 12, 3, 13, 14, 15, 16, 17, 18, 19, 20, 21, 22, 23, 24, 25, 26, 27, 28, 29, 30, 31, 32, 33, 34, 35, 36, 37, 38, 39, 40, 41] (by decide +kernel) (by decide +kernel)
set_option maxRecDepth 20000 in
theorem gX8_question_X8_stateMany : GoodIn wsX8_question (wsV RX8 131 RX8 yX8_stateMany wsX8_stateMany) := goodIn_app (goodIn_of _ (by decide +kernel)) ggX8_question_X8_stateMany
set_option maxRecDepth 20000 in
theorem ggX8_question_X8_isState : GoodIn wsX8_question wsX8_isState := goodIn_r _ [12, 2, 3, 13, 14, 15, 7, 16, 17, 18, 19, 20, 21, 22, 23, 24, 25, 26, 27, 28, 29, 30, 31, 32, 33, 34, 35, 36, 37, 38, 39, 40, 41] (by decide +kernel) (by decide +kernel)
set_option maxRecDepth 20000 in
theorem gX8_question_X8_isState : GoodIn wsX8_question (wsV RX8 128 RX8 yX8_isState wsX8_isState) := goodIn_app (goodIn_of _ (by decide +kernel)) ggX8_question_X8_isState
theorem dX8_question_0 : decode cX8_question 0 = .ok (.aload_n 0, 1) := by decide +kernel
theorem dX8_question_1 : decode cX8_question 1 = .ok (.iconst 0, 1) := by decide +kernel
theorem dX8_question_2 : decode cX8_question 2 = .ok (.putfield 63, 3) := by decide +kernel
theorem dX8_question_5 : decode cX8_question 5 = .ok (.aload_n 0, 1) := by decide +kernel
theorem dX8_question_6 : decode cX8_question 6 = .ok (.invokevirtual 131, 3) := by decide +kernel
theorem dX8_question_9 : decode cX8_question 9 = .ok (.istore_n 1, 1) := by decide +kernel
theorem dX8_question_10 : decode cX8_question 10 = .ok (.iconst (-1), 1) := by decide +kernel
theorem dX8_question_11 : decode cX8_question 11 = .ok (.istore_n 2, 1) := by decide +kernel
theorem dX8_question_12 : decode cX8_question 12 = .ok (.iconst 0, 1) := by decide +kernel
theorem dX8_question_13 : decode cX8_question 13 = .ok (.istore_n 3, 1) := by decide +kernel
theorem dX8_question_14 : decode cX8_question 14 = .ok (.iconst 0, 1) := by decide +kernel
theorem dX8_question_15 : decode cX8_question 15 = .ok (.istore 4, 2) := by decide +kernel
theorem dX8_question_17 : decode cX8_question 17 = .ok (.iload 4, 2) := by decide +kernel
theorem dX8_question_19 : decode cX8_question 19 = .ok (.aload_n 0, 1) := by decide +kernel
theorem dX8_question_20 : decode cX8_question 20 = .ok (.getfield 66, 3) := by decide +kernel
theorem dX8_question_23 : decode cX8_question 23 = .ok (.if_icmp .ge 119, 3) := by decide +kernel
theorem dX8_question_26 : decode cX8_question 26 = .ok (.iconst 0, 1) := by decide +kernel
theorem dX8_question_27 : decode cX8_question 27 = .ok (.istore 5, 2) := by decide +kernel
theorem dX8_question_29 : decode cX8_question 29 = .ok (.iconst 0, 1) := by decide +kernel
theorem dX8_question_30 : decode cX8_question 30 = .ok (.istore 6, 2) := by decide +kernel
theorem dX8_question_32 : decode cX8_question 32 = .ok (.iload 6, 2) := by decide +kernel
theorem dX8_question_34 : decode cX8_question 34 = .ok (.iconst 1, 1) := by decide +kernel
theorem dX8_question_35 : decode cX8_question 35 = .ok (.aload_n 0, 1) := by decide +kernel
theorem dX8_question_36 : decode cX8_question 36 = .ok (.getfield 66, 3) := by decide +kernel
theorem dX8_question_39 : decode cX8_question 39 = .ok (.ishl, 1) := by decide +kernel
theorem dX8_question_40 : decode cX8_question 40 = .ok (.if_icmp .ge 32, 3) := by decide +kernel
theorem dX8_question_43 : decode cX8_question 43 = .ok (.iload 6, 2) := by decide +kernel
theorem dX8_question_45 : decode cX8_question 45 = .ok (.iload 4, 2) := by decide +kernel
theorem dX8_question_47 : decode cX8_question 47 = .ok (.ishr, 1) := by decide +kernel
theorem dX8_question_48 : decode cX8_question 48 = .ok (.iconst 1, 1) := by decide +kernel
theorem dX8_question_49 : decode cX8_question 49 = .ok (.iand, 1) := by decide +kernel
theorem dX8_question_50 : decode cX8_question 50 = .ok (.iconst 1, 1) := by decide +kernel
theorem dX8_question_51 : decode cX8_question 51 = .ok (.if_icmp .ne 15, 3) := by decide +kernel
theorem dX8_question_54 : decode cX8_question 54 = .ok (.aload_n 0, 1) := by decide +kernel
theorem dX8_question_55 : decode cX8_question 55 = .ok (.iload 6, 2) := by decide +kernel
theorem dX8_question_57 : decode cX8_question 57 = .ok (.invokevirtual 128, 3) := by decide +kernel
theorem dX8_question_60 : decode cX8_question 60 = .ok (.ifCond .eq 6, 3) := by decide +kernel
theorem dX8_question_63 : decode cX8_question 63 = .ok (.iinc 5 1, 3) := by decide +kernel
theorem dX8_question_66 : decode cX8_question 66 = .ok (.iinc 6 1, 3) := by decide +kernel
theorem dX8_question_69 : decode cX8_question 69 = .ok (.goto (-37), 3) := by decide +kernel
theorem dX8_question_72 : decode cX8_question 72 = .ok (.aload_n 0, 1) := by decide +kernel
theorem dX8_question_73 : decode cX8_question 73 = .ok (.getfield 44, 3) := by decide +kernel
theorem dX8_question_76 : decode cX8_question 76 = .ok (.iload 4, 2) := by decide +kernel
theorem dX8_question_78 : decode cX8_question 78 = .ok (.iaload, 1) := by decide +kernel
theorem dX8_question_79 : decode cX8_question 79 = .ok (.ifCond .ne 57, 3) := by decide +kernel
theorem dX8_question_82 : decode cX8_question 82 = .ok (.iload 5, 2) := by decide +kernel
theorem dX8_question_84 : decode cX8_question 84 = .ok (.ifCond .eq 52, 3) := by decide +kernel
theorem dX8_question_87 : decode cX8_question 87 = .ok (.iload 5, 2) := by decide +kernel
theorem dX8_question_89 : decode cX8_question 89 = .ok (.iload_n 1, 1) := by decide +kernel
theorem dX8_question_90 : decode cX8_question 90 = .ok (.if_icmp .ne 6, 3) := by decide +kernel
theorem dX8_question_93 : decode cX8_question 93 = .ok (.goto 43, 3) := by decide +kernel
theorem dX8_question_96 : decode cX8_question 96 = .ok (.iload 5, 2) := by decide +kernel
theorem dX8_question_98 : decode cX8_question 98 = .ok (.iload_n 1, 1) := by decide +kernel
theorem dX8_question_99 : decode cX8_question 99 = .ok (.iload 5, 2) := by decide +kernel
theorem dX8_question_101 : decode cX8_question 101 = .ok (.isub, 1) := by decide +kernel
theorem dX8_question_102 : decode cX8_question 102 = .ok (.if_icmp .le 8, 3) := by decide +kernel
theorem dX8_question_105 : decode cX8_question 105 = .ok (.iload 5, 2) := by decide +kernel
theorem dX8_question_107 : decode cX8_question 107 = .ok (.goto 7, 3) := by decide +kernel
theorem dX8_question_110 : decode cX8_question 110 = .ok (.iload_n 1, 1) := by decide +kernel
theorem dX8_question_111 : decode cX8_question 111 = .ok (.iload 5, 2) := by decide +kernel
theorem dX8_question_113 : decode cX8_question 113 = .ok (.isub, 1) := by decide +kernel
theorem dX8_question_114 : decode cX8_question 114 = .ok (.istore 6, 2) := by decide +kernel
theorem dX8_question_116 : decode cX8_question 116 = .ok (.iload_n 2, 1) := by decide +kernel
theorem dX8_question_117 : decode cX8_question 117 = .ok (.iconst (-1), 1) := by decide +kernel
theorem dX8_question_118 : decode cX8_question 118 = .ok (.if_icmp .eq 12, 3) := by decide +kernel
theorem dX8_question_121 : decode cX8_question 121 = .ok (.iload 6, 2) := by decide +kernel
theorem dX8_question_123 : decode cX8_question 123 = .ok (.iload_n 3, 1) := by decide +kernel
theorem dX8_question_124 : decode cX8_question 124 = .ok (.if_icmp .lt 6, 3) := by decide +kernel
theorem dX8_question_127 : decode cX8_question 127 = .ok (.goto 9, 3) := by decide +kernel
theorem dX8_question_130 : decode cX8_question 130 = .ok (.iload 4, 2) := by decide +kernel
theorem dX8_question_132 : decode cX8_question 132 = .ok (.istore_n 2, 1) := by decide +kernel
theorem dX8_question_133 : decode cX8_question 133 = .ok (.iload 6, 2) := by decide +kernel
theorem dX8_question_135 : decode cX8_question 135 = .ok (.istore_n 3, 1) := by decide +kernel
theorem dX8_question_136 : decode cX8_question 136 = .ok (.iinc 4 1, 3) := by decide +kernel
theorem dX8_question_139 : decode cX8_question 139 = .ok (.goto (-122), 3) := by decide +kernel
theorem dX8_question_142 : decode cX8_question 142 = .ok (.iload_n 2, 1) := by decide +kernel
theorem dX8_question_143 : decode cX8_question 143 = .ok (.ireturn, 1) := by decide +kernel
set_option maxRecDepth 20000 in
theorem ggX8_worstOf_J13_bitCount_95d88 : GoodIn wsX8_worstOf wsJ13_bitCount_95d88 := goodIn_r _ [7, 8, 9, 10] (by decide +kernel) (by decide +kernel)
set_option maxRecDepth 20000 in
theorem gX8_worstOf_J13_bitCount_95d88 : GoodIn wsX8_worstOf (va_wsS RX8 134 yJ13_bitCount_95d88 wsJ13_bitCount_95d88) := goodIn_app (goodIn_of _ (by decide +kernel)) ggX8_worstOf_J13_bitCount_95d88
set_option maxRecDepth 20000 in
theorem ggX8_worstOf_X8_worstOf : GoodIn wsX8_worstOf wsX8_worstOf := goodIn_r _ [0, 1, 2, 3, 4, 5, 6, 7, 8, 9, 10, 11, 12, 13, 14, 15, 16, 17, 18, 19, 20, 21, 22, 23, 24, 25, 26, 27, 28, 29, 30, 31, 32, 33, 34, 35, 36, 37, 38] (by decide +kernel) (by decide +kernel)
set_option maxRecDepth 20000 in
theorem gX8_worstOf_X8_worstOf : GoodIn wsX8_worstOf (wsV RX8 140 RX8 yX8_worstOf wsX8_worstOf) := goodIn_app (goodIn_of _ (by decide +kernel)) ggX8_worstOf_X8_worstOf
theorem dX8_worstOf_0 : decode cX8_worstOf 0 = .ok (.lload_n 1, 1) := by decide +kernel
theorem dX8_worstOf_1 : decode cX8_worstOf 1 = .ok (.invokestatic 134, 3) := by decide +kernel
theorem dX8_worstOf_4 : decode cX8_worstOf 4 = .ok (.istore_n 3, 1) := by decide +kernel
theorem dX8_worstOf_5 : decode cX8_worstOf 5 = .ok (.lconst 0, 1) := by decide +kernel
theorem dX8_worstOf_6 : decode cX8_worstOf 6 = .ok (.lstore 4, 2) := by decide +kernel
theorem dX8_worstOf_8 : decode cX8_worstOf 8 = .ok (.iload_n 3, 1) := by decide +kernel
theorem dX8_worstOf_9 : decode cX8_worstOf 9 = .ok (.istore 6, 2) := by decide +kernel
theorem dX8_worstOf_11 : decode cX8_worstOf 11 = .ok (.iconst 0, 1) := by decide +kernel
theorem dX8_worstOf_12 : decode cX8_worstOf 12 = .ok (.istore 7, 2) := by decide +kernel
theorem dX8_worstOf_14 : decode cX8_worstOf 14 = .ok (.iload 7, 2) := by decide +kernel
theorem dX8_worstOf_16 : decode cX8_worstOf 16 = .ok (.aload_n 0, 1) := by decide +kernel
theorem dX8_worstOf_17 : decode cX8_worstOf 17 = .ok (.getfield 66, 3) := by decide +kernel
theorem dX8_worstOf_20 : decode cX8_worstOf 20 = .ok (.if_icmp .ge 109, 3) := by decide +kernel
theorem dX8_worstOf_23 : decode cX8_worstOf 23 = .ok (.lconst 0, 1) := by decide +kernel
theorem dX8_worstOf_24 : decode cX8_worstOf 24 = .ok (.lstore 8, 2) := by decide +kernel
theorem dX8_worstOf_26 : decode cX8_worstOf 26 = .ok (.iconst 0, 1) := by decide +kernel
theorem dX8_worstOf_27 : decode cX8_worstOf 27 = .ok (.istore 10, 2) := by decide +kernel
theorem dX8_worstOf_29 : decode cX8_worstOf 29 = .ok (.iload 10, 2) := by decide +kernel
theorem dX8_worstOf_31 : decode cX8_worstOf 31 = .ok (.bipush 64, 2) := by decide +kernel
theorem dX8_worstOf_33 : decode cX8_worstOf 33 = .ok (.if_icmp .ge 45, 3) := by decide +kernel
theorem dX8_worstOf_36 : decode cX8_worstOf 36 = .ok (.lload_n 1, 1) := by decide +kernel
theorem dX8_worstOf_37 : decode cX8_worstOf 37 = .ok (.iload 10, 2) := by decide +kernel
theorem dX8_worstOf_39 : decode cX8_worstOf 39 = .ok (.lshr, 1) := by decide +kernel
theorem dX8_worstOf_40 : decode cX8_worstOf 40 = .ok (.lconst 1, 1) := by decide +kernel
theorem dX8_worstOf_41 : decode cX8_worstOf 41 = .ok (.land, 1) := by decide +kernel
theorem dX8_worstOf_42 : decode cX8_worstOf 42 = .ok (.lconst 1, 1) := by decide +kernel
theorem dX8_worstOf_43 : decode cX8_worstOf 43 = .ok (.lcmp, 1) := by decide +kernel
theorem dX8_worstOf_44 : decode cX8_worstOf 44 = .ok (.ifCond .ne 28, 3) := by decide +kernel
theorem dX8_worstOf_47 : decode cX8_worstOf 47 = .ok (.aload_n 0, 1) := by decide +kernel
theorem dX8_worstOf_48 : decode cX8_worstOf 48 = .ok (.getfield 60, 3) := by decide +kernel
theorem dX8_worstOf_51 : decode cX8_worstOf 51 = .ok (.iload 10, 2) := by decide +kernel
theorem dX8_worstOf_53 : decode cX8_worstOf 53 = .ok (.iaload, 1) := by decide +kernel
theorem dX8_worstOf_54 : decode cX8_worstOf 54 = .ok (.iload 7, 2) := by decide +kernel
theorem dX8_worstOf_56 : decode cX8_worstOf 56 = .ok (.ishr, 1) := by decide +kernel
theorem dX8_worstOf_57 : decode cX8_worstOf 57 = .ok (.iconst 1, 1) := by decide +kernel
theorem dX8_worstOf_58 : decode cX8_worstOf 58 = .ok (.iand, 1) := by decide +kernel
theorem dX8_worstOf_59 : decode cX8_worstOf 59 = .ok (.iconst 1, 1) := by decide +kernel
theorem dX8_worstOf_60 : decode cX8_worstOf 60 = .ok (.if_icmp .ne 12, 3) := by decide +kernel
theorem dX8_worstOf_63 : decode cX8_worstOf 63 = .ok (.lload 8, 2) := by decide +kernel
theorem dX8_worstOf_65 : decode cX8_worstOf 65 = .ok (.lconst 1, 1) := by decide +kernel
theorem dX8_worstOf_66 : decode cX8_worstOf 66 = .ok (.iload 10, 2) := by decide +kernel
theorem dX8_worstOf_68 : decode cX8_worstOf 68 = .ok (.lshl, 1) := by decide +kernel
theorem dX8_worstOf_69 : decode cX8_worstOf 69 = .ok (.lor, 1) := by decide +kernel
theorem dX8_worstOf_70 : decode cX8_worstOf 70 = .ok (.lstore 8, 2) := by decide +kernel
theorem dX8_worstOf_72 : decode cX8_worstOf 72 = .ok (.iinc 10 1, 3) := by decide +kernel
theorem dX8_worstOf_75 : decode cX8_worstOf 75 = .ok (.goto (-46), 3) := by decide +kernel
theorem dX8_worstOf_78 : decode cX8_worstOf 78 = .ok (.lload 8, 2) := by decide +kernel
theorem dX8_worstOf_80 : decode cX8_worstOf 80 = .ok (.invokestatic 134, 3) := by decide +kernel
theorem dX8_worstOf_83 : decode cX8_worstOf 83 = .ok (.istore 10, 2) := by decide +kernel
theorem dX8_worstOf_85 : decode cX8_worstOf 85 = .ok (.iload 10, 2) := by decide +kernel
theorem dX8_worstOf_87 : decode cX8_worstOf 87 = .ok (.iload_n 3, 1) := by decide +kernel
theorem dX8_worstOf_88 : decode cX8_worstOf 88 = .ok (.iload 10, 2) := by decide +kernel
theorem dX8_worstOf_90 : decode cX8_worstOf 90 = .ok (.isub, 1) := by decide +kernel
theorem dX8_worstOf_91 : decode cX8_worstOf 91 = .ok (.if_icmp .le 8, 3) := by decide +kernel
theorem dX8_worstOf_94 : decode cX8_worstOf 94 = .ok (.iload 10, 2) := by decide +kernel
theorem dX8_worstOf_96 : decode cX8_worstOf 96 = .ok (.goto 7, 3) := by decide +kernel
theorem dX8_worstOf_99 : decode cX8_worstOf 99 = .ok (.iload_n 3, 1) := by decide +kernel
theorem dX8_worstOf_100 : decode cX8_worstOf 100 = .ok (.iload 10, 2) := by decide +kernel
theorem dX8_worstOf_102 : decode cX8_worstOf 102 = .ok (.isub, 1) := by decide +kernel
theorem dX8_worstOf_103 : decode cX8_worstOf 103 = .ok (.istore 11, 2) := by decide +kernel
theorem dX8_worstOf_105 : decode cX8_worstOf 105 = .ok (.iload 11, 2) := by decide +kernel
theorem dX8_worstOf_107 : decode cX8_worstOf 107 = .ok (.iload 6, 2) := by decide +kernel
theorem dX8_worstOf_109 : decode cX8_worstOf 109 = .ok (.if_icmp .lt 6, 3) := by decide +kernel
theorem dX8_worstOf_112 : decode cX8_worstOf 112 = .ok (.goto 11, 3) := by decide +kernel
theorem dX8_worstOf_115 : decode cX8_worstOf 115 = .ok (.iload 11, 2) := by decide +kernel
theorem dX8_worstOf_117 : decode cX8_worstOf 117 = .ok (.istore 6, 2) := by decide +kernel
theorem dX8_worstOf_119 : decode cX8_worstOf 119 = .ok (.lload 8, 2) := by decide +kernel
theorem dX8_worstOf_121 : decode cX8_worstOf 121 = .ok (.lstore 4, 2) := by decide +kernel
theorem dX8_worstOf_123 : decode cX8_worstOf 123 = .ok (.iinc 7 1, 3) := by decide +kernel
theorem dX8_worstOf_126 : decode cX8_worstOf 126 = .ok (.goto (-112), 3) := by decide +kernel
theorem dX8_worstOf_129 : decode cX8_worstOf 129 = .ok (.iload 6, 2) := by decide +kernel
theorem dX8_worstOf_131 : decode cX8_worstOf 131 = .ok (.iload_n 3, 1) := by decide +kernel
theorem dX8_worstOf_132 : decode cX8_worstOf 132 = .ok (.if_icmp .ne 5, 3) := by decide +kernel
theorem dX8_worstOf_135 : decode cX8_worstOf 135 = .ok (.iconst 0, 1) := by decide +kernel
theorem dX8_worstOf_136 : decode cX8_worstOf 136 = .ok (.ireturn, 1) := by decide +kernel
theorem dX8_worstOf_137 : decode cX8_worstOf 137 = .ok (.aload_n 0, 1) := by decide +kernel
theorem dX8_worstOf_138 : decode cX8_worstOf 138 = .ok (.lload 4, 2) := by decide +kernel
theorem dX8_worstOf_140 : decode cX8_worstOf 140 = .ok (.invokevirtual 140, 3) := by decide +kernel
theorem dX8_worstOf_143 : decode cX8_worstOf 143 = .ok (.istore 7, 2) := by decide +kernel
theorem dX8_worstOf_145 : decode cX8_worstOf 145 = .ok (.aload_n 0, 1) := by decide +kernel
theorem dX8_worstOf_146 : decode cX8_worstOf 146 = .ok (.lload_n 1, 1) := by decide +kernel
theorem dX8_worstOf_147 : decode cX8_worstOf 147 = .ok (.lload 4, 2) := by decide +kernel
theorem dX8_worstOf_149 : decode cX8_worstOf 149 = .ok (.ldc2_w 143, 3) := by decide +kernel
theorem dX8_worstOf_152 : decode cX8_worstOf 152 = .ok (.lxor, 1) := by decide +kernel
theorem dX8_worstOf_153 : decode cX8_worstOf 153 = .ok (.land, 1) := by decide +kernel
theorem dX8_worstOf_154 : decode cX8_worstOf 154 = .ok (.invokevirtual 140, 3) := by decide +kernel
theorem dX8_worstOf_157 : decode cX8_worstOf 157 = .ok (.istore 8, 2) := by decide +kernel
theorem dX8_worstOf_159 : decode cX8_worstOf 159 = .ok (.iconst 1, 1) := by decide +kernel
theorem dX8_worstOf_160 : decode cX8_worstOf 160 = .ok (.iload 7, 2) := by decide +kernel
theorem dX8_worstOf_162 : decode cX8_worstOf 162 = .ok (.iload 8, 2) := by decide +kernel
theorem dX8_worstOf_164 : decode cX8_worstOf 164 = .ok (.if_icmp .le 8, 3) := by decide +kernel
theorem dX8_worstOf_167 : decode cX8_worstOf 167 = .ok (.iload 7, 2) := by decide +kernel
theorem dX8_worstOf_169 : decode cX8_worstOf 169 = .ok (.goto 5, 3) := by decide +kernel
theorem dX8_worstOf_172 : decode cX8_worstOf 172 = .ok (.iload 8, 2) := by decide +kernel
theorem dX8_worstOf_174 : decode cX8_worstOf 174 = .ok (.iadd, 1) := by decide +kernel
theorem dX8_worstOf_175 : decode cX8_worstOf 175 = .ok (.ireturn, 1) := by decide +kernel
set_option maxRecDepth 20000 in
theorem ggX8_worst_X8_stateMany : GoodIn wsX8_worst wsX8_stateMany := goodIn_r _ [9, 2, 10, 11, 12, 8, 13, 14, 15, 16, 17, 18, 19, 31, 32, 33, 34, 35, 36, 37, 38, 39, 40, 41, 42, 43, 44, 45, 46, 47, 48, 49, 50, 51, 52, 53, 54] (by decide +kernel) (by decide +kernel)
set_option maxRecDepth 20000 in
theorem gX8_worst_X8_stateMany : GoodIn wsX8_worst (wsV RX8 131 RX8 yX8_stateMany wsX8_stateMany) := goodIn_app (goodIn_of _ (by decide +kernel)) ggX8_worst_X8_stateMany
set_option maxRecDepth 20000 in
theorem ggX8_worst_X8_isState : GoodIn wsX8_worst wsX8_isState := goodIn_r _ [13, 2, 14, 15, 16, 17, 8, 18, 19, 31, 32, 33, 34, 35, 36, 37, 38, 39, 40, 41, 42, 43, 44, 45, 46, 47, 48, 49, 50, 51, 52, 53, 54] (by decide +kernel) (by decide +kernel)
set_option maxRecDepth 20000 in
theorem gX8_worst_X8_isState : GoodIn wsX8_worst (wsV RX8 128 RX8 yX8_isState wsX8_isState) := goodIn_app (goodIn_of _ (by decide +kernel)) ggX8_worst_X8_isState
set_option maxRecDepth 20000 in
theorem ggX8_worst_X8_worstOf : GoodIn wsX8_worst wsX8_worstOf := goodIn_r _ [23, 2, 3, 4, 24, 25, 26, 27, 28, 29, 30, 20, 21, 22, 8, 31, 32, 33, 34, 35, 36, 37, 38, 39, 40, 41, 42, 43, 44, 45, 46, 47, 48, 49, 50, 51, 52, 53, 54] (by decide +kernel) (by decide +kernel)
set_option maxRecDepth 20000 in
theorem gX8_worst_X8_worstOf : GoodIn wsX8_worst (wsV RX8 140 RX8 yX8_worstOf wsX8_worstOf) := goodIn_app (goodIn_of _ (by decide +kernel)) ggX8_worst_X8_worstOf
theorem dX8_worst_0 : decode cX8_worst 0 = .ok (.aload_n 0, 1) := by decide +kernel
theorem dX8_worst_1 : decode cX8_worst 1 = .ok (.iconst 0, 1) := by decide +kernel
theorem dX8_worst_2 : decode cX8_worst 2 = .ok (.putfield 63, 3) := by decide +kernel
theorem dX8_worst_5 : decode cX8_worst 5 = .ok (.aload_n 0, 1) := by decide +kernel
theorem dX8_worst_6 : decode cX8_worst 6 = .ok (.invokevirtual 131, 3) := by decide +kernel
theorem dX8_worst_9 : decode cX8_worst 9 = .ok (.istore_n 1, 1) := by decide +kernel
theorem dX8_worst_10 : decode cX8_worst 10 = .ok (.iload_n 1, 1) := by decide +kernel
theorem dX8_worst_11 : decode cX8_worst 11 = .ok (.bipush 64, 2) := by decide +kernel
theorem dX8_worst_13 : decode cX8_worst 13 = .ok (.if_icmp .le 5, 3) := by decide +kernel
theorem dX8_worst_16 : decode cX8_worst 16 = .ok (.iconst (-1), 1) := by decide +kernel
theorem dX8_worst_17 : decode cX8_worst 17 = .ok (.ireturn, 1) := by decide +kernel
theorem dX8_worst_18 : decode cX8_worst 18 = .ok (.iconst 0, 1) := by decide +kernel
theorem dX8_worst_19 : decode cX8_worst 19 = .ok (.istore_n 2, 1) := by decide +kernel
theorem dX8_worst_20 : decode cX8_worst 20 = .ok (.iconst 0, 1) := by decide +kernel
theorem dX8_worst_21 : decode cX8_worst 21 = .ok (.istore_n 3, 1) := by decide +kernel
theorem dX8_worst_22 : decode cX8_worst 22 = .ok (.iload_n 3, 1) := by decide +kernel
theorem dX8_worst_23 : decode cX8_worst 23 = .ok (.iconst 1, 1) := by decide +kernel
theorem dX8_worst_24 : decode cX8_worst 24 = .ok (.aload_n 0, 1) := by decide +kernel
theorem dX8_worst_25 : decode cX8_worst 25 = .ok (.getfield 66, 3) := by decide +kernel
theorem dX8_worst_28 : decode cX8_worst 28 = .ok (.ishl, 1) := by decide +kernel
theorem dX8_worst_29 : decode cX8_worst 29 = .ok (.if_icmp .ge 30, 3) := by decide +kernel
theorem dX8_worst_32 : decode cX8_worst 32 = .ok (.aload_n 0, 1) := by decide +kernel
theorem dX8_worst_33 : decode cX8_worst 33 = .ok (.iload_n 3, 1) := by decide +kernel
theorem dX8_worst_34 : decode cX8_worst 34 = .ok (.invokevirtual 128, 3) := by decide +kernel
theorem dX8_worst_37 : decode cX8_worst 37 = .ok (.ifCond .ne 6, 3) := by decide +kernel
theorem dX8_worst_40 : decode cX8_worst 40 = .ok (.goto 13, 3) := by decide +kernel
theorem dX8_worst_43 : decode cX8_worst 43 = .ok (.aload_n 0, 1) := by decide +kernel
theorem dX8_worst_44 : decode cX8_worst 44 = .ok (.getfield 60, 3) := by decide +kernel
theorem dX8_worst_47 : decode cX8_worst 47 = .ok (.iload_n 2, 1) := by decide +kernel
theorem dX8_worst_48 : decode cX8_worst 48 = .ok (.iload_n 3, 1) := by decide +kernel
theorem dX8_worst_49 : decode cX8_worst 49 = .ok (.iastore, 1) := by decide +kernel
theorem dX8_worst_50 : decode cX8_worst 50 = .ok (.iinc 2 1, 3) := by decide +kernel
theorem dX8_worst_53 : decode cX8_worst 53 = .ok (.iinc 3 1, 3) := by decide +kernel
theorem dX8_worst_56 : decode cX8_worst 56 = .ok (.goto (-34), 3) := by decide +kernel
theorem dX8_worst_59 : decode cX8_worst 59 = .ok (.aload_n 0, 1) := by decide +kernel
theorem dX8_worst_60 : decode cX8_worst 60 = .ok (.iload_n 1, 1) := by decide +kernel
theorem dX8_worst_61 : decode cX8_worst 61 = .ok (.bipush 64, 2) := by decide +kernel
theorem dX8_worst_63 : decode cX8_worst 63 = .ok (.if_icmp .ne 9, 3) := by decide +kernel
theorem dX8_worst_66 : decode cX8_worst 66 = .ok (.ldc2_w 143, 3) := by decide +kernel
theorem dX8_worst_69 : decode cX8_worst 69 = .ok (.goto 8, 3) := by decide +kernel
theorem dX8_worst_72 : decode cX8_worst 72 = .ok (.lconst 1, 1) := by decide +kernel
theorem dX8_worst_73 : decode cX8_worst 73 = .ok (.iload_n 1, 1) := by decide +kernel
theorem dX8_worst_74 : decode cX8_worst 74 = .ok (.lshl, 1) := by decide +kernel
theorem dX8_worst_75 : decode cX8_worst 75 = .ok (.lconst 1, 1) := by decide +kernel
theorem dX8_worst_76 : decode cX8_worst 76 = .ok (.lsub, 1) := by decide +kernel
theorem dX8_worst_77 : decode cX8_worst 77 = .ok (.invokevirtual 140, 3) := by decide +kernel
theorem dX8_worst_80 : decode cX8_worst 80 = .ok (.ireturn, 1) := by decide +kernel
set_option maxRecDepth 20000 in
theorem ggX8_settle_X8_isState : GoodIn wsX8_settle wsX8_isState := goodIn_r _ [8, 2, 9, 10, 11, 12, 7, 13, 14, 15, 16, 17, 18, 19, 20, 21, 22, 23, 24, 25, 26, 27, 28, 29, 30, 31, 32, 33, 34, 35, 36, 37, 38] (by decide +kernel) (by decide +kernel)
set_option maxRecDepth 20000 in
theorem gX8_settle_X8_isState : GoodIn wsX8_settle (wsV RX8 128 RX8 yX8_isState wsX8_isState) := goodIn_app (goodIn_of _ (by decide +kernel)) ggX8_settle_X8_isState
theorem dX8_settle_0 : decode cX8_settle 0 = .ok (.aload_n 0, 1) := by decide +kernel
theorem dX8_settle_1 : decode cX8_settle 1 = .ok (.iconst 0, 1) := by decide +kernel
theorem dX8_settle_2 : decode cX8_settle 2 = .ok (.putfield 63, 3) := by decide +kernel
theorem dX8_settle_5 : decode cX8_settle 5 = .ok (.iconst 1, 1) := by decide +kernel
theorem dX8_settle_6 : decode cX8_settle 6 = .ok (.aload_n 0, 1) := by decide +kernel
theorem dX8_settle_7 : decode cX8_settle 7 = .ok (.getfield 66, 3) := by decide +kernel
theorem dX8_settle_10 : decode cX8_settle 10 = .ok (.ishl, 1) := by decide +kernel
theorem dX8_settle_11 : decode cX8_settle 11 = .ok (.iconst 1, 1) := by decide +kernel
theorem dX8_settle_12 : decode cX8_settle 12 = .ok (.isub, 1) := by decide +kernel
theorem dX8_settle_13 : decode cX8_settle 13 = .ok (.istore_n 1, 1) := by decide +kernel
theorem dX8_settle_14 : decode cX8_settle 14 = .ok (.iconst 0, 1) := by decide +kernel
theorem dX8_settle_15 : decode cX8_settle 15 = .ok (.istore_n 2, 1) := by decide +kernel
theorem dX8_settle_16 : decode cX8_settle 16 = .ok (.iload_n 2, 1) := by decide +kernel
theorem dX8_settle_17 : decode cX8_settle 17 = .ok (.iconst 1, 1) := by decide +kernel
theorem dX8_settle_18 : decode cX8_settle 18 = .ok (.aload_n 0, 1) := by decide +kernel
theorem dX8_settle_19 : decode cX8_settle 19 = .ok (.getfield 66, 3) := by decide +kernel
theorem dX8_settle_22 : decode cX8_settle 22 = .ok (.ishl, 1) := by decide +kernel
theorem dX8_settle_23 : decode cX8_settle 23 = .ok (.if_icmp .ge 21, 3) := by decide +kernel
theorem dX8_settle_26 : decode cX8_settle 26 = .ok (.aload_n 0, 1) := by decide +kernel
theorem dX8_settle_27 : decode cX8_settle 27 = .ok (.iload_n 2, 1) := by decide +kernel
theorem dX8_settle_28 : decode cX8_settle 28 = .ok (.invokevirtual 128, 3) := by decide +kernel
theorem dX8_settle_31 : decode cX8_settle 31 = .ok (.ifCond .eq 7, 3) := by decide +kernel
theorem dX8_settle_34 : decode cX8_settle 34 = .ok (.iload_n 1, 1) := by decide +kernel
theorem dX8_settle_35 : decode cX8_settle 35 = .ok (.iload_n 2, 1) := by decide +kernel
theorem dX8_settle_36 : decode cX8_settle 36 = .ok (.iand, 1) := by decide +kernel
theorem dX8_settle_37 : decode cX8_settle 37 = .ok (.istore_n 1, 1) := by decide +kernel
theorem dX8_settle_38 : decode cX8_settle 38 = .ok (.iinc 2 1, 3) := by decide +kernel
theorem dX8_settle_41 : decode cX8_settle 41 = .ok (.goto (-25), 3) := by decide +kernel
theorem dX8_settle_44 : decode cX8_settle 44 = .ok (.aload_n 0, 1) := by decide +kernel
theorem dX8_settle_45 : decode cX8_settle 45 = .ok (.iload_n 1, 1) := by decide +kernel
theorem dX8_settle_46 : decode cX8_settle 46 = .ok (.putfield 84, 3) := by decide +kernel
theorem dX8_settle_49 : decode cX8_settle 49 = .ok (.aload_n 0, 1) := by decide +kernel
theorem dX8_settle_50 : decode cX8_settle 50 = .ok (.getfield 84, 3) := by decide +kernel
theorem dX8_settle_53 : decode cX8_settle 53 = .ok (.ireturn, 1) := by decide +kernel
set_option maxRecDepth 20000 in
theorem ggX8_state_X8_isState : GoodIn wsX8_state wsX8_isState := goodIn_r _ [7, 2, 8, 9, 10, 11, 6, 12, 13, 14, 15, 16, 17, 18, 19, 20, 21, 22, 23, 24, 25, 26, 27, 28, 29, 30, 31, 32, 33, 34, 35, 36, 37] (by decide +kernel) (by decide +kernel)
set_option maxRecDepth 20000 in
theorem gX8_state_X8_isState : GoodIn wsX8_state (wsV RX8 128 RX8 yX8_isState wsX8_isState) := goodIn_app (goodIn_of _ (by decide +kernel)) ggX8_state_X8_isState
theorem dX8_state_0 : decode cX8_state 0 = .ok (.aload_n 0, 1) := by decide +kernel
theorem dX8_state_1 : decode cX8_state 1 = .ok (.iconst 0, 1) := by decide +kernel
theorem dX8_state_2 : decode cX8_state 2 = .ok (.putfield 63, 3) := by decide +kernel
theorem dX8_state_5 : decode cX8_state 5 = .ok (.iload_n 1, 1) := by decide +kernel
theorem dX8_state_6 : decode cX8_state 6 = .ok (.istore_n 2, 1) := by decide +kernel
theorem dX8_state_7 : decode cX8_state 7 = .ok (.iconst 0, 1) := by decide +kernel
theorem dX8_state_8 : decode cX8_state 8 = .ok (.istore_n 3, 1) := by decide +kernel
theorem dX8_state_9 : decode cX8_state 9 = .ok (.iload_n 3, 1) := by decide +kernel
theorem dX8_state_10 : decode cX8_state 10 = .ok (.iconst 1, 1) := by decide +kernel
theorem dX8_state_11 : decode cX8_state 11 = .ok (.aload_n 0, 1) := by decide +kernel
theorem dX8_state_12 : decode cX8_state 12 = .ok (.getfield 66, 3) := by decide +kernel
theorem dX8_state_15 : decode cX8_state 15 = .ok (.ishl, 1) := by decide +kernel
theorem dX8_state_16 : decode cX8_state 16 = .ok (.if_icmp .ge 33, 3) := by decide +kernel
theorem dX8_state_19 : decode cX8_state 19 = .ok (.iload_n 1, 1) := by decide +kernel
theorem dX8_state_20 : decode cX8_state 20 = .ok (.ifCond .lt 29, 3) := by decide +kernel
theorem dX8_state_23 : decode cX8_state 23 = .ok (.aload_n 0, 1) := by decide +kernel
theorem dX8_state_24 : decode cX8_state 24 = .ok (.iload_n 3, 1) := by decide +kernel
theorem dX8_state_25 : decode cX8_state 25 = .ok (.invokevirtual 128, 3) := by decide +kernel
theorem dX8_state_28 : decode cX8_state 28 = .ok (.ifCond .ne 6, 3) := by decide +kernel
theorem dX8_state_31 : decode cX8_state 31 = .ok (.goto 12, 3) := by decide +kernel
theorem dX8_state_34 : decode cX8_state 34 = .ok (.iload_n 2, 1) := by decide +kernel
theorem dX8_state_35 : decode cX8_state 35 = .ok (.ifCond .ne 5, 3) := by decide +kernel
theorem dX8_state_38 : decode cX8_state 38 = .ok (.iload_n 3, 1) := by decide +kernel
theorem dX8_state_39 : decode cX8_state 39 = .ok (.ireturn, 1) := by decide +kernel
theorem dX8_state_40 : decode cX8_state 40 = .ok (.iinc 2 (-1), 3) := by decide +kernel
theorem dX8_state_43 : decode cX8_state 43 = .ok (.iinc 3 1, 3) := by decide +kernel
theorem dX8_state_46 : decode cX8_state 46 = .ok (.goto (-37), 3) := by decide +kernel
theorem dX8_state_49 : decode cX8_state 49 = .ok (.aload_n 0, 1) := by decide +kernel
theorem dX8_state_50 : decode cX8_state 50 = .ok (.iconst 1, 1) := by decide +kernel
theorem dX8_state_51 : decode cX8_state 51 = .ok (.putfield 63, 3) := by decide +kernel
theorem dX8_state_54 : decode cX8_state 54 = .ok (.iconst 0, 1) := by decide +kernel
theorem dX8_state_55 : decode cX8_state 55 = .ok (.ireturn, 1) := by decide +kernel
