set_option maxRecDepth 20000 in
theorem ggX5_isRound_X5_isLamp : GoodIn wsX5_isRound wsX5_isLamp := goodIn_r _ [13, 7, 14, 15, 5, 16, 29, 30, 31, 32, 33, 34, 35, 36, 37, 38, 39, 40, 41, 42, 43, 44, 45, 46, 47, 48, 49, 50, 51, 52] (by decide +kernel) (by decide +kernel)
set_option maxRecDepth 20000 in
theorem gX5_isRound_X5_isLamp : GoodIn wsX5_isRound (wsV RX5 91 RX5 yX5_isLamp wsX5_isLamp) := goodIn_app (goodIn_of _ (by decide +kernel)) ggX5_isRound_X5_isLamp
set_option maxRecDepth 20000 in
theorem ggX5_isRound_X5_goesBy : GoodIn wsX5_isRound wsX5_goesBy := goodIn_r _ [20, 7, 8, 9, 21, 22, 23, 5, 24, 29, 30, 31, 32, 33, 34, 35, 36, 37, 38, 39, 40, 41, 42, 43, 44, 45, 46, 47, 48, 49, 50, 51, 52] (by decide +kernel) (by decide +kernel)
set_option maxRecDepth 20000 in
theorem gX5_isRound_X5_goesBy : GoodIn wsX5_isRound (wsV RX5 117 RX5 yX5_goesBy wsX5_goesBy) := goodIn_app (goodIn_of _ (by decide +kernel)) ggX5_isRound_X5_goesBy
set_option maxRecDepth 20000 in
theorem ggX5_isRound_X5_areAllLit : GoodIn wsX5_isRound wsX5_areAllLit := goodIn_r _ [28, 7, 8, 29, 30, 31, 32, 33, 34, 35, 36, 37, 38, 39, 40, 41, 42, 43, 44, 45, 46, 47, 48, 49, 50, 51, 52] (by decide +kernel) (by decide +kernel)
set_option maxRecDepth 20000 in
theorem gX5_isRound_X5_areAllLit : GoodIn wsX5_isRound (wsV RX5 142 RX5 yX5_areAllLit wsX5_areAllLit) := goodIn_app (goodIn_of _ (by decide +kernel)) ggX5_isRound_X5_areAllLit
theorem dX5_isRound_0 : decode cX5_isRound 0 = .ok (.iload_n 3, 1) := by decide +kernel
theorem dX5_isRound_1 : decode cX5_isRound 1 = .ok (.istore 4, 2) := by decide +kernel
theorem dX5_isRound_3 : decode cX5_isRound 3 = .ok (.iload_n 2, 1) := by decide +kernel
theorem dX5_isRound_4 : decode cX5_isRound 4 = .ok (.iconst 2, 1) := by decide +kernel
theorem dX5_isRound_5 : decode cX5_isRound 5 = .ok (.isub, 1) := by decide +kernel
theorem dX5_isRound_6 : decode cX5_isRound 6 = .ok (.istore 5, 2) := by decide +kernel
theorem dX5_isRound_8 : decode cX5_isRound 8 = .ok (.iload 5, 2) := by decide +kernel
theorem dX5_isRound_10 : decode cX5_isRound 10 = .ok (.ifCond .lt 26, 3) := by decide +kernel
theorem dX5_isRound_13 : decode cX5_isRound 13 = .ok (.aload_n 0, 1) := by decide +kernel
theorem dX5_isRound_14 : decode cX5_isRound 14 = .ok (.getfield 22, 3) := by decide +kernel
theorem dX5_isRound_17 : decode cX5_isRound 17 = .ok (.iload 5, 2) := by decide +kernel
theorem dX5_isRound_19 : decode cX5_isRound 19 = .ok (.iload 4, 2) := by decide +kernel
theorem dX5_isRound_21 : decode cX5_isRound 21 = .ok (.iconst 3, 1) := by decide +kernel
theorem dX5_isRound_22 : decode cX5_isRound 22 = .ok (.irem, 1) := by decide +kernel
theorem dX5_isRound_23 : decode cX5_isRound 23 = .ok (.iastore, 1) := by decide +kernel
theorem dX5_isRound_24 : decode cX5_isRound 24 = .ok (.iload 4, 2) := by decide +kernel
theorem dX5_isRound_26 : decode cX5_isRound 26 = .ok (.iconst 3, 1) := by decide +kernel
theorem dX5_isRound_27 : decode cX5_isRound 27 = .ok (.idiv, 1) := by decide +kernel
theorem dX5_isRound_28 : decode cX5_isRound 28 = .ok (.istore 4, 2) := by decide +kernel
theorem dX5_isRound_30 : decode cX5_isRound 30 = .ok (.iinc 5 (-1), 3) := by decide +kernel
theorem dX5_isRound_33 : decode cX5_isRound 33 = .ok (.goto (-25), 3) := by decide +kernel
theorem dX5_isRound_36 : decode cX5_isRound 36 = .ok (.aload_n 0, 1) := by decide +kernel
theorem dX5_isRound_37 : decode cX5_isRound 37 = .ok (.invokevirtual 111, 3) := by decide +kernel
theorem dX5_isRound_40 : decode cX5_isRound 40 = .ok (.iload_n 1, 1) := by decide +kernel
theorem dX5_isRound_41 : decode cX5_isRound 41 = .ok (.istore 5, 2) := by decide +kernel
theorem dX5_isRound_43 : decode cX5_isRound 43 = .ok (.iconst 0, 1) := by decide +kernel
theorem dX5_isRound_44 : decode cX5_isRound 44 = .ok (.istore 6, 2) := by decide +kernel
theorem dX5_isRound_46 : decode cX5_isRound 46 = .ok (.iload 6, 2) := by decide +kernel
theorem dX5_isRound_48 : decode cX5_isRound 48 = .ok (.iload_n 2, 1) := by decide +kernel
theorem dX5_isRound_49 : decode cX5_isRound 49 = .ok (.if_icmp .ge 72, 3) := by decide +kernel
theorem dX5_isRound_52 : decode cX5_isRound 52 = .ok (.aload_n 0, 1) := by decide +kernel
theorem dX5_isRound_53 : decode cX5_isRound 53 = .ok (.iload 5, 2) := by decide +kernel
theorem dX5_isRound_55 : decode cX5_isRound 55 = .ok (.invokevirtual 91, 3) := by decide +kernel
theorem dX5_isRound_58 : decode cX5_isRound 58 = .ok (.ifCond .ne 5, 3) := by decide +kernel
theorem dX5_isRound_61 : decode cX5_isRound 61 = .ok (.iconst 0, 1) := by decide +kernel
theorem dX5_isRound_62 : decode cX5_isRound 62 = .ok (.ireturn, 1) := by decide +kernel
theorem dX5_isRound_63 : decode cX5_isRound 63 = .ok (.aload_n 0, 1) := by decide +kernel
theorem dX5_isRound_64 : decode cX5_isRound 64 = .ok (.iconst 1, 1) := by decide +kernel
theorem dX5_isRound_65 : decode cX5_isRound 65 = .ok (.iload 5, 2) := by decide +kernel
theorem dX5_isRound_67 : decode cX5_isRound 67 = .ok (.ishl, 1) := by decide +kernel
theorem dX5_isRound_68 : decode cX5_isRound 68 = .ok (.invokevirtual 117, 3) := by decide +kernel
theorem dX5_isRound_71 : decode cX5_isRound 71 = .ok (.aload_n 0, 1) := by decide +kernel
theorem dX5_isRound_72 : decode cX5_isRound 72 = .ok (.getfield 22, 3) := by decide +kernel
theorem dX5_isRound_75 : decode cX5_isRound 75 = .ok (.iload_n 2, 1) := by decide +kernel
theorem dX5_isRound_76 : decode cX5_isRound 76 = .ok (.iconst 1, 1) := by decide +kernel
theorem dX5_isRound_77 : decode cX5_isRound 77 = .ok (.isub, 1) := by decide +kernel
theorem dX5_isRound_78 : decode cX5_isRound 78 = .ok (.iload 5, 2) := by decide +kernel
theorem dX5_isRound_80 : decode cX5_isRound 80 = .ok (.ifCond .ne 7, 3) := by decide +kernel
theorem dX5_isRound_83 : decode cX5_isRound 83 = .ok (.iconst 1, 1) := by decide +kernel
theorem dX5_isRound_84 : decode cX5_isRound 84 = .ok (.goto 4, 3) := by decide +kernel
theorem dX5_isRound_87 : decode cX5_isRound 87 = .ok (.iconst 0, 1) := by decide +kernel
theorem dX5_isRound_88 : decode cX5_isRound 88 = .ok (.iastore, 1) := by decide +kernel
theorem dX5_isRound_89 : decode cX5_isRound 89 = .ok (.iload 5, 2) := by decide +kernel
theorem dX5_isRound_91 : decode cX5_isRound 91 = .ok (.iload 6, 2) := by decide +kernel
theorem dX5_isRound_93 : decode cX5_isRound 93 = .ok (.iload_n 2, 1) := by decide +kernel
theorem dX5_isRound_94 : decode cX5_isRound 94 = .ok (.iconst 1, 1) := by decide +kernel
theorem dX5_isRound_95 : decode cX5_isRound 95 = .ok (.isub, 1) := by decide +kernel
theorem dX5_isRound_96 : decode cX5_isRound 96 = .ok (.if_icmp .ge 15, 3) := by decide +kernel
theorem dX5_isRound_99 : decode cX5_isRound 99 = .ok (.aload_n 0, 1) := by decide +kernel
theorem dX5_isRound_100 : decode cX5_isRound 100 = .ok (.getfield 22, 3) := by decide +kernel
theorem dX5_isRound_103 : decode cX5_isRound 103 = .ok (.iload 6, 2) := by decide +kernel
theorem dX5_isRound_105 : decode cX5_isRound 105 = .ok (.iaload, 1) := by decide +kernel
theorem dX5_isRound_106 : decode cX5_isRound 106 = .ok (.iconst 1, 1) := by decide +kernel
theorem dX5_isRound_107 : decode cX5_isRound 107 = .ok (.isub, 1) := by decide +kernel
theorem dX5_isRound_108 : decode cX5_isRound 108 = .ok (.goto 4, 3) := by decide +kernel
theorem dX5_isRound_111 : decode cX5_isRound 111 = .ok (.iconst 0, 1) := by decide +kernel
theorem dX5_isRound_112 : decode cX5_isRound 112 = .ok (.iadd, 1) := by decide +kernel
theorem dX5_isRound_113 : decode cX5_isRound 113 = .ok (.istore 5, 2) := by decide +kernel
theorem dX5_isRound_115 : decode cX5_isRound 115 = .ok (.iinc 6 1, 3) := by decide +kernel
theorem dX5_isRound_118 : decode cX5_isRound 118 = .ok (.goto (-72), 3) := by decide +kernel
theorem dX5_isRound_121 : decode cX5_isRound 121 = .ok (.aload_n 0, 1) := by decide +kernel
theorem dX5_isRound_122 : decode cX5_isRound 122 = .ok (.invokevirtual 142, 3) := by decide +kernel
theorem dX5_isRound_125 : decode cX5_isRound 125 = .ok (.ireturn, 1) := by decide +kernel
set_option maxRecDepth 20000 in
theorem ggX5_layRound_X5_isRound : GoodIn wsX5_layRound wsX5_isRound := goodIn_r _ [7, 1, 8, 9, 10, 6, 11, 12, 13, 14, 15, 16, 17, 18, 19, 20, 21, 22, 23, 24, 25, 26, 27, 28, 29, 30, 31, 32, 33, 37, 38, 39, 40, 41, 42, 43, 44, 45, 46, 47, 48, 49, 50, 51, 52, 53, 54, 55, 56, 57, 58, 59, 60] (by decide +kernel) (by decide +kernel)
set_option maxRecDepth 20000 in
theorem gX5_layRound_X5_isRound : GoodIn wsX5_layRound (wsV RX5 145 RX5 yX5_isRound wsX5_isRound) := goodIn_app (goodIn_of _ (by decide +kernel)) ggX5_layRound_X5_isRound
set_option maxRecDepth 20000 in
theorem ggX5_layRound_X5_copy : GoodIn wsX5_layRound wsX5_copy := goodIn_r _ [36] (by decide +kernel) (by decide +kernel)
set_option maxRecDepth 20000 in
theorem gX5_layRound_X5_copy : GoodIn wsX5_layRound (va_wsS RX5 149 yX5_copy wsX5_copy) := goodIn_app (goodIn_of _ (by decide +kernel)) ggX5_layRound_X5_copy
theorem dX5_layRound_0 : decode cX5_layRound 0 = .ok (.iconst 1, 1) := by decide +kernel
theorem dX5_layRound_1 : decode cX5_layRound 1 = .ok (.istore_n 2, 1) := by decide +kernel
theorem dX5_layRound_2 : decode cX5_layRound 2 = .ok (.iconst 1, 1) := by decide +kernel
theorem dX5_layRound_3 : decode cX5_layRound 3 = .ok (.istore_n 3, 1) := by decide +kernel
theorem dX5_layRound_4 : decode cX5_layRound 4 = .ok (.iload_n 3, 1) := by decide +kernel
theorem dX5_layRound_5 : decode cX5_layRound 5 = .ok (.bipush 8, 2) := by decide +kernel
theorem dX5_layRound_7 : decode cX5_layRound 7 = .ok (.if_icmp .ge 52, 3) := by decide +kernel
theorem dX5_layRound_10 : decode cX5_layRound 10 = .ok (.iconst 0, 1) := by decide +kernel
theorem dX5_layRound_11 : decode cX5_layRound 11 = .ok (.istore 4, 2) := by decide +kernel
theorem dX5_layRound_13 : decode cX5_layRound 13 = .ok (.iload 4, 2) := by decide +kernel
theorem dX5_layRound_15 : decode cX5_layRound 15 = .ok (.iload_n 2, 1) := by decide +kernel
theorem dX5_layRound_16 : decode cX5_layRound 16 = .ok (.if_icmp .ge 33, 3) := by decide +kernel
theorem dX5_layRound_19 : decode cX5_layRound 19 = .ok (.aload_n 0, 1) := by decide +kernel
theorem dX5_layRound_20 : decode cX5_layRound 20 = .ok (.iload_n 1, 1) := by decide +kernel
theorem dX5_layRound_21 : decode cX5_layRound 21 = .ok (.iload_n 3, 1) := by decide +kernel
theorem dX5_layRound_22 : decode cX5_layRound 22 = .ok (.iload 4, 2) := by decide +kernel
theorem dX5_layRound_24 : decode cX5_layRound 24 = .ok (.invokevirtual 145, 3) := by decide +kernel
theorem dX5_layRound_27 : decode cX5_layRound 27 = .ok (.ifCond .eq 16, 3) := by decide +kernel
theorem dX5_layRound_30 : decode cX5_layRound 30 = .ok (.aload_n 0, 1) := by decide +kernel
theorem dX5_layRound_31 : decode cX5_layRound 31 = .ok (.getfield 22, 3) := by decide +kernel
theorem dX5_layRound_34 : decode cX5_layRound 34 = .ok (.aload_n 0, 1) := by decide +kernel
theorem dX5_layRound_35 : decode cX5_layRound 35 = .ok (.getfield 25, 3) := by decide +kernel
theorem dX5_layRound_38 : decode cX5_layRound 38 = .ok (.invokestatic 149, 3) := by decide +kernel
theorem dX5_layRound_41 : decode cX5_layRound 41 = .ok (.iload_n 3, 1) := by decide +kernel
theorem dX5_layRound_42 : decode cX5_layRound 42 = .ok (.ireturn, 1) := by decide +kernel
theorem dX5_layRound_43 : decode cX5_layRound 43 = .ok (.iinc 4 1, 3) := by decide +kernel
theorem dX5_layRound_46 : decode cX5_layRound 46 = .ok (.goto (-33), 3) := by decide +kernel
theorem dX5_layRound_49 : decode cX5_layRound 49 = .ok (.iload_n 2, 1) := by decide +kernel
theorem dX5_layRound_50 : decode cX5_layRound 50 = .ok (.iconst 3, 1) := by decide +kernel
theorem dX5_layRound_51 : decode cX5_layRound 51 = .ok (.imul, 1) := by decide +kernel
theorem dX5_layRound_52 : decode cX5_layRound 52 = .ok (.istore_n 2, 1) := by decide +kernel
theorem dX5_layRound_53 : decode cX5_layRound 53 = .ok (.iinc 3 1, 3) := by decide +kernel
theorem dX5_layRound_56 : decode cX5_layRound 56 = .ok (.goto (-52), 3) := by decide +kernel
theorem dX5_layRound_59 : decode cX5_layRound 59 = .ok (.iconst (-1), 1) := by decide +kernel
theorem dX5_layRound_60 : decode cX5_layRound 60 = .ok (.ireturn, 1) := by decide +kernel
set_option maxRecDepth 20000 in
theorem ggX5_round_X5_isLamp : GoodIn wsX5_round wsX5_isLamp := goodIn_r _ [9, 10, 11, 12, 8, 13, 44, 45, 46, 47, 48, 49, 50, 51, 52, 53, 54, 55, 56, 57, 58, 59, 60, 61, 62, 63, 64, 65, 66, 67] (by decide +kernel) (by decide +kernel)
set_option maxRecDepth 20000 in
theorem gX5_round_X5_isLamp : GoodIn wsX5_round (wsV RX5 91 RX5 yX5_isLamp wsX5_isLamp) := goodIn_app (goodIn_of _ (by decide +kernel)) ggX5_round_X5_isLamp
set_option maxRecDepth 20000 in
theorem ggX5_round_X5_in : GoodIn wsX5_round wsX5_in := goodIn_r _ [13] (by decide +kernel) (by decide +kernel)
set_option maxRecDepth 20000 in
theorem gX5_round_X5_in : GoodIn wsX5_round (va_wsS RX5 46 yX5_in wsX5_in) := goodIn_app (goodIn_of _ (by decide +kernel)) ggX5_round_X5_in
set_option maxRecDepth 20000 in
theorem ggX5_round_X5_layRound : GoodIn wsX5_round wsX5_layRound := goodIn_r _ [17, 18, 4, 19, 20, 21, 8, 22, 23, 24, 25, 26, 10, 27, 28, 5, 6, 7, 9, 11, 12, 13, 29, 30, 31, 32, 33, 34, 35, 36, 37, 38, 39, 40, 41, 42, 43, 44, 45, 46, 47, 48, 49, 50, 51, 52, 53, 54, 55, 56, 57, 58, 59, 60, 61, 62, 63, 64, 65, 66, 67] (by decide +kernel) (by decide +kernel)
set_option maxRecDepth 20000 in
theorem gX5_round_X5_layRound : GoodIn wsX5_round (wsV RX5 158 RX5 yX5_layRound wsX5_layRound) := goodIn_app (goodIn_of _ (by decide +kernel)) ggX5_round_X5_layRound
theorem dX5_round_0 : decode cX5_round 0 = .ok (.aload_n 0, 1) := by decide +kernel
theorem dX5_round_1 : decode cX5_round 1 = .ok (.iload_n 1, 1) := by decide +kernel
theorem dX5_round_2 : decode cX5_round 2 = .ok (.invokevirtual 91, 3) := by decide +kernel
theorem dX5_round_5 : decode cX5_round 5 = .ok (.ifCond .ne 6, 3) := by decide +kernel
theorem dX5_round_8 : decode cX5_round 8 = .ok (.bipush (-101), 2) := by decide +kernel
theorem dX5_round_10 : decode cX5_round 10 = .ok (.ireturn, 1) := by decide +kernel
theorem dX5_round_11 : decode cX5_round 11 = .ok (.iload_n 2, 1) := by decide +kernel
theorem dX5_round_12 : decode cX5_round 12 = .ok (.ifCond .eq 20, 3) := by decide +kernel
theorem dX5_round_15 : decode cX5_round 15 = .ok (.iload_n 2, 1) := by decide +kernel
theorem dX5_round_16 : decode cX5_round 16 = .ok (.i2l, 1) := by decide +kernel
theorem dX5_round_17 : decode cX5_round 17 = .ok (.ldc2_w 135, 3) := by decide +kernel
theorem dX5_round_20 : decode cX5_round 20 = .ok (.ldc2_w 153, 3) := by decide +kernel
theorem dX5_round_23 : decode cX5_round 23 = .ok (.invokestatic 46, 3) := by decide +kernel
theorem dX5_round_26 : decode cX5_round 26 = .ok (.ifCond .ne 6, 3) := by decide +kernel
theorem dX5_round_29 : decode cX5_round 29 = .ok (.bipush (-102), 2) := by decide +kernel
theorem dX5_round_31 : decode cX5_round 31 = .ok (.ireturn, 1) := by decide +kernel
theorem dX5_round_32 : decode cX5_round 32 = .ok (.aload_n 0, 1) := by decide +kernel
theorem dX5_round_33 : decode cX5_round 33 = .ok (.getfield 155, 3) := by decide +kernel
theorem dX5_round_36 : decode cX5_round 36 = .ok (.bipush 20, 2) := by decide +kernel
theorem dX5_round_38 : decode cX5_round 38 = .ok (.if_icmp .ne 6, 3) := by decide +kernel
theorem dX5_round_41 : decode cX5_round 41 = .ok (.bipush (-103), 2) := by decide +kernel
theorem dX5_round_43 : decode cX5_round 43 = .ok (.ireturn, 1) := by decide +kernel
theorem dX5_round_44 : decode cX5_round 44 = .ok (.aload_n 0, 1) := by decide +kernel
theorem dX5_round_45 : decode cX5_round 45 = .ok (.dup, 1) := by decide +kernel
theorem dX5_round_46 : decode cX5_round 46 = .ok (.getfield 155, 3) := by decide +kernel
theorem dX5_round_49 : decode cX5_round 49 = .ok (.iconst 1, 1) := by decide +kernel
theorem dX5_round_50 : decode cX5_round 50 = .ok (.iadd, 1) := by decide +kernel
theorem dX5_round_51 : decode cX5_round 51 = .ok (.putfield 155, 3) := by decide +kernel
theorem dX5_round_54 : decode cX5_round 54 = .ok (.aload_n 0, 1) := by decide +kernel
theorem dX5_round_55 : decode cX5_round 55 = .ok (.iload_n 1, 1) := by decide +kernel
theorem dX5_round_56 : decode cX5_round 56 = .ok (.invokevirtual 158, 3) := by decide +kernel
theorem dX5_round_59 : decode cX5_round 59 = .ok (.istore_n 3, 1) := by decide +kernel
theorem dX5_round_60 : decode cX5_round 60 = .ok (.iload_n 2, 1) := by decide +kernel
theorem dX5_round_61 : decode cX5_round 61 = .ok (.ifCond .eq 8, 3) := by decide +kernel
theorem dX5_round_64 : decode cX5_round 64 = .ok (.iload_n 3, 1) := by decide +kernel
theorem dX5_round_65 : decode cX5_round 65 = .ok (.iconst (-1), 1) := by decide +kernel
theorem dX5_round_66 : decode cX5_round 66 = .ok (.if_icmp .ne 7, 3) := by decide +kernel
theorem dX5_round_69 : decode cX5_round 69 = .ok (.iload_n 3, 1) := by decide +kernel
theorem dX5_round_70 : decode cX5_round 70 = .ok (.goto 24, 3) := by decide +kernel
theorem dX5_round_73 : decode cX5_round 73 = .ok (.iload_n 2, 1) := by decide +kernel
theorem dX5_round_74 : decode cX5_round 74 = .ok (.bipush 10, 2) := by decide +kernel
theorem dX5_round_76 : decode cX5_round 76 = .ok (.isub, 1) := by decide +kernel
theorem dX5_round_77 : decode cX5_round 77 = .ok (.iload_n 3, 1) := by decide +kernel
theorem dX5_round_78 : decode cX5_round 78 = .ok (.if_icmp .ge 15, 3) := by decide +kernel
theorem dX5_round_81 : decode cX5_round 81 = .ok (.aload_n 0, 1) := by decide +kernel
theorem dX5_round_82 : decode cX5_round 82 = .ok (.getfield 25, 3) := by decide +kernel
theorem dX5_round_85 : decode cX5_round 85 = .ok (.iload_n 2, 1) := by decide +kernel
theorem dX5_round_86 : decode cX5_round 86 = .ok (.bipush 10, 2) := by decide +kernel
theorem dX5_round_88 : decode cX5_round 88 = .ok (.isub, 1) := by decide +kernel
theorem dX5_round_89 : decode cX5_round 89 = .ok (.iaload, 1) := by decide +kernel
theorem dX5_round_90 : decode cX5_round 90 = .ok (.goto 4, 3) := by decide +kernel
theorem dX5_round_93 : decode cX5_round 93 = .ok (.iconst (-1), 1) := by decide +kernel
theorem dX5_round_94 : decode cX5_round 94 = .ok (.ireturn, 1) := by decide +kernel
set_option maxRecDepth 20000 in
theorem ggX5_togetherOf_X5_seenBy : GoodIn wsX5_togetherOf wsX5_seenBy := goodIn_r _ [6, 1, 7, 8, 9, 5, 10, 11, 12, 13, 14, 15, 16, 17, 18, 19, 20, 21, 22, 23, 24, 25, 26, 27, 28, 29, 30, 31, 32, 33, 34, 35] (by decide +kernel) (by decide +kernel)
set_option maxRecDepth 20000 in
theorem gX5_togetherOf_X5_seenBy : GoodIn wsX5_togetherOf (wsV RX5 88 RX5 yX5_seenBy wsX5_seenBy) := goodIn_app (goodIn_of _ (by decide +kernel)) ggX5_togetherOf_X5_seenBy
theorem dX5_togetherOf_0 : decode cX5_togetherOf 0 = .ok (.iconst 0, 1) := by decide +kernel
theorem dX5_togetherOf_1 : decode cX5_togetherOf 1 = .ok (.istore_n 2, 1) := by decide +kernel
theorem dX5_togetherOf_2 : decode cX5_togetherOf 2 = .ok (.iconst 1, 1) := by decide +kernel
theorem dX5_togetherOf_3 : decode cX5_togetherOf 3 = .ok (.istore_n 3, 1) := by decide +kernel
theorem dX5_togetherOf_4 : decode cX5_togetherOf 4 = .ok (.iload_n 3, 1) := by decide +kernel
theorem dX5_togetherOf_5 : decode cX5_togetherOf 5 = .ok (.aload_n 0, 1) := by decide +kernel
theorem dX5_togetherOf_6 : decode cX5_togetherOf 6 = .ok (.getfield 67, 3) := by decide +kernel
theorem dX5_togetherOf_9 : decode cX5_togetherOf 9 = .ok (.if_icmp .ge 28, 3) := by decide +kernel
theorem dX5_togetherOf_12 : decode cX5_togetherOf 12 = .ok (.aload_n 0, 1) := by decide +kernel
theorem dX5_togetherOf_13 : decode cX5_togetherOf 13 = .ok (.iload_n 3, 1) := by decide +kernel
theorem dX5_togetherOf_14 : decode cX5_togetherOf 14 = .ok (.invokevirtual 88, 3) := by decide +kernel
theorem dX5_togetherOf_17 : decode cX5_togetherOf 17 = .ok (.aload_n 0, 1) := by decide +kernel
theorem dX5_togetherOf_18 : decode cX5_togetherOf 18 = .ok (.iload_n 2, 1) := by decide +kernel
theorem dX5_togetherOf_19 : decode cX5_togetherOf 19 = .ok (.invokevirtual 88, 3) := by decide +kernel
theorem dX5_togetherOf_22 : decode cX5_togetherOf 22 = .ok (.if_icmp .le 7, 3) := by decide +kernel
theorem dX5_togetherOf_25 : decode cX5_togetherOf 25 = .ok (.iload_n 3, 1) := by decide +kernel
theorem dX5_togetherOf_26 : decode cX5_togetherOf 26 = .ok (.goto 4, 3) := by decide +kernel
theorem dX5_togetherOf_29 : decode cX5_togetherOf 29 = .ok (.iload_n 2, 1) := by decide +kernel
theorem dX5_togetherOf_30 : decode cX5_togetherOf 30 = .ok (.istore_n 2, 1) := by decide +kernel
theorem dX5_togetherOf_31 : decode cX5_togetherOf 31 = .ok (.iinc 3 1, 3) := by decide +kernel
theorem dX5_togetherOf_34 : decode cX5_togetherOf 34 = .ok (.goto (-30), 3) := by decide +kernel
theorem dX5_togetherOf_37 : decode cX5_togetherOf 37 = .ok (.iload_n 1, 1) := by decide +kernel
theorem dX5_togetherOf_38 : decode cX5_togetherOf 38 = .ok (.ifCond .ne 7, 3) := by decide +kernel
theorem dX5_togetherOf_41 : decode cX5_togetherOf 41 = .ok (.iload_n 2, 1) := by decide +kernel
theorem dX5_togetherOf_42 : decode cX5_togetherOf 42 = .ok (.goto 8, 3) := by decide +kernel
theorem dX5_togetherOf_45 : decode cX5_togetherOf 45 = .ok (.aload_n 0, 1) := by decide +kernel
theorem dX5_togetherOf_46 : decode cX5_togetherOf 46 = .ok (.iload_n 2, 1) := by decide +kernel
theorem dX5_togetherOf_47 : decode cX5_togetherOf 47 = .ok (.invokevirtual 88, 3) := by decide +kernel
theorem dX5_togetherOf_50 : decode cX5_togetherOf 50 = .ok (.ireturn, 1) := by decide +kernel
set_option maxRecDepth 20000 in
theorem ggX5_together_X5_in : GoodIn wsX5_together wsX5_in := goodIn_r _ [4] (by decide +kernel) (by decide +kernel)
set_option maxRecDepth 20000 in
theorem gX5_together_X5_in : GoodIn wsX5_together (va_wsS RX5 46 yX5_in wsX5_in) := goodIn_app (goodIn_of _ (by decide +kernel)) ggX5_together_X5_in
set_option maxRecDepth 20000 in
theorem ggX5_together_X5_lacks : GoodIn wsX5_together wsX5_lacks := goodIn_r _ [8, 9, 23, 24, 25, 26, 27, 28, 29, 30, 31, 32, 33, 34, 35, 36, 37, 38, 39, 40, 41, 42, 43, 44, 45, 46] (by decide +kernel) (by decide +kernel)
set_option maxRecDepth 20000 in
theorem gX5_together_X5_lacks : GoodIn wsX5_together (wsV RX5 107 RX5 yX5_lacks wsX5_lacks) := goodIn_app (goodIn_of _ (by decide +kernel)) ggX5_together_X5_lacks
set_option maxRecDepth 20000 in
theorem ggX5_together_X5_togetherOf : GoodIn wsX5_together wsX5_togetherOf := goodIn_r _ [13, 9, 14, 15, 16, 3, 17, 18, 19, 20, 21, 22, 23, 24, 25, 26, 27, 28, 29, 30, 31, 32, 33, 34, 35, 36, 37, 38, 39, 40, 41, 42, 43, 44, 45, 46] (by decide +kernel) (by decide +kernel)
set_option maxRecDepth 20000 in
theorem gX5_together_X5_togetherOf : GoodIn wsX5_together (wsV RX5 161 RX5 yX5_togetherOf wsX5_togetherOf) := goodIn_app (goodIn_of _ (by decide +kernel)) ggX5_together_X5_togetherOf
theorem dX5_together_0 : decode cX5_together 0 = .ok (.iload_n 1, 1) := by decide +kernel
theorem dX5_together_1 : decode cX5_together 1 = .ok (.i2l, 1) := by decide +kernel
theorem dX5_together_2 : decode cX5_together 2 = .ok (.lconst 0, 1) := by decide +kernel
theorem dX5_together_3 : decode cX5_together 3 = .ok (.lconst 1, 1) := by decide +kernel
theorem dX5_together_4 : decode cX5_together 4 = .ok (.invokestatic 46, 3) := by decide +kernel
theorem dX5_together_7 : decode cX5_together 7 = .ok (.ifCond .ne 6, 3) := by decide +kernel
theorem dX5_together_10 : decode cX5_together 10 = .ok (.bipush (-102), 2) := by decide +kernel
theorem dX5_together_12 : decode cX5_together 12 = .ok (.ireturn, 1) := by decide +kernel
theorem dX5_together_13 : decode cX5_together 13 = .ok (.aload_n 0, 1) := by decide +kernel
theorem dX5_together_14 : decode cX5_together 14 = .ok (.invokevirtual 107, 3) := by decide +kernel
theorem dX5_together_17 : decode cX5_together 17 = .ok (.ifCond .eq 8, 3) := by decide +kernel
theorem dX5_together_20 : decode cX5_together 20 = .ok (.bipush (-103), 2) := by decide +kernel
theorem dX5_together_22 : decode cX5_together 22 = .ok (.goto 8, 3) := by decide +kernel
theorem dX5_together_25 : decode cX5_together 25 = .ok (.aload_n 0, 1) := by decide +kernel
theorem dX5_together_26 : decode cX5_together 26 = .ok (.iload_n 1, 1) := by decide +kernel
theorem dX5_together_27 : decode cX5_together 27 = .ok (.invokevirtual 161, 3) := by decide +kernel
theorem dX5_together_30 : decode cX5_together 30 = .ok (.ireturn, 1) := by decide +kernel
set_option maxRecDepth 20000 in
theorem ggX5_book_X5_in : GoodIn wsX5_book wsX5_in := goodIn_r _ [7] (by decide +kernel) (by decide +kernel)
set_option maxRecDepth 20000 in
theorem gX5_book_X5_in : GoodIn wsX5_book (va_wsS RX5 46 yX5_in wsX5_in) := goodIn_app (goodIn_of _ (by decide +kernel)) ggX5_book_X5_in
set_option maxRecDepth 20000 in
theorem ggX5_book_X5_isLamp : GoodIn wsX5_book wsX5_isLamp := goodIn_r _ [11, 12, 4, 5, 6, 7, 13, 14, 15, 16, 17, 18, 19, 20, 21, 22, 23, 24, 25, 26, 27, 28, 29, 30, 31, 32, 33, 34, 35, 36] (by decide +kernel) (by decide +kernel)
set_option maxRecDepth 20000 in
theorem gX5_book_X5_isLamp : GoodIn wsX5_book (wsV RX5 91 RX5 yX5_isLamp wsX5_isLamp) := goodIn_app (goodIn_of _ (by decide +kernel)) ggX5_book_X5_isLamp
theorem dX5_book_0 : decode cX5_book 0 = .ok (.iload_n 1, 1) := by decide +kernel
theorem dX5_book_1 : decode cX5_book 1 = .ok (.i2l, 1) := by decide +kernel
theorem dX5_book_2 : decode cX5_book 2 = .ok (.lconst 0, 1) := by decide +kernel
theorem dX5_book_3 : decode cX5_book 3 = .ok (.ldc2_w 164, 3) := by decide +kernel
theorem dX5_book_6 : decode cX5_book 6 = .ok (.invokestatic 46, 3) := by decide +kernel
theorem dX5_book_9 : decode cX5_book 9 = .ok (.ifCond .ne 6, 3) := by decide +kernel
theorem dX5_book_12 : decode cX5_book 12 = .ok (.bipush (-102), 2) := by decide +kernel
theorem dX5_book_14 : decode cX5_book 14 = .ok (.ireturn, 1) := by decide +kernel
theorem dX5_book_15 : decode cX5_book 15 = .ok (.aload_n 0, 1) := by decide +kernel
theorem dX5_book_16 : decode cX5_book 16 = .ok (.iload_n 2, 1) := by decide +kernel
theorem dX5_book_17 : decode cX5_book 17 = .ok (.invokevirtual 91, 3) := by decide +kernel
theorem dX5_book_20 : decode cX5_book 20 = .ok (.ifCond .ne 6, 3) := by decide +kernel
theorem dX5_book_23 : decode cX5_book 23 = .ok (.bipush (-101), 2) := by decide +kernel
theorem dX5_book_25 : decode cX5_book 25 = .ok (.ireturn, 1) := by decide +kernel
theorem dX5_book_26 : decode cX5_book 26 = .ok (.aload_n 0, 1) := by decide +kernel
theorem dX5_book_27 : decode cX5_book 27 = .ok (.getfield 76, 3) := by decide +kernel
theorem dX5_book_30 : decode cX5_book 30 = .ok (.bipush 8, 2) := by decide +kernel
theorem dX5_book_32 : decode cX5_book 32 = .ok (.if_icmp .ne 6, 3) := by decide +kernel
theorem dX5_book_35 : decode cX5_book 35 = .ok (.bipush (-104), 2) := by decide +kernel
theorem dX5_book_37 : decode cX5_book 37 = .ok (.ireturn, 1) := by decide +kernel
theorem dX5_book_38 : decode cX5_book 38 = .ok (.aload_n 0, 1) := by decide +kernel
theorem dX5_book_39 : decode cX5_book 39 = .ok (.getfield 28, 3) := by decide +kernel
theorem dX5_book_42 : decode cX5_book 42 = .ok (.iconst 3, 1) := by decide +kernel
theorem dX5_book_43 : decode cX5_book 43 = .ok (.aload_n 0, 1) := by decide +kernel
theorem dX5_book_44 : decode cX5_book 44 = .ok (.getfield 76, 3) := by decide +kernel
theorem dX5_book_47 : decode cX5_book 47 = .ok (.imul, 1) := by decide +kernel
theorem dX5_book_48 : decode cX5_book 48 = .ok (.iload_n 1, 1) := by decide +kernel
theorem dX5_book_49 : decode cX5_book 49 = .ok (.iastore, 1) := by decide +kernel
theorem dX5_book_50 : decode cX5_book 50 = .ok (.aload_n 0, 1) := by decide +kernel
theorem dX5_book_51 : decode cX5_book 51 = .ok (.getfield 28, 3) := by decide +kernel
theorem dX5_book_54 : decode cX5_book 54 = .ok (.iconst 3, 1) := by decide +kernel
theorem dX5_book_55 : decode cX5_book 55 = .ok (.aload_n 0, 1) := by decide +kernel
theorem dX5_book_56 : decode cX5_book 56 = .ok (.getfield 76, 3) := by decide +kernel
theorem dX5_book_59 : decode cX5_book 59 = .ok (.imul, 1) := by decide +kernel
theorem dX5_book_60 : decode cX5_book 60 = .ok (.iconst 1, 1) := by decide +kernel
theorem dX5_book_61 : decode cX5_book 61 = .ok (.iadd, 1) := by decide +kernel
theorem dX5_book_62 : decode cX5_book 62 = .ok (.iload_n 2, 1) := by decide +kernel
theorem dX5_book_63 : decode cX5_book 63 = .ok (.iastore, 1) := by decide +kernel
theorem dX5_book_64 : decode cX5_book 64 = .ok (.aload_n 0, 1) := by decide +kernel
theorem dX5_book_65 : decode cX5_book 65 = .ok (.getfield 28, 3) := by decide +kernel
theorem dX5_book_68 : decode cX5_book 68 = .ok (.iconst 3, 1) := by decide +kernel
theorem dX5_book_69 : decode cX5_book 69 = .ok (.aload_n 0, 1) := by decide +kernel
theorem dX5_book_70 : decode cX5_book 70 = .ok (.getfield 76, 3) := by decide +kernel
theorem dX5_book_73 : decode cX5_book 73 = .ok (.imul, 1) := by decide +kernel
theorem dX5_book_74 : decode cX5_book 74 = .ok (.iconst 2, 1) := by decide +kernel
theorem dX5_book_75 : decode cX5_book 75 = .ok (.iadd, 1) := by decide +kernel
theorem dX5_book_76 : decode cX5_book 76 = .ok (.iload_n 3, 1) := by decide +kernel
theorem dX5_book_77 : decode cX5_book 77 = .ok (.ifCond .eq 7, 3) := by decide +kernel
theorem dX5_book_80 : decode cX5_book 80 = .ok (.iconst 1, 1) := by decide +kernel
theorem dX5_book_81 : decode cX5_book 81 = .ok (.goto 4, 3) := by decide +kernel
theorem dX5_book_84 : decode cX5_book 84 = .ok (.iconst 0, 1) := by decide +kernel
theorem dX5_book_85 : decode cX5_book 85 = .ok (.iastore, 1) := by decide +kernel
theorem dX5_book_86 : decode cX5_book 86 = .ok (.aload_n 0, 1) := by decide +kernel
theorem dX5_book_87 : decode cX5_book 87 = .ok (.dup, 1) := by decide +kernel
theorem dX5_book_88 : decode cX5_book 88 = .ok (.getfield 76, 3) := by decide +kernel
theorem dX5_book_91 : decode cX5_book 91 = .ok (.iconst 1, 1) := by decide +kernel
theorem dX5_book_92 : decode cX5_book 92 = .ok (.iadd, 1) := by decide +kernel
theorem dX5_book_93 : decode cX5_book 93 = .ok (.putfield 76, 3) := by decide +kernel
theorem dX5_book_96 : decode cX5_book 96 = .ok (.aload_n 0, 1) := by decide +kernel
theorem dX5_book_97 : decode cX5_book 97 = .ok (.getfield 76, 3) := by decide +kernel
theorem dX5_book_100 : decode cX5_book 100 = .ok (.ireturn, 1) := by decide +kernel
theorem dX5_forget_0 : decode cX5_forget 0 = .ok (.aload_n 0, 1) := by decide +kernel
theorem dX5_forget_1 : decode cX5_forget 1 = .ok (.getfield 76, 3) := by decide +kernel
theorem dX5_forget_4 : decode cX5_forget 4 = .ok (.istore_n 1, 1) := by decide +kernel
theorem dX5_forget_5 : decode cX5_forget 5 = .ok (.aload_n 0, 1) := by decide +kernel
theorem dX5_forget_6 : decode cX5_forget 6 = .ok (.iconst 0, 1) := by decide +kernel
theorem dX5_forget_7 : decode cX5_forget 7 = .ok (.putfield 76, 3) := by decide +kernel
theorem dX5_forget_10 : decode cX5_forget 10 = .ok (.iload_n 1, 1) := by decide +kernel
theorem dX5_forget_11 : decode cX5_forget 11 = .ok (.ireturn, 1) := by decide +kernel
theorem dX5_isBooked_0 : decode cX5_isBooked 0 = .ok (.iconst 1, 1) := by decide +kernel
theorem dX5_isBooked_1 : decode cX5_isBooked 1 = .ok (.istore_n 2, 1) := by decide +kernel
theorem dX5_isBooked_2 : decode cX5_isBooked 2 = .ok (.iconst 0, 1) := by decide +kernel
theorem dX5_isBooked_3 : decode cX5_isBooked 3 = .ok (.istore_n 3, 1) := by decide +kernel
theorem dX5_isBooked_4 : decode cX5_isBooked 4 = .ok (.iload_n 3, 1) := by decide +kernel
theorem dX5_isBooked_5 : decode cX5_isBooked 5 = .ok (.aload_n 0, 1) := by decide +kernel
theorem dX5_isBooked_6 : decode cX5_isBooked 6 = .ok (.getfield 76, 3) := by decide +kernel
theorem dX5_isBooked_9 : decode cX5_isBooked 9 = .ok (.if_icmp .ge 71, 3) := by decide +kernel
theorem dX5_isBooked_12 : decode cX5_isBooked 12 = .ok (.aload_n 0, 1) := by decide +kernel
theorem dX5_isBooked_13 : decode cX5_isBooked 13 = .ok (.getfield 19, 3) := by decide +kernel
theorem dX5_isBooked_16 : decode cX5_isBooked 16 = .ok (.aload_n 0, 1) := by decide +kernel
theorem dX5_isBooked_17 : decode cX5_isBooked 17 = .ok (.getfield 28, 3) := by decide +kernel
theorem dX5_isBooked_20 : decode cX5_isBooked 20 = .ok (.iconst 3, 1) := by decide +kernel
theorem dX5_isBooked_21 : decode cX5_isBooked 21 = .ok (.iload_n 3, 1) := by decide +kernel
theorem dX5_isBooked_22 : decode cX5_isBooked 22 = .ok (.imul, 1) := by decide +kernel
theorem dX5_isBooked_23 : decode cX5_isBooked 23 = .ok (.iconst 1, 1) := by decide +kernel
theorem dX5_isBooked_24 : decode cX5_isBooked 24 = .ok (.iadd, 1) := by decide +kernel
theorem dX5_isBooked_25 : decode cX5_isBooked 25 = .ok (.iaload, 1) := by decide +kernel
theorem dX5_isBooked_26 : decode cX5_isBooked 26 = .ok (.iaload, 1) := by decide +kernel
theorem dX5_isBooked_27 : decode cX5_isBooked 27 = .ok (.ifCond .le 7, 3) := by decide +kernel
theorem dX5_isBooked_30 : decode cX5_isBooked 30 = .ok (.iconst 1, 1) := by decide +kernel
theorem dX5_isBooked_31 : decode cX5_isBooked 31 = .ok (.goto 4, 3) := by decide +kernel
theorem dX5_isBooked_34 : decode cX5_isBooked 34 = .ok (.iconst 0, 1) := by decide +kernel
theorem dX5_isBooked_35 : decode cX5_isBooked 35 = .ok (.istore 4, 2) := by decide +kernel
theorem dX5_isBooked_37 : decode cX5_isBooked 37 = .ok (.iload_n 2, 1) := by decide +kernel
theorem dX5_isBooked_38 : decode cX5_isBooked 38 = .ok (.ifCond .eq 34, 3) := by decide +kernel
theorem dX5_isBooked_41 : decode cX5_isBooked 41 = .ok (.aload_n 0, 1) := by decide +kernel
theorem dX5_isBooked_42 : decode cX5_isBooked 42 = .ok (.getfield 28, 3) := by decide +kernel
theorem dX5_isBooked_45 : decode cX5_isBooked 45 = .ok (.iconst 3, 1) := by decide +kernel
theorem dX5_isBooked_46 : decode cX5_isBooked 46 = .ok (.iload_n 3, 1) := by decide +kernel
theorem dX5_isBooked_47 : decode cX5_isBooked 47 = .ok (.imul, 1) := by decide +kernel
theorem dX5_isBooked_48 : decode cX5_isBooked 48 = .ok (.iaload, 1) := by decide +kernel
theorem dX5_isBooked_49 : decode cX5_isBooked 49 = .ok (.iload_n 1, 1) := by decide +kernel
theorem dX5_isBooked_50 : decode cX5_isBooked 50 = .ok (.if_icmp .ne 18, 3) := by decide +kernel
theorem dX5_isBooked_53 : decode cX5_isBooked 53 = .ok (.iload 4, 2) := by decide +kernel
theorem dX5_isBooked_55 : decode cX5_isBooked 55 = .ok (.aload_n 0, 1) := by decide +kernel
theorem dX5_isBooked_56 : decode cX5_isBooked 56 = .ok (.getfield 28, 3) := by decide +kernel
theorem dX5_isBooked_59 : decode cX5_isBooked 59 = .ok (.iconst 3, 1) := by decide +kernel
theorem dX5_isBooked_60 : decode cX5_isBooked 60 = .ok (.iload_n 3, 1) := by decide +kernel
theorem dX5_isBooked_61 : decode cX5_isBooked 61 = .ok (.imul, 1) := by decide +kernel
theorem dX5_isBooked_62 : decode cX5_isBooked 62 = .ok (.iconst 2, 1) := by decide +kernel
theorem dX5_isBooked_63 : decode cX5_isBooked 63 = .ok (.iadd, 1) := by decide +kernel
theorem dX5_isBooked_64 : decode cX5_isBooked 64 = .ok (.iaload, 1) := by decide +kernel
theorem dX5_isBooked_65 : decode cX5_isBooked 65 = .ok (.if_icmp .ne 7, 3) := by decide +kernel
theorem dX5_isBooked_68 : decode cX5_isBooked 68 = .ok (.iconst 1, 1) := by decide +kernel
theorem dX5_isBooked_69 : decode cX5_isBooked 69 = .ok (.goto 4, 3) := by decide +kernel
theorem dX5_isBooked_72 : decode cX5_isBooked 72 = .ok (.iconst 0, 1) := by decide +kernel
theorem dX5_isBooked_73 : decode cX5_isBooked 73 = .ok (.istore_n 2, 1) := by decide +kernel
theorem dX5_isBooked_74 : decode cX5_isBooked 74 = .ok (.iinc 3 1, 3) := by decide +kernel
theorem dX5_isBooked_77 : decode cX5_isBooked 77 = .ok (.goto (-73), 3) := by decide +kernel
theorem dX5_isBooked_80 : decode cX5_isBooked 80 = .ok (.iload_n 2, 1) := by decide +kernel
theorem dX5_isBooked_81 : decode cX5_isBooked 81 = .ok (.ireturn, 1) := by decide +kernel
set_option maxRecDepth 20000 in
theorem ggX5_canWave_X5_asItIs : GoodIn wsX5_canWave wsX5_asItIs := goodIn_r _ [6, 7, 8, 9, 24, 25, 26, 27, 28, 29, 30, 31, 32, 33, 34, 35, 36, 37, 38, 39, 40, 41, 42, 43, 44, 45, 46, 47] (by decide +kernel) (by decide +kernel)
set_option maxRecDepth 20000 in
theorem gX5_canWave_X5_asItIs : GoodIn wsX5_canWave (wsV RX5 111 RX5 yX5_asItIs wsX5_asItIs) := goodIn_app (goodIn_of _ (by decide +kernel)) ggX5_canWave_X5_asItIs
set_option maxRecDepth 20000 in
theorem ggX5_canWave_X5_isBooked : GoodIn wsX5_canWave wsX5_isBooked := goodIn_r _ [13, 14, 8, 15, 24, 25, 26, 27, 28, 29, 30, 31, 32, 33, 34, 35, 36, 37, 38, 39, 40, 41, 42, 43, 44, 45, 46, 47] (by decide +kernel) (by decide +kernel)
set_option maxRecDepth 20000 in
theorem gX5_canWave_X5_isBooked : GoodIn wsX5_canWave (wsV RX5 166 RX5 yX5_isBooked wsX5_isBooked) := goodIn_app (goodIn_of _ (by decide +kernel)) ggX5_canWave_X5_isBooked
set_option maxRecDepth 20000 in
theorem ggX5_canWave_X5_goesBy : GoodIn wsX5_canWave wsX5_goesBy := goodIn_r _ [19, 7, 8, 9, 20, 21, 22, 5, 23, 24, 25, 26, 27, 28, 29, 30, 31, 32, 33, 34, 35, 36, 37, 38, 39, 40, 41, 42, 43, 44, 45, 46, 47] (by decide +kernel) (by decide +kernel)
set_option maxRecDepth 20000 in
theorem gX5_canWave_X5_goesBy : GoodIn wsX5_canWave (wsV RX5 117 RX5 yX5_goesBy wsX5_goesBy) := goodIn_app (goodIn_of _ (by decide +kernel)) ggX5_canWave_X5_goesBy
theorem dX5_canWave_0 : decode cX5_canWave 0 = .ok (.aload_n 0, 1) := by decide +kernel
theorem dX5_canWave_1 : decode cX5_canWave 1 = .ok (.invokevirtual 111, 3) := by decide +kernel
theorem dX5_canWave_4 : decode cX5_canWave 4 = .ok (.aload_n 0, 1) := by decide +kernel
theorem dX5_canWave_5 : decode cX5_canWave 5 = .ok (.iconst 0, 1) := by decide +kernel
theorem dX5_canWave_6 : decode cX5_canWave 6 = .ok (.invokevirtual 166, 3) := by decide +kernel
theorem dX5_canWave_9 : decode cX5_canWave 9 = .ok (.istore 4, 2) := by decide +kernel
theorem dX5_canWave_11 : decode cX5_canWave 11 = .ok (.iconst 0, 1) := by decide +kernel
theorem dX5_canWave_12 : decode cX5_canWave 12 = .ok (.istore 5, 2) := by decide +kernel
theorem dX5_canWave_14 : decode cX5_canWave 14 = .ok (.iload 5, 2) := by decide +kernel
theorem dX5_canWave_16 : decode cX5_canWave 16 = .ok (.iload_n 2, 1) := by decide +kernel
theorem dX5_canWave_17 : decode cX5_canWave 17 = .ok (.if_icmp .ge 60, 3) := by decide +kernel
theorem dX5_canWave_20 : decode cX5_canWave 20 = .ok (.aload_n 0, 1) := by decide +kernel
theorem dX5_canWave_21 : decode cX5_canWave 21 = .ok (.iload_n 3, 1) := by decide +kernel
theorem dX5_canWave_22 : decode cX5_canWave 22 = .ok (.iload 5, 2) := by decide +kernel
theorem dX5_canWave_24 : decode cX5_canWave 24 = .ok (.ishr, 1) := by decide +kernel
theorem dX5_canWave_25 : decode cX5_canWave 25 = .ok (.iconst 1, 1) := by decide +kernel
theorem dX5_canWave_26 : decode cX5_canWave 26 = .ok (.iand, 1) := by decide +kernel
theorem dX5_canWave_27 : decode cX5_canWave 27 = .ok (.iconst 1, 1) := by decide +kernel
theorem dX5_canWave_28 : decode cX5_canWave 28 = .ok (.if_icmp .ne 16, 3) := by decide +kernel
theorem dX5_canWave_31 : decode cX5_canWave 31 = .ok (.iconst 1, 1) := by decide +kernel
theorem dX5_canWave_32 : decode cX5_canWave 32 = .ok (.aload_n 0, 1) := by decide +kernel
theorem dX5_canWave_33 : decode cX5_canWave 33 = .ok (.getfield 16, 3) := by decide +kernel
theorem dX5_canWave_36 : decode cX5_canWave 36 = .ok (.iconst 3, 1) := by decide +kernel
theorem dX5_canWave_37 : decode cX5_canWave 37 = .ok (.iload_n 1, 1) := by decide +kernel
theorem dX5_canWave_38 : decode cX5_canWave 38 = .ok (.imul, 1) := by decide +kernel
theorem dX5_canWave_39 : decode cX5_canWave 39 = .ok (.iaload, 1) := by decide +kernel
theorem dX5_canWave_40 : decode cX5_canWave 40 = .ok (.ishl, 1) := by decide +kernel
theorem dX5_canWave_41 : decode cX5_canWave 41 = .ok (.goto 4, 3) := by decide +kernel
theorem dX5_canWave_44 : decode cX5_canWave 44 = .ok (.iconst 0, 1) := by decide +kernel
theorem dX5_canWave_45 : decode cX5_canWave 45 = .ok (.invokevirtual 117, 3) := by decide +kernel
theorem dX5_canWave_48 : decode cX5_canWave 48 = .ok (.iload 4, 2) := by decide +kernel
theorem dX5_canWave_50 : decode cX5_canWave 50 = .ok (.ifCond .eq 18, 3) := by decide +kernel
theorem dX5_canWave_53 : decode cX5_canWave 53 = .ok (.aload_n 0, 1) := by decide +kernel
theorem dX5_canWave_54 : decode cX5_canWave 54 = .ok (.iload 5, 2) := by decide +kernel
theorem dX5_canWave_56 : decode cX5_canWave 56 = .ok (.iconst 1, 1) := by decide +kernel
theorem dX5_canWave_57 : decode cX5_canWave 57 = .ok (.iadd, 1) := by decide +kernel
theorem dX5_canWave_58 : decode cX5_canWave 58 = .ok (.invokevirtual 166, 3) := by decide +kernel
theorem dX5_canWave_61 : decode cX5_canWave 61 = .ok (.ifCond .eq 7, 3) := by decide +kernel
theorem dX5_canWave_64 : decode cX5_canWave 64 = .ok (.iconst 1, 1) := by decide +kernel
theorem dX5_canWave_65 : decode cX5_canWave 65 = .ok (.goto 4, 3) := by decide +kernel
theorem dX5_canWave_68 : decode cX5_canWave 68 = .ok (.iconst 0, 1) := by decide +kernel
theorem dX5_canWave_69 : decode cX5_canWave 69 = .ok (.istore 4, 2) := by decide +kernel
theorem dX5_canWave_71 : decode cX5_canWave 71 = .ok (.iinc 5 1, 3) := by decide +kernel
theorem dX5_canWave_74 : decode cX5_canWave 74 = .ok (.goto (-60), 3) := by decide +kernel
theorem dX5_canWave_77 : decode cX5_canWave 77 = .ok (.iload 4, 2) := by decide +kernel
theorem dX5_canWave_79 : decode cX5_canWave 79 = .ok (.ireturn, 1) := by decide +kernel
set_option maxRecDepth 20000 in
theorem ggX5_wavedOf_X5_canWave : GoodIn wsX5_wavedOf wsX5_canWave := goodIn_r _ [5, 6, 7, 8, 9, 4, 10, 11, 12, 13, 14, 15, 16, 17, 18, 19, 20, 21, 22, 23, 24, 25, 26, 27, 28, 29, 30, 31, 32, 33, 34, 35, 36, 37, 38, 39, 40, 41, 42, 43, 44, 45, 46, 47, 48, 49, 50, 51] (by decide +kernel) (by decide +kernel)
set_option maxRecDepth 20000 in
theorem gX5_wavedOf_X5_canWave : GoodIn wsX5_wavedOf (wsV RX5 169 RX5 yX5_canWave wsX5_canWave) := goodIn_app (goodIn_of _ (by decide +kernel)) ggX5_wavedOf_X5_canWave
theorem dX5_wavedOf_0 : decode cX5_wavedOf 0 = .ok (.iconst 0, 1) := by decide +kernel
theorem dX5_wavedOf_1 : decode cX5_wavedOf 1 = .ok (.istore 4, 2) := by decide +kernel
theorem dX5_wavedOf_3 : decode cX5_wavedOf 3 = .ok (.iconst (-1), 1) := by decide +kernel
theorem dX5_wavedOf_4 : decode cX5_wavedOf 4 = .ok (.istore 5, 2) := by decide +kernel
theorem dX5_wavedOf_6 : decode cX5_wavedOf 6 = .ok (.iconst 1, 1) := by decide +kernel
theorem dX5_wavedOf_7 : decode cX5_wavedOf 7 = .ok (.iload_n 2, 1) := by decide +kernel
theorem dX5_wavedOf_8 : decode cX5_wavedOf 8 = .ok (.ishl, 1) := by decide +kernel
theorem dX5_wavedOf_9 : decode cX5_wavedOf 9 = .ok (.iconst 1, 1) := by decide +kernel
theorem dX5_wavedOf_10 : decode cX5_wavedOf 10 = .ok (.isub, 1) := by decide +kernel
theorem dX5_wavedOf_11 : decode cX5_wavedOf 11 = .ok (.istore 6, 2) := by decide +kernel
theorem dX5_wavedOf_13 : decode cX5_wavedOf 13 = .ok (.iload 6, 2) := by decide +kernel
theorem dX5_wavedOf_15 : decode cX5_wavedOf 15 = .ok (.ifCond .lt 27, 3) := by decide +kernel
theorem dX5_wavedOf_18 : decode cX5_wavedOf 18 = .ok (.aload_n 0, 1) := by decide +kernel
theorem dX5_wavedOf_19 : decode cX5_wavedOf 19 = .ok (.iload_n 1, 1) := by decide +kernel
theorem dX5_wavedOf_20 : decode cX5_wavedOf 20 = .ok (.iload_n 2, 1) := by decide +kernel
theorem dX5_wavedOf_21 : decode cX5_wavedOf 21 = .ok (.iload 6, 2) := by decide +kernel
theorem dX5_wavedOf_23 : decode cX5_wavedOf 23 = .ok (.invokevirtual 169, 3) := by decide +kernel
theorem dX5_wavedOf_26 : decode cX5_wavedOf 26 = .ok (.ifCond .eq 10, 3) := by decide +kernel
theorem dX5_wavedOf_29 : decode cX5_wavedOf 29 = .ok (.iinc 4 1, 3) := by decide +kernel
theorem dX5_wavedOf_32 : decode cX5_wavedOf 32 = .ok (.iload 6, 2) := by decide +kernel
theorem dX5_wavedOf_34 : decode cX5_wavedOf 34 = .ok (.istore 5, 2) := by decide +kernel
theorem dX5_wavedOf_36 : decode cX5_wavedOf 36 = .ok (.iinc 6 (-1), 3) := by decide +kernel
theorem dX5_wavedOf_39 : decode cX5_wavedOf 39 = .ok (.goto (-26), 3) := by decide +kernel
theorem dX5_wavedOf_42 : decode cX5_wavedOf 42 = .ok (.iload_n 3, 1) := by decide +kernel
theorem dX5_wavedOf_43 : decode cX5_wavedOf 43 = .ok (.ifCond .ne 8, 3) := by decide +kernel
theorem dX5_wavedOf_46 : decode cX5_wavedOf 46 = .ok (.iload 4, 2) := by decide +kernel
theorem dX5_wavedOf_48 : decode cX5_wavedOf 48 = .ok (.goto 5, 3) := by decide +kernel
theorem dX5_wavedOf_51 : decode cX5_wavedOf 51 = .ok (.iload 5, 2) := by decide +kernel
theorem dX5_wavedOf_53 : decode cX5_wavedOf 53 = .ok (.ireturn, 1) := by decide +kernel
set_option maxRecDepth 20000 in
theorem ggX5_waved_X5_isPerson : GoodIn wsX5_waved wsX5_isPerson := goodIn_r _ [6, 7, 8, 9, 5, 10, 41, 42, 43, 44, 45, 46, 47, 48, 49, 50, 51, 52, 53, 54, 55, 56, 57, 58, 59, 60, 61, 62, 63, 64] (by decide +kernel) (by decide +kernel)
set_option maxRecDepth 20000 in
theorem gX5_waved_X5_isPerson : GoodIn wsX5_waved (wsV RX5 101 RX5 yX5_isPerson wsX5_isPerson) := goodIn_app (goodIn_of _ (by decide +kernel)) ggX5_waved_X5_isPerson
set_option maxRecDepth 20000 in
theorem ggX5_waved_X5_in : GoodIn wsX5_waved wsX5_in := goodIn_r _ [10] (by decide +kernel) (by decide +kernel)
set_option maxRecDepth 20000 in
theorem gX5_waved_X5_in : GoodIn wsX5_waved (va_wsS RX5 46 yX5_in wsX5_in) := goodIn_app (goodIn_of _ (by decide +kernel)) ggX5_waved_X5_in
set_option maxRecDepth 20000 in
theorem ggX5_waved_X5_wavedOf : GoodIn wsX5_waved wsX5_wavedOf := goodIn_r _ [14, 15, 16, 17, 5, 18, 19, 20, 21, 22, 23, 24, 25, 26, 27, 28, 29, 30, 31, 32, 33, 34, 35, 36, 37, 38, 39, 40, 41, 42, 43, 44, 45, 46, 47, 48, 49, 50, 51, 52, 53, 54, 55, 56, 57, 58, 59, 60, 61, 62, 63, 64] (by decide +kernel) (by decide +kernel)
set_option maxRecDepth 20000 in
theorem gX5_waved_X5_wavedOf : GoodIn wsX5_waved (wsV RX5 172 RX5 yX5_wavedOf wsX5_wavedOf) := goodIn_app (goodIn_of _ (by decide +kernel)) ggX5_waved_X5_wavedOf
theorem dX5_waved_0 : decode cX5_waved 0 = .ok (.aload_n 0, 1) := by decide +kernel
theorem dX5_waved_1 : decode cX5_waved 1 = .ok (.iload_n 1, 1) := by decide +kernel
theorem dX5_waved_2 : decode cX5_waved 2 = .ok (.invokevirtual 101, 3) := by decide +kernel
theorem dX5_waved_5 : decode cX5_waved 5 = .ok (.ifCond .ne 6, 3) := by decide +kernel
theorem dX5_waved_8 : decode cX5_waved 8 = .ok (.bipush (-101), 2) := by decide +kernel
theorem dX5_waved_10 : decode cX5_waved 10 = .ok (.ireturn, 1) := by decide +kernel
theorem dX5_waved_11 : decode cX5_waved 11 = .ok (.iload_n 2, 1) := by decide +kernel
theorem dX5_waved_12 : decode cX5_waved 12 = .ok (.i2l, 1) := by decide +kernel
theorem dX5_waved_13 : decode cX5_waved 13 = .ok (.lconst 1, 1) := by decide +kernel
theorem dX5_waved_14 : decode cX5_waved 14 = .ok (.ldc2_w 164, 3) := by decide +kernel
theorem dX5_waved_17 : decode cX5_waved 17 = .ok (.invokestatic 46, 3) := by decide +kernel
theorem dX5_waved_20 : decode cX5_waved 20 = .ok (.ifCond .eq 23, 3) := by decide +kernel
theorem dX5_waved_23 : decode cX5_waved 23 = .ok (.iload_n 3, 1) := by decide +kernel
theorem dX5_waved_24 : decode cX5_waved 24 = .ok (.i2l, 1) := by decide +kernel
theorem dX5_waved_25 : decode cX5_waved 25 = .ok (.lconst 0, 1) := by decide +kernel
theorem dX5_waved_26 : decode cX5_waved 26 = .ok (.lconst 1, 1) := by decide +kernel
theorem dX5_waved_27 : decode cX5_waved 27 = .ok (.invokestatic 46, 3) := by decide +kernel
theorem dX5_waved_30 : decode cX5_waved 30 = .ok (.ifCond .eq 13, 3) := by decide +kernel
theorem dX5_waved_33 : decode cX5_waved 33 = .ok (.aload_n 0, 1) := by decide +kernel
theorem dX5_waved_34 : decode cX5_waved 34 = .ok (.iload_n 1, 1) := by decide +kernel
theorem dX5_waved_35 : decode cX5_waved 35 = .ok (.iload_n 2, 1) := by decide +kernel
theorem dX5_waved_36 : decode cX5_waved 36 = .ok (.iload_n 3, 1) := by decide +kernel
theorem dX5_waved_37 : decode cX5_waved 37 = .ok (.invokevirtual 172, 3) := by decide +kernel
theorem dX5_waved_40 : decode cX5_waved 40 = .ok (.goto 5, 3) := by decide +kernel
theorem dX5_waved_43 : decode cX5_waved 43 = .ok (.bipush (-102), 2) := by decide +kernel
theorem dX5_waved_45 : decode cX5_waved 45 = .ok (.ireturn, 1) := by decide +kernel
set_option maxRecDepth 20000 in
theorem ggX5_lookOf_X5_canWave : GoodIn wsX5_lookOf wsX5_canWave := goodIn_r _ [7, 8, 9, 10, 11, 6, 12, 1, 2, 13, 14, 15, 16, 17, 18, 19, 20, 21, 22, 23, 24, 25, 26, 27, 28, 29, 30, 31, 32, 33, 34, 35, 36, 37, 38, 39, 40, 41, 42, 43, 44, 45, 46, 47, 48, 49, 50, 51] (by decide +kernel) (by decide +kernel)
set_option maxRecDepth 20000 in
theorem gX5_lookOf_X5_canWave : GoodIn wsX5_lookOf (wsV RX5 169 RX5 yX5_canWave wsX5_canWave) := goodIn_app (goodIn_of _ (by decide +kernel)) ggX5_lookOf_X5_canWave
theorem dX5_lookOf_0 : decode cX5_lookOf 0 = .ok (.iconst (-1), 1) := by decide +kernel
theorem dX5_lookOf_1 : decode cX5_lookOf 1 = .ok (.istore_n 3, 1) := by decide +kernel
theorem dX5_lookOf_2 : decode cX5_lookOf 2 = .ok (.iconst (-1), 1) := by decide +kernel
theorem dX5_lookOf_3 : decode cX5_lookOf 3 = .ok (.istore 4, 2) := by decide +kernel
theorem dX5_lookOf_5 : decode cX5_lookOf 5 = .ok (.iconst 0, 1) := by decide +kernel
theorem dX5_lookOf_6 : decode cX5_lookOf 6 = .ok (.istore 5, 2) := by decide +kernel
theorem dX5_lookOf_8 : decode cX5_lookOf 8 = .ok (.iload 5, 2) := by decide +kernel
theorem dX5_lookOf_10 : decode cX5_lookOf 10 = .ok (.aload_n 0, 1) := by decide +kernel
theorem dX5_lookOf_11 : decode cX5_lookOf 11 = .ok (.getfield 67, 3) := by decide +kernel
theorem dX5_lookOf_14 : decode cX5_lookOf 14 = .ok (.if_icmp .ge 158, 3) := by decide +kernel
theorem dX5_lookOf_17 : decode cX5_lookOf 17 = .ok (.iconst 0, 1) := by decide +kernel
theorem dX5_lookOf_18 : decode cX5_lookOf 18 = .ok (.istore 6, 2) := by decide +kernel
theorem dX5_lookOf_20 : decode cX5_lookOf 20 = .ok (.iconst 0, 1) := by decide +kernel
theorem dX5_lookOf_21 : decode cX5_lookOf 21 = .ok (.istore 7, 2) := by decide +kernel
theorem dX5_lookOf_23 : decode cX5_lookOf 23 = .ok (.iconst 0, 1) := by decide +kernel
theorem dX5_lookOf_24 : decode cX5_lookOf 24 = .ok (.istore 8, 2) := by decide +kernel
theorem dX5_lookOf_26 : decode cX5_lookOf 26 = .ok (.iload 8, 2) := by decide +kernel
theorem dX5_lookOf_28 : decode cX5_lookOf 28 = .ok (.iconst 1, 1) := by decide +kernel
theorem dX5_lookOf_29 : decode cX5_lookOf 29 = .ok (.iload_n 2, 1) := by decide +kernel
theorem dX5_lookOf_30 : decode cX5_lookOf 30 = .ok (.ishl, 1) := by decide +kernel
theorem dX5_lookOf_31 : decode cX5_lookOf 31 = .ok (.if_icmp .ge 69, 3) := by decide +kernel
theorem dX5_lookOf_34 : decode cX5_lookOf 34 = .ok (.aload_n 0, 1) := by decide +kernel
theorem dX5_lookOf_35 : decode cX5_lookOf 35 = .ok (.iload_n 1, 1) := by decide +kernel
theorem dX5_lookOf_36 : decode cX5_lookOf 36 = .ok (.iload_n 2, 1) := by decide +kernel
theorem dX5_lookOf_37 : decode cX5_lookOf 37 = .ok (.iload 8, 2) := by decide +kernel
theorem dX5_lookOf_39 : decode cX5_lookOf 39 = .ok (.invokevirtual 169, 3) := by decide +kernel
theorem dX5_lookOf_42 : decode cX5_lookOf 42 = .ok (.istore 9, 2) := by decide +kernel
theorem dX5_lookOf_44 : decode cX5_lookOf 44 = .ok (.iload 6, 2) := by decide +kernel
theorem dX5_lookOf_46 : decode cX5_lookOf 46 = .ok (.iload 9, 2) := by decide +kernel
theorem dX5_lookOf_48 : decode cX5_lookOf 48 = .ok (.ifCond .eq 17, 3) := by decide +kernel
theorem dX5_lookOf_51 : decode cX5_lookOf 51 = .ok (.aload_n 0, 1) := by decide +kernel
theorem dX5_lookOf_52 : decode cX5_lookOf 52 = .ok (.getfield 19, 3) := by decide +kernel
theorem dX5_lookOf_55 : decode cX5_lookOf 55 = .ok (.iload 5, 2) := by decide +kernel
theorem dX5_lookOf_57 : decode cX5_lookOf 57 = .ok (.iaload, 1) := by decide +kernel
theorem dX5_lookOf_58 : decode cX5_lookOf 58 = .ok (.ifCond .le 7, 3) := by decide +kernel
theorem dX5_lookOf_61 : decode cX5_lookOf 61 = .ok (.iconst 1, 1) := by decide +kernel
theorem dX5_lookOf_62 : decode cX5_lookOf 62 = .ok (.goto 4, 3) := by decide +kernel
theorem dX5_lookOf_65 : decode cX5_lookOf 65 = .ok (.iconst 0, 1) := by decide +kernel
theorem dX5_lookOf_66 : decode cX5_lookOf 66 = .ok (.iadd, 1) := by decide +kernel
theorem dX5_lookOf_67 : decode cX5_lookOf 67 = .ok (.istore 6, 2) := by decide +kernel
theorem dX5_lookOf_69 : decode cX5_lookOf 69 = .ok (.iload 7, 2) := by decide +kernel
theorem dX5_lookOf_71 : decode cX5_lookOf 71 = .ok (.iload 9, 2) := by decide +kernel
theorem dX5_lookOf_73 : decode cX5_lookOf 73 = .ok (.ifCond .eq 17, 3) := by decide +kernel
theorem dX5_lookOf_76 : decode cX5_lookOf 76 = .ok (.aload_n 0, 1) := by decide +kernel
theorem dX5_lookOf_77 : decode cX5_lookOf 77 = .ok (.getfield 19, 3) := by decide +kernel
theorem dX5_lookOf_80 : decode cX5_lookOf 80 = .ok (.iload 5, 2) := by decide +kernel
theorem dX5_lookOf_82 : decode cX5_lookOf 82 = .ok (.iaload, 1) := by decide +kernel
theorem dX5_lookOf_83 : decode cX5_lookOf 83 = .ok (.ifCond .ne 7, 3) := by decide +kernel
theorem dX5_lookOf_86 : decode cX5_lookOf 86 = .ok (.iconst 1, 1) := by decide +kernel
theorem dX5_lookOf_87 : decode cX5_lookOf 87 = .ok (.goto 4, 3) := by decide +kernel
theorem dX5_lookOf_90 : decode cX5_lookOf 90 = .ok (.iconst 0, 1) := by decide +kernel
theorem dX5_lookOf_91 : decode cX5_lookOf 91 = .ok (.iadd, 1) := by decide +kernel
theorem dX5_lookOf_92 : decode cX5_lookOf 92 = .ok (.istore 7, 2) := by decide +kernel
theorem dX5_lookOf_94 : decode cX5_lookOf 94 = .ok (.iinc 8 1, 3) := by decide +kernel
theorem dX5_lookOf_97 : decode cX5_lookOf 97 = .ok (.goto (-71), 3) := by decide +kernel
theorem dX5_lookOf_100 : decode cX5_lookOf 100 = .ok (.iload 6, 2) := by decide +kernel
theorem dX5_lookOf_102 : decode cX5_lookOf 102 = .ok (.iload 7, 2) := by decide +kernel
theorem dX5_lookOf_104 : decode cX5_lookOf 104 = .ok (.if_icmp .le 8, 3) := by decide +kernel
theorem dX5_lookOf_107 : decode cX5_lookOf 107 = .ok (.iload 6, 2) := by decide +kernel
theorem dX5_lookOf_109 : decode cX5_lookOf 109 = .ok (.goto 5, 3) := by decide +kernel
theorem dX5_lookOf_112 : decode cX5_lookOf 112 = .ok (.iload 7, 2) := by decide +kernel
theorem dX5_lookOf_114 : decode cX5_lookOf 114 = .ok (.istore 8, 2) := by decide +kernel
theorem dX5_lookOf_116 : decode cX5_lookOf 116 = .ok (.iload 8, 2) := by decide +kernel
theorem dX5_lookOf_118 : decode cX5_lookOf 118 = .ok (.ifCond .le 19, 3) := by decide +kernel
theorem dX5_lookOf_121 : decode cX5_lookOf 121 = .ok (.iload_n 3, 1) := by decide +kernel
theorem dX5_lookOf_122 : decode cX5_lookOf 122 = .ok (.iconst (-1), 1) := by decide +kernel
theorem dX5_lookOf_123 : decode cX5_lookOf 123 = .ok (.if_icmp .eq 10, 3) := by decide +kernel
theorem dX5_lookOf_126 : decode cX5_lookOf 126 = .ok (.iload 8, 2) := by decide +kernel
theorem dX5_lookOf_128 : decode cX5_lookOf 128 = .ok (.iload 4, 2) := by decide +kernel
theorem dX5_lookOf_130 : decode cX5_lookOf 130 = .ok (.if_icmp .ge 7, 3) := by decide +kernel
theorem dX5_lookOf_133 : decode cX5_lookOf 133 = .ok (.iconst 1, 1) := by decide +kernel
theorem dX5_lookOf_134 : decode cX5_lookOf 134 = .ok (.goto 4, 3) := by decide +kernel
theorem dX5_lookOf_137 : decode cX5_lookOf 137 = .ok (.iconst 0, 1) := by decide +kernel
theorem dX5_lookOf_138 : decode cX5_lookOf 138 = .ok (.istore 9, 2) := by decide +kernel
theorem dX5_lookOf_140 : decode cX5_lookOf 140 = .ok (.iload 9, 2) := by decide +kernel
theorem dX5_lookOf_142 : decode cX5_lookOf 142 = .ok (.ifCond .eq 8, 3) := by decide +kernel
theorem dX5_lookOf_145 : decode cX5_lookOf 145 = .ok (.iload 5, 2) := by decide +kernel
theorem dX5_lookOf_147 : decode cX5_lookOf 147 = .ok (.goto 4, 3) := by decide +kernel
theorem dX5_lookOf_150 : decode cX5_lookOf 150 = .ok (.iload_n 3, 1) := by decide +kernel
theorem dX5_lookOf_151 : decode cX5_lookOf 151 = .ok (.istore_n 3, 1) := by decide +kernel
theorem dX5_lookOf_152 : decode cX5_lookOf 152 = .ok (.iload 9, 2) := by decide +kernel
theorem dX5_lookOf_154 : decode cX5_lookOf 154 = .ok (.ifCond .eq 8, 3) := by decide +kernel
theorem dX5_lookOf_157 : decode cX5_lookOf 157 = .ok (.iload 8, 2) := by decide +kernel
theorem dX5_lookOf_159 : decode cX5_lookOf 159 = .ok (.goto 5, 3) := by decide +kernel
theorem dX5_lookOf_162 : decode cX5_lookOf 162 = .ok (.iload 4, 2) := by decide +kernel
theorem dX5_lookOf_164 : decode cX5_lookOf 164 = .ok (.istore 4, 2) := by decide +kernel
theorem dX5_lookOf_166 : decode cX5_lookOf 166 = .ok (.iinc 5 1, 3) := by decide +kernel
theorem dX5_lookOf_169 : decode cX5_lookOf 169 = .ok (.goto (-161), 3) := by decide +kernel
theorem dX5_lookOf_172 : decode cX5_lookOf 172 = .ok (.iload_n 3, 1) := by decide +kernel
theorem dX5_lookOf_173 : decode cX5_lookOf 173 = .ok (.ireturn, 1) := by decide +kernel
set_option maxRecDepth 20000 in
theorem ggX5_look_X5_isPerson : GoodIn wsX5_look wsX5_isPerson := goodIn_r _ [6, 7, 8, 9, 5, 10, 41, 42, 43, 44, 45, 46, 47, 48, 49, 50, 51, 52, 53, 54, 55, 56, 57, 58, 59, 60, 61, 62, 63, 64] (by decide +kernel) (by decide +kernel)
set_option maxRecDepth 20000 in
theorem gX5_look_X5_isPerson : GoodIn wsX5_look (wsV RX5 101 RX5 yX5_isPerson wsX5_isPerson) := goodIn_app (goodIn_of _ (by decide +kernel)) ggX5_look_X5_isPerson
set_option maxRecDepth 20000 in
theorem ggX5_look_X5_in : GoodIn wsX5_look wsX5_in := goodIn_r _ [10] (by decide +kernel) (by decide +kernel)
set_option maxRecDepth 20000 in
theorem gX5_look_X5_in : GoodIn wsX5_look (va_wsS RX5 46 yX5_in wsX5_in) := goodIn_app (goodIn_of _ (by decide +kernel)) ggX5_look_X5_in
set_option maxRecDepth 20000 in
theorem ggX5_look_X5_lookOf : GoodIn wsX5_look wsX5_lookOf := goodIn_r _ [14, 15, 16, 17, 18, 19, 5, 20, 21, 22, 23, 24, 25, 26, 27, 28, 29, 30, 31, 32, 33, 34, 35, 36, 37, 38, 39, 40, 41, 42, 43, 44, 45, 46, 47, 48, 49, 50, 51, 52, 53, 54, 55, 56, 57, 58, 59, 60, 61, 62, 63, 64] (by decide +kernel) (by decide +kernel)
set_option maxRecDepth 20000 in
theorem gX5_look_X5_lookOf : GoodIn wsX5_look (wsV RX5 176 RX5 yX5_lookOf wsX5_lookOf) := goodIn_app (goodIn_of _ (by decide +kernel)) ggX5_look_X5_lookOf
theorem dX5_look_0 : decode cX5_look 0 = .ok (.aload_n 0, 1) := by decide +kernel
theorem dX5_look_1 : decode cX5_look 1 = .ok (.iload_n 1, 1) := by decide +kernel
theorem dX5_look_2 : decode cX5_look 2 = .ok (.invokevirtual 101, 3) := by decide +kernel
theorem dX5_look_5 : decode cX5_look 5 = .ok (.ifCond .ne 6, 3) := by decide +kernel
theorem dX5_look_8 : decode cX5_look 8 = .ok (.bipush (-101), 2) := by decide +kernel
theorem dX5_look_10 : decode cX5_look 10 = .ok (.ireturn, 1) := by decide +kernel
theorem dX5_look_11 : decode cX5_look 11 = .ok (.iload_n 2, 1) := by decide +kernel
theorem dX5_look_12 : decode cX5_look 12 = .ok (.i2l, 1) := by decide +kernel
theorem dX5_look_13 : decode cX5_look 13 = .ok (.lconst 1, 1) := by decide +kernel
theorem dX5_look_14 : decode cX5_look 14 = .ok (.ldc2_w 164, 3) := by decide +kernel
theorem dX5_look_17 : decode cX5_look 17 = .ok (.invokestatic 46, 3) := by decide +kernel
theorem dX5_look_20 : decode cX5_look 20 = .ok (.ifCond .eq 12, 3) := by decide +kernel
theorem dX5_look_23 : decode cX5_look 23 = .ok (.aload_n 0, 1) := by decide +kernel
theorem dX5_look_24 : decode cX5_look 24 = .ok (.iload_n 1, 1) := by decide +kernel
theorem dX5_look_25 : decode cX5_look 25 = .ok (.iload_n 2, 1) := by decide +kernel
theorem dX5_look_26 : decode cX5_look 26 = .ok (.invokevirtual 176, 3) := by decide +kernel
theorem dX5_look_29 : decode cX5_look 29 = .ok (.goto 5, 3) := by decide +kernel
theorem dX5_look_32 : decode cX5_look 32 = .ok (.bipush (-102), 2) := by decide +kernel
theorem dX5_look_34 : decode cX5_look 34 = .ok (.ireturn, 1) := by decide +kernel
theorem dX5_draw_0 : decode cX5_draw 0 = .ok (.aload_n 0, 1) := by decide +kernel
theorem dX5_draw_1 : decode cX5_draw 1 = .ok (.ldc2_w 179, 3) := by decide +kernel
theorem dX5_draw_4 : decode cX5_draw 4 = .ok (.aload_n 0, 1) := by decide +kernel
theorem dX5_draw_5 : decode cX5_draw 5 = .ok (.getfield 181, 3) := by decide +kernel
theorem dX5_draw_8 : decode cX5_draw 8 = .ok (.i2l, 1) := by decide +kernel
theorem dX5_draw_9 : decode cX5_draw 9 = .ok (.lmul, 1) := by decide +kernel
theorem dX5_draw_10 : decode cX5_draw 10 = .ok (.ldc2_w 184, 3) := by decide +kernel
theorem dX5_draw_13 : decode cX5_draw 13 = .ok (.ladd, 1) := by decide +kernel
theorem dX5_draw_14 : decode cX5_draw 14 = .ok (.ldc2_w 186, 3) := by decide +kernel
theorem dX5_draw_17 : decode cX5_draw 17 = .ok (.land, 1) := by decide +kernel
theorem dX5_draw_18 : decode cX5_draw 18 = .ok (.l2i, 1) := by decide +kernel
theorem dX5_draw_19 : decode cX5_draw 19 = .ok (.putfield 181, 3) := by decide +kernel
theorem dX5_draw_22 : decode cX5_draw 22 = .ok (.aload_n 0, 1) := by decide +kernel
theorem dX5_draw_23 : decode cX5_draw 23 = .ok (.getfield 181, 3) := by decide +kernel
theorem dX5_draw_26 : decode cX5_draw 26 = .ok (.ldc 188, 2) := by decide +kernel
theorem dX5_draw_28 : decode cX5_draw 28 = .ok (.idiv, 1) := by decide +kernel
theorem dX5_draw_29 : decode cX5_draw 29 = .ok (.iload_n 1, 1) := by decide +kernel
theorem dX5_draw_30 : decode cX5_draw 30 = .ok (.irem, 1) := by decide +kernel
theorem dX5_draw_31 : decode cX5_draw 31 = .ok (.ireturn, 1) := by decide +kernel
set_option maxRecDepth 20000 in
theorem ggX5_nights_X5_in : GoodIn wsX5_nights wsX5_in := goodIn_r _ [10] (by decide +kernel) (by decide +kernel)
set_option maxRecDepth 20000 in
theorem gX5_nights_X5_in : GoodIn wsX5_nights (va_wsS RX5 46 yX5_in wsX5_in) := goodIn_app (goodIn_of _ (by decide +kernel)) ggX5_nights_X5_in
set_option maxRecDepth 20000 in
theorem ggX5_nights_X5_lacks : GoodIn wsX5_nights wsX5_lacks := goodIn_r _ [14, 5, 45, 46, 47, 48, 49, 50, 51, 52, 53, 54, 55, 56, 57, 58, 59, 60, 61, 62, 63, 64, 65, 66, 67, 68] (by decide +kernel) (by decide +kernel)
set_option maxRecDepth 20000 in
theorem gX5_nights_X5_lacks : GoodIn wsX5_nights (wsV RX5 107 RX5 yX5_lacks wsX5_lacks) := goodIn_app (goodIn_of _ (by decide +kernel)) ggX5_nights_X5_lacks
set_option maxRecDepth 20000 in
theorem ggX5_nights_X5_asItIs : GoodIn wsX5_nights wsX5_asItIs := goodIn_r _ [18, 5, 6, 19, 45, 46, 47, 48, 49, 50, 51, 52, 53, 54, 55, 56, 57, 58, 59, 60, 61, 62, 63, 64, 65, 66, 67, 68] (by decide +kernel) (by decide +kernel)
set_option maxRecDepth 20000 in
theorem gX5_nights_X5_asItIs : GoodIn wsX5_nights (wsV RX5 111 RX5 yX5_asItIs wsX5_asItIs) := goodIn_app (goodIn_of _ (by decide +kernel)) ggX5_nights_X5_asItIs
set_option maxRecDepth 20000 in
theorem ggX5_nights_X5_draw : GoodIn wsX5_nights wsX5_draw := goodIn_r _ [23, 24, 3, 25, 26, 27, 45, 46, 47, 48, 49, 50, 51, 52, 53, 54, 55, 56, 57, 58, 59, 60, 61, 62, 63, 64, 65, 66, 67, 68] (by decide +kernel) (by decide +kernel)
set_option maxRecDepth 20000 in
theorem gX5_nights_X5_draw : GoodIn wsX5_nights (wsV RX5 193 RX5 yX5_draw wsX5_draw) := goodIn_app (goodIn_of _ (by decide +kernel)) ggX5_nights_X5_draw
set_option maxRecDepth 20000 in
theorem ggX5_nights_X5_sectionsOf : GoodIn wsX5_nights wsX5_sectionsOf := goodIn_r _ [31, 4, 32, 45, 46, 47, 48, 49, 50, 51, 52, 53, 54, 55, 56, 57, 58, 59, 60, 61, 62, 63, 64, 65, 66, 67, 68] (by decide +kernel) (by decide +kernel)
set_option maxRecDepth 20000 in
theorem gX5_nights_X5_sectionsOf : GoodIn wsX5_nights (wsV RX5 114 RX5 yX5_sectionsOf wsX5_sectionsOf) := goodIn_app (goodIn_of _ (by decide +kernel)) ggX5_nights_X5_sectionsOf
set_option maxRecDepth 20000 in
theorem ggX5_nights_X5_goesBy : GoodIn wsX5_nights wsX5_goesBy := goodIn_r _ [36, 5, 6, 19, 37, 38, 39, 9, 40, 45, 46, 47, 48, 49, 50, 51, 52, 53, 54, 55, 56, 57, 58, 59, 60, 61, 62, 63, 64, 65, 66, 67, 68] (by decide +kernel) (by decide +kernel)
set_option maxRecDepth 20000 in
theorem gX5_nights_X5_goesBy : GoodIn wsX5_nights (wsV RX5 117 RX5 yX5_goesBy wsX5_goesBy) := goodIn_app (goodIn_of _ (by decide +kernel)) ggX5_nights_X5_goesBy
set_option maxRecDepth 20000 in
theorem ggX5_nights_X5_darkNow : GoodIn wsX5_nights wsX5_darkNow := goodIn_r _ [44, 4, 6, 32, 45, 46, 47, 48, 49, 50, 51, 52, 53, 54, 55, 56, 57, 58, 59, 60, 61, 62, 63, 64, 65, 66, 67, 68] (by decide +kernel) (by decide +kernel)
set_option maxRecDepth 20000 in
theorem gX5_nights_X5_darkNow : GoodIn wsX5_nights (wsV RX5 121 RX5 yX5_darkNow wsX5_darkNow) := goodIn_app (goodIn_of _ (by decide +kernel)) ggX5_nights_X5_darkNow
theorem dX5_nights_0 : decode cX5_nights 0 = .ok (.iload_n 1, 1) := by decide +kernel
theorem dX5_nights_1 : decode cX5_nights 1 = .ok (.i2l, 1) := by decide +kernel
theorem dX5_nights_2 : decode cX5_nights 2 = .ok (.lconst 1, 1) := by decide +kernel
theorem dX5_nights_3 : decode cX5_nights 3 = .ok (.ldc2_w 189, 3) := by decide +kernel
theorem dX5_nights_6 : decode cX5_nights 6 = .ok (.invokestatic 46, 3) := by decide +kernel
theorem dX5_nights_9 : decode cX5_nights 9 = .ok (.ifCond .eq 19, 3) := by decide +kernel
theorem dX5_nights_12 : decode cX5_nights 12 = .ok (.iload_n 2, 1) := by decide +kernel
theorem dX5_nights_13 : decode cX5_nights 13 = .ok (.ifCond .lt 15, 3) := by decide +kernel
theorem dX5_nights_16 : decode cX5_nights 16 = .ok (.iload_n 3, 1) := by decide +kernel
theorem dX5_nights_17 : decode cX5_nights 17 = .ok (.i2l, 1) := by decide +kernel
theorem dX5_nights_18 : decode cX5_nights 18 = .ok (.lconst 0, 1) := by decide +kernel
theorem dX5_nights_19 : decode cX5_nights 19 = .ok (.ldc2_w 191, 3) := by decide +kernel
theorem dX5_nights_22 : decode cX5_nights 22 = .ok (.invokestatic 46, 3) := by decide +kernel
theorem dX5_nights_25 : decode cX5_nights 25 = .ok (.ifCond .ne 6, 3) := by decide +kernel
theorem dX5_nights_28 : decode cX5_nights 28 = .ok (.bipush (-102), 2) := by decide +kernel
theorem dX5_nights_30 : decode cX5_nights 30 = .ok (.ireturn, 1) := by decide +kernel
theorem dX5_nights_31 : decode cX5_nights 31 = .ok (.aload_n 0, 1) := by decide +kernel
theorem dX5_nights_32 : decode cX5_nights 32 = .ok (.invokevirtual 107, 3) := by decide +kernel
theorem dX5_nights_35 : decode cX5_nights 35 = .ok (.ifCond .eq 6, 3) := by decide +kernel
theorem dX5_nights_38 : decode cX5_nights 38 = .ok (.bipush (-103), 2) := by decide +kernel
theorem dX5_nights_40 : decode cX5_nights 40 = .ok (.ireturn, 1) := by decide +kernel
theorem dX5_nights_41 : decode cX5_nights 41 = .ok (.aload_n 0, 1) := by decide +kernel
theorem dX5_nights_42 : decode cX5_nights 42 = .ok (.invokevirtual 111, 3) := by decide +kernel
theorem dX5_nights_45 : decode cX5_nights 45 = .ok (.aload_n 0, 1) := by decide +kernel
theorem dX5_nights_46 : decode cX5_nights 46 = .ok (.iload_n 2, 1) := by decide +kernel
theorem dX5_nights_47 : decode cX5_nights 47 = .ok (.putfield 181, 3) := by decide +kernel
theorem dX5_nights_50 : decode cX5_nights 50 = .ok (.iconst 0, 1) := by decide +kernel
theorem dX5_nights_51 : decode cX5_nights 51 = .ok (.istore 4, 2) := by decide +kernel
theorem dX5_nights_53 : decode cX5_nights 53 = .ok (.iconst 0, 1) := by decide +kernel
theorem dX5_nights_54 : decode cX5_nights 54 = .ok (.istore 5, 2) := by decide +kernel
theorem dX5_nights_56 : decode cX5_nights 56 = .ok (.iload 5, 2) := by decide +kernel
theorem dX5_nights_58 : decode cX5_nights 58 = .ok (.iload_n 1, 1) := by decide +kernel
theorem dX5_nights_59 : decode cX5_nights 59 = .ok (.if_icmp .ge 71, 3) := by decide +kernel
theorem dX5_nights_62 : decode cX5_nights 62 = .ok (.iconst 0, 1) := by decide +kernel
theorem dX5_nights_63 : decode cX5_nights 63 = .ok (.istore 6, 2) := by decide +kernel
theorem dX5_nights_65 : decode cX5_nights 65 = .ok (.iconst 0, 1) := by decide +kernel
theorem dX5_nights_66 : decode cX5_nights 66 = .ok (.istore 7, 2) := by decide +kernel
theorem dX5_nights_68 : decode cX5_nights 68 = .ok (.iload 7, 2) := by decide +kernel
theorem dX5_nights_70 : decode cX5_nights 70 = .ok (.aload_n 0, 1) := by decide +kernel
theorem dX5_nights_71 : decode cX5_nights 71 = .ok (.getfield 73, 3) := by decide +kernel
theorem dX5_nights_74 : decode cX5_nights 74 = .ok (.if_icmp .ge 31, 3) := by decide +kernel
theorem dX5_nights_77 : decode cX5_nights 77 = .ok (.iload 6, 2) := by decide +kernel
theorem dX5_nights_79 : decode cX5_nights 79 = .ok (.aload_n 0, 1) := by decide +kernel
theorem dX5_nights_80 : decode cX5_nights 80 = .ok (.bipush 6, 2) := by decide +kernel
theorem dX5_nights_82 : decode cX5_nights 82 = .ok (.invokevirtual 193, 3) := by decide +kernel
theorem dX5_nights_85 : decode cX5_nights 85 = .ok (.ifCond .ne 10, 3) := by decide +kernel
theorem dX5_nights_88 : decode cX5_nights 88 = .ok (.iconst 1, 1) := by decide +kernel
theorem dX5_nights_89 : decode cX5_nights 89 = .ok (.iload 7, 2) := by decide +kernel
theorem dX5_nights_91 : decode cX5_nights 91 = .ok (.ishl, 1) := by decide +kernel
theorem dX5_nights_92 : decode cX5_nights 92 = .ok (.goto 4, 3) := by decide +kernel
theorem dX5_nights_95 : decode cX5_nights 95 = .ok (.iconst 0, 1) := by decide +kernel
theorem dX5_nights_96 : decode cX5_nights 96 = .ok (.ior, 1) := by decide +kernel
theorem dX5_nights_97 : decode cX5_nights 97 = .ok (.istore 6, 2) := by decide +kernel
theorem dX5_nights_99 : decode cX5_nights 99 = .ok (.iinc 7 1, 3) := by decide +kernel
theorem dX5_nights_102 : decode cX5_nights 102 = .ok (.goto (-34), 3) := by decide +kernel
theorem dX5_nights_105 : decode cX5_nights 105 = .ok (.aload_n 0, 1) := by decide +kernel
theorem dX5_nights_106 : decode cX5_nights 106 = .ok (.aload_n 0, 1) := by decide +kernel
theorem dX5_nights_107 : decode cX5_nights 107 = .ok (.iload 6, 2) := by decide +kernel
theorem dX5_nights_109 : decode cX5_nights 109 = .ok (.invokevirtual 114, 3) := by decide +kernel
theorem dX5_nights_112 : decode cX5_nights 112 = .ok (.invokevirtual 117, 3) := by decide +kernel
theorem dX5_nights_115 : decode cX5_nights 115 = .ok (.iload 4, 2) := by decide +kernel
theorem dX5_nights_117 : decode cX5_nights 117 = .ok (.aload_n 0, 1) := by decide +kernel
theorem dX5_nights_118 : decode cX5_nights 118 = .ok (.invokevirtual 121, 3) := by decide +kernel
theorem dX5_nights_121 : decode cX5_nights 121 = .ok (.iadd, 1) := by decide +kernel
theorem dX5_nights_122 : decode cX5_nights 122 = .ok (.istore 4, 2) := by decide +kernel
theorem dX5_nights_124 : decode cX5_nights 124 = .ok (.iinc 5 1, 3) := by decide +kernel
theorem dX5_nights_127 : decode cX5_nights 127 = .ok (.goto (-71), 3) := by decide +kernel
theorem dX5_nights_130 : decode cX5_nights 130 = .ok (.iconst 0, 1) := by decide +kernel
theorem dX5_nights_131 : decode cX5_nights 131 = .ok (.istore 5, 2) := by decide +kernel
theorem dX5_nights_133 : decode cX5_nights 133 = .ok (.iconst 0, 1) := by decide +kernel
theorem dX5_nights_134 : decode cX5_nights 134 = .ok (.istore 6, 2) := by decide +kernel
theorem dX5_nights_136 : decode cX5_nights 136 = .ok (.iload 6, 2) := by decide +kernel
theorem dX5_nights_138 : decode cX5_nights 138 = .ok (.aload_n 0, 1) := by decide +kernel
theorem dX5_nights_139 : decode cX5_nights 139 = .ok (.getfield 67, 3) := by decide +kernel
theorem dX5_nights_142 : decode cX5_nights 142 = .ok (.if_icmp .ge 29, 3) := by decide +kernel
theorem dX5_nights_145 : decode cX5_nights 145 = .ok (.iload 5, 2) := by decide +kernel
theorem dX5_nights_147 : decode cX5_nights 147 = .ok (.aload_n 0, 1) := by decide +kernel
theorem dX5_nights_148 : decode cX5_nights 148 = .ok (.getfield 19, 3) := by decide +kernel
theorem dX5_nights_151 : decode cX5_nights 151 = .ok (.iload 6, 2) := by decide +kernel
theorem dX5_nights_153 : decode cX5_nights 153 = .ok (.iaload, 1) := by decide +kernel
theorem dX5_nights_154 : decode cX5_nights 154 = .ok (.ifCond .le 7, 3) := by decide +kernel
theorem dX5_nights_157 : decode cX5_nights 157 = .ok (.iconst 1, 1) := by decide +kernel
theorem dX5_nights_158 : decode cX5_nights 158 = .ok (.goto 4, 3) := by decide +kernel
theorem dX5_nights_161 : decode cX5_nights 161 = .ok (.iconst 0, 1) := by decide +kernel
theorem dX5_nights_162 : decode cX5_nights 162 = .ok (.iadd, 1) := by decide +kernel
theorem dX5_nights_163 : decode cX5_nights 163 = .ok (.istore 5, 2) := by decide +kernel
theorem dX5_nights_165 : decode cX5_nights 165 = .ok (.iinc 6 1, 3) := by decide +kernel
theorem dX5_nights_168 : decode cX5_nights 168 = .ok (.goto (-32), 3) := by decide +kernel
theorem dX5_nights_171 : decode cX5_nights 171 = .ok (.iload_n 3, 1) := by decide +kernel
theorem dX5_nights_172 : decode cX5_nights 172 = .ok (.ifCond .ne 8, 3) := by decide +kernel
theorem dX5_nights_175 : decode cX5_nights 175 = .ok (.iload 4, 2) := by decide +kernel
theorem dX5_nights_177 : decode cX5_nights 177 = .ok (.goto 17, 3) := by decide +kernel
theorem dX5_nights_180 : decode cX5_nights 180 = .ok (.iload_n 3, 1) := by decide +kernel
theorem dX5_nights_181 : decode cX5_nights 181 = .ok (.iconst 1, 1) := by decide +kernel
theorem dX5_nights_182 : decode cX5_nights 182 = .ok (.if_icmp .ne 8, 3) := by decide +kernel
theorem dX5_nights_185 : decode cX5_nights 185 = .ok (.iload 5, 2) := by decide +kernel
theorem dX5_nights_187 : decode cX5_nights 187 = .ok (.goto 7, 3) := by decide +kernel
theorem dX5_nights_190 : decode cX5_nights 190 = .ok (.aload_n 0, 1) := by decide +kernel
theorem dX5_nights_191 : decode cX5_nights 191 = .ok (.getfield 181, 3) := by decide +kernel
theorem dX5_nights_194 : decode cX5_nights 194 = .ok (.ireturn, 1) := by decide +kernel
set_option maxRecDepth 20000 in
theorem ggX5_image_X5_lacks : GoodIn wsX5_image wsX5_lacks := goodIn_r _ [19, 20, 24, 25, 26, 27, 28, 29, 30, 31, 32, 33, 34, 35, 36, 37, 38, 39, 40, 41, 42, 43, 44, 45, 46, 47] (by decide +kernel) (by decide +kernel)
set_option maxRecDepth 20000 in
theorem gX5_image_X5_lacks : GoodIn wsX5_image (wsV RX5 107 RX5 yX5_lacks wsX5_lacks) := goodIn_app (goodIn_of _ (by decide +kernel)) ggX5_image_X5_lacks
set_option maxRecDepth 20000 in
theorem ggX5_image_X5_copy : GoodIn wsX5_image wsX5_copy := goodIn_r _ [23] (by decide +kernel) (by decide +kernel)
set_option maxRecDepth 20000 in
theorem gX5_image_X5_copy : GoodIn wsX5_image (va_wsS RX5 149 yX5_copy wsX5_copy) := goodIn_app (goodIn_of _ (by decide +kernel)) ggX5_image_X5_copy
theorem dX5_image_0 : decode cX5_image 0 = .ok (.aload_n 0, 1) := by decide +kernel
theorem dX5_image_1 : decode cX5_image 1 = .ok (.invokevirtual 107, 3) := by decide +kernel
theorem dX5_image_4 : decode cX5_image 4 = .ok (.ifCond .eq 6, 3) := by decide +kernel
theorem dX5_image_7 : decode cX5_image 7 = .ok (.bipush (-103), 2) := by decide +kernel
theorem dX5_image_9 : decode cX5_image 9 = .ok (.ireturn, 1) := by decide +kernel
theorem dX5_image_10 : decode cX5_image 10 = .ok (.aload_n 0, 1) := by decide +kernel
theorem dX5_image_11 : decode cX5_image 11 = .ok (.getfield 13, 3) := by decide +kernel
theorem dX5_image_14 : decode cX5_image 14 = .ok (.aload_n 0, 1) := by decide +kernel
theorem dX5_image_15 : decode cX5_image 15 = .ok (.getfield 31, 3) := by decide +kernel
theorem dX5_image_18 : decode cX5_image 18 = .ok (.invokestatic 149, 3) := by decide +kernel
theorem dX5_image_21 : decode cX5_image 21 = .ok (.aload_n 0, 1) := by decide +kernel
theorem dX5_image_22 : decode cX5_image 22 = .ok (.getfield 16, 3) := by decide +kernel
theorem dX5_image_25 : decode cX5_image 25 = .ok (.aload_n 0, 1) := by decide +kernel
theorem dX5_image_26 : decode cX5_image 26 = .ok (.getfield 34, 3) := by decide +kernel
theorem dX5_image_29 : decode cX5_image 29 = .ok (.invokestatic 149, 3) := by decide +kernel
theorem dX5_image_32 : decode cX5_image 32 = .ok (.aload_n 0, 1) := by decide +kernel
theorem dX5_image_33 : decode cX5_image 33 = .ok (.getfield 28, 3) := by decide +kernel
theorem dX5_image_36 : decode cX5_image 36 = .ok (.aload_n 0, 1) := by decide +kernel
theorem dX5_image_37 : decode cX5_image 37 = .ok (.getfield 37, 3) := by decide +kernel
theorem dX5_image_40 : decode cX5_image 40 = .ok (.invokestatic 149, 3) := by decide +kernel
theorem dX5_image_43 : decode cX5_image 43 = .ok (.aload_n 0, 1) := by decide +kernel
theorem dX5_image_44 : decode cX5_image 44 = .ok (.aload_n 0, 1) := by decide +kernel
theorem dX5_image_45 : decode cX5_image 45 = .ok (.getfield 73, 3) := by decide +kernel
theorem dX5_image_48 : decode cX5_image 48 = .ok (.putfield 196, 3) := by decide +kernel
theorem dX5_image_51 : decode cX5_image 51 = .ok (.aload_n 0, 1) := by decide +kernel
theorem dX5_image_52 : decode cX5_image 52 = .ok (.aload_n 0, 1) := by decide +kernel
theorem dX5_image_53 : decode cX5_image 53 = .ok (.getfield 70, 3) := by decide +kernel
theorem dX5_image_56 : decode cX5_image 56 = .ok (.putfield 199, 3) := by decide +kernel
theorem dX5_image_59 : decode cX5_image 59 = .ok (.aload_n 0, 1) := by decide +kernel
theorem dX5_image_60 : decode cX5_image 60 = .ok (.aload_n 0, 1) := by decide +kernel
theorem dX5_image_61 : decode cX5_image 61 = .ok (.getfield 76, 3) := by decide +kernel
theorem dX5_image_64 : decode cX5_image 64 = .ok (.putfield 202, 3) := by decide +kernel
theorem dX5_image_67 : decode cX5_image 67 = .ok (.aload_n 0, 1) := by decide +kernel
theorem dX5_image_68 : decode cX5_image 68 = .ok (.aload_n 0, 1) := by decide +kernel
theorem dX5_image_69 : decode cX5_image 69 = .ok (.getfield 79, 3) := by decide +kernel
theorem dX5_image_72 : decode cX5_image 72 = .ok (.putfield 40, 3) := by decide +kernel
theorem dX5_image_75 : decode cX5_image 75 = .ok (.aload_n 0, 1) := by decide +kernel
theorem dX5_image_76 : decode cX5_image 76 = .ok (.getfield 70, 3) := by decide +kernel
theorem dX5_image_79 : decode cX5_image 79 = .ok (.ireturn, 1) := by decide +kernel
set_option maxRecDepth 20000 in
theorem ggX5_restore_X5_copy : GoodIn wsX5_restore wsX5_copy := goodIn_r _ [18] (by decide +kernel) (by decide +kernel)
set_option maxRecDepth 20000 in
theorem gX5_restore_X5_copy : GoodIn wsX5_restore (va_wsS RX5 149 yX5_copy wsX5_copy) := goodIn_app (goodIn_of _ (by decide +kernel)) ggX5_restore_X5_copy
theorem dX5_restore_0 : decode cX5_restore 0 = .ok (.aload_n 0, 1) := by decide +kernel
theorem dX5_restore_1 : decode cX5_restore 1 = .ok (.getfield 40, 3) := by decide +kernel
theorem dX5_restore_4 : decode cX5_restore 4 = .ok (.aload_n 0, 1) := by decide +kernel
theorem dX5_restore_5 : decode cX5_restore 5 = .ok (.getfield 79, 3) := by decide +kernel
theorem dX5_restore_8 : decode cX5_restore 8 = .ok (.if_icmp .eq 6, 3) := by decide +kernel
theorem dX5_restore_11 : decode cX5_restore 11 = .ok (.bipush (-103), 2) := by decide +kernel
theorem dX5_restore_13 : decode cX5_restore 13 = .ok (.ireturn, 1) := by decide +kernel
theorem dX5_restore_14 : decode cX5_restore 14 = .ok (.aload_n 0, 1) := by decide +kernel
theorem dX5_restore_15 : decode cX5_restore 15 = .ok (.getfield 31, 3) := by decide +kernel
theorem dX5_restore_18 : decode cX5_restore 18 = .ok (.aload_n 0, 1) := by decide +kernel
theorem dX5_restore_19 : decode cX5_restore 19 = .ok (.getfield 13, 3) := by decide +kernel
theorem dX5_restore_22 : decode cX5_restore 22 = .ok (.invokestatic 149, 3) := by decide +kernel
theorem dX5_restore_25 : decode cX5_restore 25 = .ok (.aload_n 0, 1) := by decide +kernel
theorem dX5_restore_26 : decode cX5_restore 26 = .ok (.getfield 34, 3) := by decide +kernel
theorem dX5_restore_29 : decode cX5_restore 29 = .ok (.aload_n 0, 1) := by decide +kernel
theorem dX5_restore_30 : decode cX5_restore 30 = .ok (.getfield 16, 3) := by decide +kernel
theorem dX5_restore_33 : decode cX5_restore 33 = .ok (.invokestatic 149, 3) := by decide +kernel
theorem dX5_restore_36 : decode cX5_restore 36 = .ok (.aload_n 0, 1) := by decide +kernel
theorem dX5_restore_37 : decode cX5_restore 37 = .ok (.getfield 37, 3) := by decide +kernel
theorem dX5_restore_40 : decode cX5_restore 40 = .ok (.aload_n 0, 1) := by decide +kernel
theorem dX5_restore_41 : decode cX5_restore 41 = .ok (.getfield 28, 3) := by decide +kernel
theorem dX5_restore_44 : decode cX5_restore 44 = .ok (.invokestatic 149, 3) := by decide +kernel
theorem dX5_restore_47 : decode cX5_restore 47 = .ok (.aload_n 0, 1) := by decide +kernel
theorem dX5_restore_48 : decode cX5_restore 48 = .ok (.aload_n 0, 1) := by decide +kernel
theorem dX5_restore_49 : decode cX5_restore 49 = .ok (.getfield 196, 3) := by decide +kernel
theorem dX5_restore_52 : decode cX5_restore 52 = .ok (.putfield 73, 3) := by decide +kernel
theorem dX5_restore_55 : decode cX5_restore 55 = .ok (.aload_n 0, 1) := by decide +kernel
theorem dX5_restore_56 : decode cX5_restore 56 = .ok (.aload_n 0, 1) := by decide +kernel
theorem dX5_restore_57 : decode cX5_restore 57 = .ok (.getfield 199, 3) := by decide +kernel
theorem dX5_restore_60 : decode cX5_restore 60 = .ok (.putfield 70, 3) := by decide +kernel
theorem dX5_restore_63 : decode cX5_restore 63 = .ok (.aload_n 0, 1) := by decide +kernel
theorem dX5_restore_64 : decode cX5_restore 64 = .ok (.aload_n 0, 1) := by decide +kernel
theorem dX5_restore_65 : decode cX5_restore 65 = .ok (.getfield 202, 3) := by decide +kernel
theorem dX5_restore_68 : decode cX5_restore 68 = .ok (.putfield 76, 3) := by decide +kernel
theorem dX5_restore_71 : decode cX5_restore 71 = .ok (.aload_n 0, 1) := by decide +kernel
theorem dX5_restore_72 : decode cX5_restore 72 = .ok (.getfield 70, 3) := by decide +kernel
theorem dX5_restore_75 : decode cX5_restore 75 = .ok (.ireturn, 1) := by decide +kernel
theorem dX5_litMany_0 : decode cX5_litMany 0 = .ok (.iconst 0, 1) := by decide +kernel
theorem dX5_litMany_1 : decode cX5_litMany 1 = .ok (.istore_n 1, 1) := by decide +kernel
theorem dX5_litMany_2 : decode cX5_litMany 2 = .ok (.iconst 0, 1) := by decide +kernel
theorem dX5_litMany_3 : decode cX5_litMany 3 = .ok (.istore_n 2, 1) := by decide +kernel
theorem dX5_litMany_4 : decode cX5_litMany 4 = .ok (.iload_n 2, 1) := by decide +kernel
theorem dX5_litMany_5 : decode cX5_litMany 5 = .ok (.aload_n 0, 1) := by decide +kernel
theorem dX5_litMany_6 : decode cX5_litMany 6 = .ok (.getfield 67, 3) := by decide +kernel
theorem dX5_litMany_9 : decode cX5_litMany 9 = .ok (.if_icmp .ge 30, 3) := by decide +kernel
theorem dX5_litMany_12 : decode cX5_litMany 12 = .ok (.iload_n 1, 1) := by decide +kernel
theorem dX5_litMany_13 : decode cX5_litMany 13 = .ok (.aload_n 0, 1) := by decide +kernel
theorem dX5_litMany_14 : decode cX5_litMany 14 = .ok (.getfield 13, 3) := by decide +kernel
theorem dX5_litMany_17 : decode cX5_litMany 17 = .ok (.iconst 3, 1) := by decide +kernel
theorem dX5_litMany_18 : decode cX5_litMany 18 = .ok (.iload_n 2, 1) := by decide +kernel
theorem dX5_litMany_19 : decode cX5_litMany 19 = .ok (.imul, 1) := by decide +kernel
theorem dX5_litMany_20 : decode cX5_litMany 20 = .ok (.iconst 2, 1) := by decide +kernel
theorem dX5_litMany_21 : decode cX5_litMany 21 = .ok (.iadd, 1) := by decide +kernel
theorem dX5_litMany_22 : decode cX5_litMany 22 = .ok (.iaload, 1) := by decide +kernel
theorem dX5_litMany_23 : decode cX5_litMany 23 = .ok (.ifCond .le 7, 3) := by decide +kernel
theorem dX5_litMany_26 : decode cX5_litMany 26 = .ok (.iconst 1, 1) := by decide +kernel
theorem dX5_litMany_27 : decode cX5_litMany 27 = .ok (.goto 4, 3) := by decide +kernel
theorem dX5_litMany_30 : decode cX5_litMany 30 = .ok (.iconst 0, 1) := by decide +kernel
theorem dX5_litMany_31 : decode cX5_litMany 31 = .ok (.iadd, 1) := by decide +kernel
theorem dX5_litMany_32 : decode cX5_litMany 32 = .ok (.istore_n 1, 1) := by decide +kernel
theorem dX5_litMany_33 : decode cX5_litMany 33 = .ok (.iinc 2 1, 3) := by decide +kernel
theorem dX5_litMany_36 : decode cX5_litMany 36 = .ok (.goto (-32), 3) := by decide +kernel
theorem dX5_litMany_39 : decode cX5_litMany 39 = .ok (.iload_n 1, 1) := by decide +kernel
theorem dX5_litMany_40 : decode cX5_litMany 40 = .ok (.ireturn, 1) := by decide +kernel
set_option maxRecDepth 20000 in
theorem ggX5_sumBy_X5_tell : GoodIn wsX5_sumBy wsX5_tell := goodIn_r _ [6, 7, 8, 9, 10, 11, 12, 13, 14, 15, 16, 17, 18, 19, 20, 21, 22, 23, 24, 25, 26, 27, 28, 29, 30, 31, 32] (by decide +kernel) (by decide +kernel)
set_option maxRecDepth 20000 in
theorem gX5_sumBy_X5_tell : GoodIn wsX5_sumBy (wsV RX5 104 RX5 yX5_tell wsX5_tell) := goodIn_app (goodIn_of _ (by decide +kernel)) ggX5_sumBy_X5_tell
theorem dX5_sumBy_0 : decode cX5_sumBy 0 = .ok (.iconst 0, 1) := by decide +kernel
theorem dX5_sumBy_1 : decode cX5_sumBy 1 = .ok (.istore_n 2, 1) := by decide +kernel
theorem dX5_sumBy_2 : decode cX5_sumBy 2 = .ok (.iconst 0, 1) := by decide +kernel
theorem dX5_sumBy_3 : decode cX5_sumBy 3 = .ok (.istore_n 3, 1) := by decide +kernel
theorem dX5_sumBy_4 : decode cX5_sumBy 4 = .ok (.iload_n 3, 1) := by decide +kernel
theorem dX5_sumBy_5 : decode cX5_sumBy 5 = .ok (.aload_n 0, 1) := by decide +kernel
theorem dX5_sumBy_6 : decode cX5_sumBy 6 = .ok (.getfield 73, 3) := by decide +kernel
theorem dX5_sumBy_9 : decode cX5_sumBy 9 = .ok (.if_icmp .ge 18, 3) := by decide +kernel
theorem dX5_sumBy_12 : decode cX5_sumBy 12 = .ok (.iload_n 2, 1) := by decide +kernel
theorem dX5_sumBy_13 : decode cX5_sumBy 13 = .ok (.aload_n 0, 1) := by decide +kernel
theorem dX5_sumBy_14 : decode cX5_sumBy 14 = .ok (.iload_n 3, 1) := by decide +kernel
theorem dX5_sumBy_15 : decode cX5_sumBy 15 = .ok (.iload_n 1, 1) := by decide +kernel
theorem dX5_sumBy_16 : decode cX5_sumBy 16 = .ok (.invokevirtual 104, 3) := by decide +kernel
theorem dX5_sumBy_19 : decode cX5_sumBy 19 = .ok (.iadd, 1) := by decide +kernel
theorem dX5_sumBy_20 : decode cX5_sumBy 20 = .ok (.istore_n 2, 1) := by decide +kernel
theorem dX5_sumBy_21 : decode cX5_sumBy 21 = .ok (.iinc 3 1, 3) := by decide +kernel
theorem dX5_sumBy_24 : decode cX5_sumBy 24 = .ok (.goto (-20), 3) := by decide +kernel
theorem dX5_sumBy_27 : decode cX5_sumBy 27 = .ok (.iload_n 2, 1) := by decide +kernel
theorem dX5_sumBy_28 : decode cX5_sumBy 28 = .ok (.ireturn, 1) := by decide +kernel
set_option maxRecDepth 20000 in
theorem ggX5_countOf_X5_litMany : GoodIn wsX5_countOf wsX5_litMany := goodIn_r _ [12, 1, 13, 23, 24, 25, 26, 27, 28, 29, 30, 31, 32, 33, 34, 35, 36, 37, 38, 39, 40, 41, 42, 43, 44, 45, 46] (by decide +kernel) (by decide +kernel)
set_option maxRecDepth 20000 in
theorem gX5_countOf_X5_litMany : GoodIn wsX5_countOf (wsV RX5 205 RX5 yX5_litMany wsX5_litMany) := goodIn_app (goodIn_of _ (by decide +kernel)) ggX5_countOf_X5_litMany
set_option maxRecDepth 20000 in
theorem ggX5_countOf_X5_sumBy : GoodIn wsX5_countOf wsX5_sumBy := goodIn_r _ [17, 2, 18, 19, 20, 11, 21, 22, 13, 23, 24, 25, 26, 27, 28, 29, 30, 31, 32, 33, 34, 35, 36, 37, 38, 39, 40, 41, 42, 43, 44, 45, 46] (by decide +kernel) (by decide +kernel)
