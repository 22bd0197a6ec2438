theorem dX5_office_88 : decode cX5_office 88 = .ok (.iastore, 1) := by decide +kernel
theorem dX5_office_89 : decode cX5_office 89 = .ok (.aload_n 0, 1) := by decide +kernel
theorem dX5_office_90 : decode cX5_office 90 = .ok (.getfield 13, 3) := by decide +kernel
theorem dX5_office_93 : decode cX5_office 93 = .ok (.iconst 3, 1) := by decide +kernel
theorem dX5_office_94 : decode cX5_office 94 = .ok (.iload_n 1, 1) := by decide +kernel
theorem dX5_office_95 : decode cX5_office 95 = .ok (.imul, 1) := by decide +kernel
theorem dX5_office_96 : decode cX5_office 96 = .ok (.iconst 1, 1) := by decide +kernel
theorem dX5_office_97 : decode cX5_office 97 = .ok (.iadd, 1) := by decide +kernel
theorem dX5_office_98 : decode cX5_office 98 = .ok (.iload_n 2, 1) := by decide +kernel
theorem dX5_office_99 : decode cX5_office 99 = .ok (.iconst 3, 1) := by decide +kernel
theorem dX5_office_100 : decode cX5_office 100 = .ok (.if_icmp .ne 11, 3) := by decide +kernel
theorem dX5_office_103 : decode cX5_office 103 = .ok (.iload_n 3, 1) := by decide +kernel
theorem dX5_office_104 : decode cX5_office 104 = .ok (.iconst 1, 1) := by decide +kernel
theorem dX5_office_105 : decode cX5_office 105 = .ok (.iadd, 1) := by decide +kernel
theorem dX5_office_106 : decode cX5_office 106 = .ok (.iconst 2, 1) := by decide +kernel
theorem dX5_office_107 : decode cX5_office 107 = .ok (.idiv, 1) := by decide +kernel
theorem dX5_office_108 : decode cX5_office 108 = .ok (.goto 4, 3) := by decide +kernel
theorem dX5_office_111 : decode cX5_office 111 = .ok (.iload_n 3, 1) := by decide +kernel
theorem dX5_office_112 : decode cX5_office 112 = .ok (.iastore, 1) := by decide +kernel
theorem dX5_office_113 : decode cX5_office 113 = .ok (.aload_n 0, 1) := by decide +kernel
theorem dX5_office_114 : decode cX5_office 114 = .ok (.getfield 13, 3) := by decide +kernel
theorem dX5_office_117 : decode cX5_office 117 = .ok (.iconst 3, 1) := by decide +kernel
theorem dX5_office_118 : decode cX5_office 118 = .ok (.iload_n 1, 1) := by decide +kernel
theorem dX5_office_119 : decode cX5_office 119 = .ok (.imul, 1) := by decide +kernel
theorem dX5_office_120 : decode cX5_office 120 = .ok (.iconst 2, 1) := by decide +kernel
theorem dX5_office_121 : decode cX5_office 121 = .ok (.iadd, 1) := by decide +kernel
theorem dX5_office_122 : decode cX5_office 122 = .ok (.iconst 0, 1) := by decide +kernel
theorem dX5_office_123 : decode cX5_office 123 = .ok (.iastore, 1) := by decide +kernel
theorem dX5_office_124 : decode cX5_office 124 = .ok (.iinc 1 1, 3) := by decide +kernel
theorem dX5_office_127 : decode cX5_office 127 = .ok (.goto (-81), 3) := by decide +kernel
theorem dX5_office_130 : decode cX5_office 130 = .ok (.aload_n 0, 1) := by decide +kernel
theorem dX5_office_131 : decode cX5_office 131 = .ok (.iconst 0, 1) := by decide +kernel
theorem dX5_office_132 : decode cX5_office 132 = .ok (.putfield 70, 3) := by decide +kernel
theorem dX5_office_135 : decode cX5_office 135 = .ok (.aload_n 0, 1) := by decide +kernel
theorem dX5_office_136 : decode cX5_office 136 = .ok (.iconst 0, 1) := by decide +kernel
theorem dX5_office_137 : decode cX5_office 137 = .ok (.putfield 73, 3) := by decide +kernel
theorem dX5_office_140 : decode cX5_office 140 = .ok (.aload_n 0, 1) := by decide +kernel
theorem dX5_office_141 : decode cX5_office 141 = .ok (.iconst 0, 1) := by decide +kernel
theorem dX5_office_142 : decode cX5_office 142 = .ok (.putfield 76, 3) := by decide +kernel
theorem dX5_office_145 : decode cX5_office 145 = .ok (.aload_n 0, 1) := by decide +kernel
theorem dX5_office_146 : decode cX5_office 146 = .ok (.dup, 1) := by decide +kernel
theorem dX5_office_147 : decode cX5_office 147 = .ok (.getfield 79, 3) := by decide +kernel
theorem dX5_office_150 : decode cX5_office 150 = .ok (.iconst 1, 1) := by decide +kernel
theorem dX5_office_151 : decode cX5_office 151 = .ok (.iadd, 1) := by decide +kernel
theorem dX5_office_152 : decode cX5_office 152 = .ok (.putfield 79, 3) := by decide +kernel
theorem dX5_office_155 : decode cX5_office 155 = .ok (.aload_n 0, 1) := by decide +kernel
theorem dX5_office_156 : decode cX5_office 156 = .ok (.iconst 0, 1) := by decide +kernel
theorem dX5_office_157 : decode cX5_office 157 = .ok (.putfield 50, 3) := by decide +kernel
theorem dX5_office_160 : decode cX5_office 160 = .ok (.aload_n 0, 1) := by decide +kernel
theorem dX5_office_161 : decode cX5_office 161 = .ok (.getfield 67, 3) := by decide +kernel
theorem dX5_office_164 : decode cX5_office 164 = .ok (.ireturn, 1) := by decide +kernel
theorem dX5_lacks_0 : decode cX5_lacks 0 = .ok (.aload_n 0, 1) := by decide +kernel
theorem dX5_lacks_1 : decode cX5_lacks 1 = .ok (.getfield 67, 3) := by decide +kernel
theorem dX5_lacks_4 : decode cX5_lacks 4 = .ok (.ifCond .ne 7, 3) := by decide +kernel
theorem dX5_lacks_7 : decode cX5_lacks 7 = .ok (.iconst 1, 1) := by decide +kernel
theorem dX5_lacks_8 : decode cX5_lacks 8 = .ok (.goto 4, 3) := by decide +kernel
theorem dX5_lacks_11 : decode cX5_lacks 11 = .ok (.iconst 0, 1) := by decide +kernel
theorem dX5_lacks_12 : decode cX5_lacks 12 = .ok (.ireturn, 1) := by decide +kernel
set_option maxRecDepth 20000 in
theorem ggX5_isLamp_X5_in : GoodIn wsX5_isLamp wsX5_in := goodIn_r _ [5] (by decide +kernel) (by decide +kernel)
set_option maxRecDepth 20000 in
theorem gX5_isLamp_X5_in : GoodIn wsX5_isLamp (va_wsS RX5 46 yX5_in wsX5_in) := goodIn_app (goodIn_of _ (by decide +kernel)) ggX5_isLamp_X5_in
theorem dX5_isLamp_0 : decode cX5_isLamp 0 = .ok (.iload_n 1, 1) := by decide +kernel
theorem dX5_isLamp_1 : decode cX5_isLamp 1 = .ok (.i2l, 1) := by decide +kernel
theorem dX5_isLamp_2 : decode cX5_isLamp 2 = .ok (.lconst 0, 1) := by decide +kernel
theorem dX5_isLamp_3 : decode cX5_isLamp 3 = .ok (.aload_n 0, 1) := by decide +kernel
theorem dX5_isLamp_4 : decode cX5_isLamp 4 = .ok (.getfield 67, 3) := by decide +kernel
theorem dX5_isLamp_7 : decode cX5_isLamp 7 = .ok (.iconst 1, 1) := by decide +kernel
theorem dX5_isLamp_8 : decode cX5_isLamp 8 = .ok (.isub, 1) := by decide +kernel
theorem dX5_isLamp_9 : decode cX5_isLamp 9 = .ok (.i2l, 1) := by decide +kernel
theorem dX5_isLamp_10 : decode cX5_isLamp 10 = .ok (.invokestatic 46, 3) := by decide +kernel
theorem dX5_isLamp_13 : decode cX5_isLamp 13 = .ok (.ireturn, 1) := by decide +kernel
set_option maxRecDepth 20000 in
theorem ggX5_isPerson_X5_in : GoodIn wsX5_isPerson wsX5_in := goodIn_r _ [5] (by decide +kernel) (by decide +kernel)
set_option maxRecDepth 20000 in
theorem gX5_isPerson_X5_in : GoodIn wsX5_isPerson (va_wsS RX5 46 yX5_in wsX5_in) := goodIn_app (goodIn_of _ (by decide +kernel)) ggX5_isPerson_X5_in
theorem dX5_isPerson_0 : decode cX5_isPerson 0 = .ok (.iload_n 1, 1) := by decide +kernel
theorem dX5_isPerson_1 : decode cX5_isPerson 1 = .ok (.i2l, 1) := by decide +kernel
theorem dX5_isPerson_2 : decode cX5_isPerson 2 = .ok (.lconst 0, 1) := by decide +kernel
theorem dX5_isPerson_3 : decode cX5_isPerson 3 = .ok (.aload_n 0, 1) := by decide +kernel
theorem dX5_isPerson_4 : decode cX5_isPerson 4 = .ok (.getfield 73, 3) := by decide +kernel
theorem dX5_isPerson_7 : decode cX5_isPerson 7 = .ok (.iconst 1, 1) := by decide +kernel
theorem dX5_isPerson_8 : decode cX5_isPerson 8 = .ok (.isub, 1) := by decide +kernel
theorem dX5_isPerson_9 : decode cX5_isPerson 9 = .ok (.i2l, 1) := by decide +kernel
theorem dX5_isPerson_10 : decode cX5_isPerson 10 = .ok (.invokestatic 46, 3) := by decide +kernel
theorem dX5_isPerson_13 : decode cX5_isPerson 13 = .ok (.ireturn, 1) := by decide +kernel
theorem dX5_seesOf_0 : decode cX5_seesOf 0 = .ok (.iconst 1, 1) := by decide +kernel
theorem dX5_seesOf_1 : decode cX5_seesOf 1 = .ok (.aload_n 0, 1) := by decide +kernel
theorem dX5_seesOf_2 : decode cX5_seesOf 2 = .ok (.getfield 67, 3) := by decide +kernel
theorem dX5_seesOf_5 : decode cX5_seesOf 5 = .ok (.ishl, 1) := by decide +kernel
theorem dX5_seesOf_6 : decode cX5_seesOf 6 = .ok (.iconst 1, 1) := by decide +kernel
theorem dX5_seesOf_7 : decode cX5_seesOf 7 = .ok (.isub, 1) := by decide +kernel
theorem dX5_seesOf_8 : decode cX5_seesOf 8 = .ok (.istore_n 2, 1) := by decide +kernel
theorem dX5_seesOf_9 : decode cX5_seesOf 9 = .ok (.aload_n 0, 1) := by decide +kernel
theorem dX5_seesOf_10 : decode cX5_seesOf 10 = .ok (.getfield 13, 3) := by decide +kernel
theorem dX5_seesOf_13 : decode cX5_seesOf 13 = .ok (.iconst 3, 1) := by decide +kernel
theorem dX5_seesOf_14 : decode cX5_seesOf 14 = .ok (.iload_n 1, 1) := by decide +kernel
theorem dX5_seesOf_15 : decode cX5_seesOf 15 = .ok (.imul, 1) := by decide +kernel
theorem dX5_seesOf_16 : decode cX5_seesOf 16 = .ok (.iaload, 1) := by decide +kernel
theorem dX5_seesOf_17 : decode cX5_seesOf 17 = .ok (.istore_n 3, 1) := by decide +kernel
theorem dX5_seesOf_18 : decode cX5_seesOf 18 = .ok (.iconst 1, 1) := by decide +kernel
theorem dX5_seesOf_19 : decode cX5_seesOf 19 = .ok (.iload_n 1, 1) := by decide +kernel
theorem dX5_seesOf_20 : decode cX5_seesOf 20 = .ok (.ishl, 1) := by decide +kernel
theorem dX5_seesOf_21 : decode cX5_seesOf 21 = .ok (.istore 4, 2) := by decide +kernel
theorem dX5_seesOf_23 : decode cX5_seesOf 23 = .ok (.iload 4, 2) := by decide +kernel
theorem dX5_seesOf_25 : decode cX5_seesOf 25 = .ok (.iload_n 3, 1) := by decide +kernel
theorem dX5_seesOf_26 : decode cX5_seesOf 26 = .ok (.iconst 1, 1) := by decide +kernel
theorem dX5_seesOf_27 : decode cX5_seesOf 27 = .ok (.if_icmp .eq 8, 3) := by decide +kernel
theorem dX5_seesOf_30 : decode cX5_seesOf 30 = .ok (.iload_n 3, 1) := by decide +kernel
theorem dX5_seesOf_31 : decode cX5_seesOf 31 = .ok (.iconst 2, 1) := by decide +kernel
theorem dX5_seesOf_32 : decode cX5_seesOf 32 = .ok (.if_icmp .ne 9, 3) := by decide +kernel
theorem dX5_seesOf_35 : decode cX5_seesOf 35 = .ok (.iconst 2, 1) := by decide +kernel
theorem dX5_seesOf_36 : decode cX5_seesOf 36 = .ok (.iload_n 1, 1) := by decide +kernel
theorem dX5_seesOf_37 : decode cX5_seesOf 37 = .ok (.ishl, 1) := by decide +kernel
theorem dX5_seesOf_38 : decode cX5_seesOf 38 = .ok (.goto 4, 3) := by decide +kernel
theorem dX5_seesOf_41 : decode cX5_seesOf 41 = .ok (.iconst 0, 1) := by decide +kernel
theorem dX5_seesOf_42 : decode cX5_seesOf 42 = .ok (.ior, 1) := by decide +kernel
theorem dX5_seesOf_43 : decode cX5_seesOf 43 = .ok (.istore 4, 2) := by decide +kernel
theorem dX5_seesOf_45 : decode cX5_seesOf 45 = .ok (.iload 4, 2) := by decide +kernel
theorem dX5_seesOf_47 : decode cX5_seesOf 47 = .ok (.iload_n 3, 1) := by decide +kernel
theorem dX5_seesOf_48 : decode cX5_seesOf 48 = .ok (.iconst 1, 1) := by decide +kernel
theorem dX5_seesOf_49 : decode cX5_seesOf 49 = .ok (.if_icmp .ne 11, 3) := by decide +kernel
theorem dX5_seesOf_52 : decode cX5_seesOf 52 = .ok (.iconst 1, 1) := by decide +kernel
theorem dX5_seesOf_53 : decode cX5_seesOf 53 = .ok (.iload_n 1, 1) := by decide +kernel
theorem dX5_seesOf_54 : decode cX5_seesOf 54 = .ok (.ishl, 1) := by decide +kernel
theorem dX5_seesOf_55 : decode cX5_seesOf 55 = .ok (.iconst 1, 1) := by decide +kernel
theorem dX5_seesOf_56 : decode cX5_seesOf 56 = .ok (.ishr, 1) := by decide +kernel
theorem dX5_seesOf_57 : decode cX5_seesOf 57 = .ok (.goto 4, 3) := by decide +kernel
theorem dX5_seesOf_60 : decode cX5_seesOf 60 = .ok (.iconst 0, 1) := by decide +kernel
theorem dX5_seesOf_61 : decode cX5_seesOf 61 = .ok (.ior, 1) := by decide +kernel
theorem dX5_seesOf_62 : decode cX5_seesOf 62 = .ok (.istore 4, 2) := by decide +kernel
theorem dX5_seesOf_64 : decode cX5_seesOf 64 = .ok (.iload_n 3, 1) := by decide +kernel
theorem dX5_seesOf_65 : decode cX5_seesOf 65 = .ok (.iconst 4, 1) := by decide +kernel
theorem dX5_seesOf_66 : decode cX5_seesOf 66 = .ok (.if_icmp .ne 7, 3) := by decide +kernel
theorem dX5_seesOf_69 : decode cX5_seesOf 69 = .ok (.iload_n 2, 1) := by decide +kernel
theorem dX5_seesOf_70 : decode cX5_seesOf 70 = .ok (.goto 7, 3) := by decide +kernel
theorem dX5_seesOf_73 : decode cX5_seesOf 73 = .ok (.iload 4, 2) := by decide +kernel
theorem dX5_seesOf_75 : decode cX5_seesOf 75 = .ok (.iload_n 2, 1) := by decide +kernel
theorem dX5_seesOf_76 : decode cX5_seesOf 76 = .ok (.iand, 1) := by decide +kernel
theorem dX5_seesOf_77 : decode cX5_seesOf 77 = .ok (.ireturn, 1) := by decide +kernel
theorem dX5_whoSitsIn_0 : decode cX5_whoSitsIn 0 = .ok (.iconst 0, 1) := by decide +kernel
theorem dX5_whoSitsIn_1 : decode cX5_whoSitsIn 1 = .ok (.istore_n 2, 1) := by decide +kernel
theorem dX5_whoSitsIn_2 : decode cX5_whoSitsIn 2 = .ok (.iconst 0, 1) := by decide +kernel
theorem dX5_whoSitsIn_3 : decode cX5_whoSitsIn 3 = .ok (.istore_n 3, 1) := by decide +kernel
theorem dX5_whoSitsIn_4 : decode cX5_whoSitsIn 4 = .ok (.iload_n 3, 1) := by decide +kernel
theorem dX5_whoSitsIn_5 : decode cX5_whoSitsIn 5 = .ok (.aload_n 0, 1) := by decide +kernel
theorem dX5_whoSitsIn_6 : decode cX5_whoSitsIn 6 = .ok (.getfield 73, 3) := by decide +kernel
theorem dX5_whoSitsIn_9 : decode cX5_whoSitsIn 9 = .ok (.if_icmp .ge 31, 3) := by decide +kernel
theorem dX5_whoSitsIn_12 : decode cX5_whoSitsIn 12 = .ok (.iload_n 2, 1) := by decide +kernel
theorem dX5_whoSitsIn_13 : decode cX5_whoSitsIn 13 = .ok (.aload_n 0, 1) := by decide +kernel
theorem dX5_whoSitsIn_14 : decode cX5_whoSitsIn 14 = .ok (.getfield 16, 3) := by decide +kernel
theorem dX5_whoSitsIn_17 : decode cX5_whoSitsIn 17 = .ok (.iconst 3, 1) := by decide +kernel
theorem dX5_whoSitsIn_18 : decode cX5_whoSitsIn 18 = .ok (.iload_n 3, 1) := by decide +kernel
theorem dX5_whoSitsIn_19 : decode cX5_whoSitsIn 19 = .ok (.imul, 1) := by decide +kernel
theorem dX5_whoSitsIn_20 : decode cX5_whoSitsIn 20 = .ok (.iaload, 1) := by decide +kernel
theorem dX5_whoSitsIn_21 : decode cX5_whoSitsIn 21 = .ok (.iload_n 1, 1) := by decide +kernel
theorem dX5_whoSitsIn_22 : decode cX5_whoSitsIn 22 = .ok (.if_icmp .ne 9, 3) := by decide +kernel
theorem dX5_whoSitsIn_25 : decode cX5_whoSitsIn 25 = .ok (.iconst 1, 1) := by decide +kernel
theorem dX5_whoSitsIn_26 : decode cX5_whoSitsIn 26 = .ok (.iload_n 3, 1) := by decide +kernel
theorem dX5_whoSitsIn_27 : decode cX5_whoSitsIn 27 = .ok (.ishl, 1) := by decide +kernel
theorem dX5_whoSitsIn_28 : decode cX5_whoSitsIn 28 = .ok (.goto 4, 3) := by decide +kernel
theorem dX5_whoSitsIn_31 : decode cX5_whoSitsIn 31 = .ok (.iconst 0, 1) := by decide +kernel
theorem dX5_whoSitsIn_32 : decode cX5_whoSitsIn 32 = .ok (.ior, 1) := by decide +kernel
theorem dX5_whoSitsIn_33 : decode cX5_whoSitsIn 33 = .ok (.istore_n 2, 1) := by decide +kernel
theorem dX5_whoSitsIn_34 : decode cX5_whoSitsIn 34 = .ok (.iinc 3 1, 3) := by decide +kernel
theorem dX5_whoSitsIn_37 : decode cX5_whoSitsIn 37 = .ok (.goto (-33), 3) := by decide +kernel
theorem dX5_whoSitsIn_40 : decode cX5_whoSitsIn 40 = .ok (.iload_n 2, 1) := by decide +kernel
theorem dX5_whoSitsIn_41 : decode cX5_whoSitsIn 41 = .ok (.ireturn, 1) := by decide +kernel
set_option maxRecDepth 20000 in
theorem ggX5_seenBy_X5_seesOf : GoodIn wsX5_seenBy wsX5_seesOf := goodIn_r _ [6, 1, 7, 8, 9, 10, 11, 12, 13, 14, 15, 16, 17, 18, 19, 20, 21, 22, 23, 24, 25, 26, 27, 28, 29, 30, 31] (by decide +kernel) (by decide +kernel)
set_option maxRecDepth 20000 in
theorem gX5_seenBy_X5_seesOf : GoodIn wsX5_seenBy (wsV RX5 82 RX5 yX5_seesOf wsX5_seesOf) := goodIn_app (goodIn_of _ (by decide +kernel)) ggX5_seenBy_X5_seesOf
theorem dX5_seenBy_0 : decode cX5_seenBy 0 = .ok (.iconst 0, 1) := by decide +kernel
theorem dX5_seenBy_1 : decode cX5_seenBy 1 = .ok (.istore_n 2, 1) := by decide +kernel
theorem dX5_seenBy_2 : decode cX5_seenBy 2 = .ok (.iconst 0, 1) := by decide +kernel
theorem dX5_seenBy_3 : decode cX5_seenBy 3 = .ok (.istore_n 3, 1) := by decide +kernel
theorem dX5_seenBy_4 : decode cX5_seenBy 4 = .ok (.iload_n 3, 1) := by decide +kernel
theorem dX5_seenBy_5 : decode cX5_seenBy 5 = .ok (.aload_n 0, 1) := by decide +kernel
theorem dX5_seenBy_6 : decode cX5_seenBy 6 = .ok (.getfield 67, 3) := by decide +kernel
theorem dX5_seenBy_9 : decode cX5_seenBy 9 = .ok (.if_icmp .ge 21, 3) := by decide +kernel
theorem dX5_seenBy_12 : decode cX5_seenBy 12 = .ok (.iload_n 2, 1) := by decide +kernel
theorem dX5_seenBy_13 : decode cX5_seenBy 13 = .ok (.aload_n 0, 1) := by decide +kernel
theorem dX5_seenBy_14 : decode cX5_seenBy 14 = .ok (.iload_n 3, 1) := by decide +kernel
theorem dX5_seenBy_15 : decode cX5_seenBy 15 = .ok (.invokevirtual 82, 3) := by decide +kernel
theorem dX5_seenBy_18 : decode cX5_seenBy 18 = .ok (.iload_n 1, 1) := by decide +kernel
theorem dX5_seenBy_19 : decode cX5_seenBy 19 = .ok (.ishr, 1) := by decide +kernel
theorem dX5_seenBy_20 : decode cX5_seenBy 20 = .ok (.iconst 1, 1) := by decide +kernel
theorem dX5_seenBy_21 : decode cX5_seenBy 21 = .ok (.iand, 1) := by decide +kernel
theorem dX5_seenBy_22 : decode cX5_seenBy 22 = .ok (.iadd, 1) := by decide +kernel
theorem dX5_seenBy_23 : decode cX5_seenBy 23 = .ok (.istore_n 2, 1) := by decide +kernel
theorem dX5_seenBy_24 : decode cX5_seenBy 24 = .ok (.iinc 3 1, 3) := by decide +kernel
theorem dX5_seenBy_27 : decode cX5_seenBy 27 = .ok (.goto (-23), 3) := by decide +kernel
theorem dX5_seenBy_30 : decode cX5_seenBy 30 = .ok (.iload_n 2, 1) := by decide +kernel
theorem dX5_seenBy_31 : decode cX5_seenBy 31 = .ok (.ireturn, 1) := by decide +kernel
set_option maxRecDepth 20000 in
theorem ggX5_tellLamp_X5_seesOf : GoodIn wsX5_tellLamp wsX5_seesOf := goodIn_r _ [6, 7, 1, 18, 19, 20, 21, 22, 23, 24, 25, 26, 27, 28, 29, 30, 31, 32, 33, 34, 35, 36, 37, 38, 39, 40, 41] (by decide +kernel) (by decide +kernel)
set_option maxRecDepth 20000 in
theorem gX5_tellLamp_X5_seesOf : GoodIn wsX5_tellLamp (wsV RX5 82 RX5 yX5_seesOf wsX5_seesOf) := goodIn_app (goodIn_of _ (by decide +kernel)) ggX5_tellLamp_X5_seesOf
set_option maxRecDepth 20000 in
theorem ggX5_tellLamp_X5_whoSitsIn : GoodIn wsX5_tellLamp wsX5_whoSitsIn := goodIn_r _ [11, 12, 13, 18, 19, 20, 21, 22, 23, 24, 25, 26, 27, 28, 29, 30, 31, 32, 33, 34, 35, 36, 37, 38, 39, 40, 41] (by decide +kernel) (by decide +kernel)
set_option maxRecDepth 20000 in
theorem gX5_tellLamp_X5_whoSitsIn : GoodIn wsX5_tellLamp (wsV RX5 85 RX5 yX5_whoSitsIn wsX5_whoSitsIn) := goodIn_app (goodIn_of _ (by decide +kernel)) ggX5_tellLamp_X5_whoSitsIn
set_option maxRecDepth 20000 in
theorem ggX5_tellLamp_X5_seenBy : GoodIn wsX5_tellLamp wsX5_seenBy := goodIn_r _ [17, 7, 2, 3, 4, 5, 6, 1, 18, 19, 20, 21, 22, 23, 24, 25, 26, 27, 28, 29, 30, 31, 32, 33, 34, 35, 36, 37, 38, 39, 40, 41] (by decide +kernel) (by decide +kernel)
set_option maxRecDepth 20000 in
theorem gX5_tellLamp_X5_seenBy : GoodIn wsX5_tellLamp (wsV RX5 88 RX5 yX5_seenBy wsX5_seenBy) := goodIn_app (goodIn_of _ (by decide +kernel)) ggX5_tellLamp_X5_seenBy
theorem dX5_tellLamp_0 : decode cX5_tellLamp 0 = .ok (.iload_n 2, 1) := by decide +kernel
theorem dX5_tellLamp_1 : decode cX5_tellLamp 1 = .ok (.tableswitch 68 0 5 #[39, 39, 39, 50, 56, 62], 39) := by decide +kernel
theorem dX5_tellLamp_40 : decode cX5_tellLamp 40 = .ok (.aload_n 0, 1) := by decide +kernel
theorem dX5_tellLamp_41 : decode cX5_tellLamp 41 = .ok (.getfield 13, 3) := by decide +kernel
theorem dX5_tellLamp_44 : decode cX5_tellLamp 44 = .ok (.iconst 3, 1) := by decide +kernel
theorem dX5_tellLamp_45 : decode cX5_tellLamp 45 = .ok (.iload_n 1, 1) := by decide +kernel
theorem dX5_tellLamp_46 : decode cX5_tellLamp 46 = .ok (.imul, 1) := by decide +kernel
theorem dX5_tellLamp_47 : decode cX5_tellLamp 47 = .ok (.iload_n 2, 1) := by decide +kernel
theorem dX5_tellLamp_48 : decode cX5_tellLamp 48 = .ok (.iadd, 1) := by decide +kernel
theorem dX5_tellLamp_49 : decode cX5_tellLamp 49 = .ok (.iaload, 1) := by decide +kernel
theorem dX5_tellLamp_50 : decode cX5_tellLamp 50 = .ok (.ireturn, 1) := by decide +kernel
theorem dX5_tellLamp_51 : decode cX5_tellLamp 51 = .ok (.aload_n 0, 1) := by decide +kernel
theorem dX5_tellLamp_52 : decode cX5_tellLamp 52 = .ok (.iload_n 1, 1) := by decide +kernel
theorem dX5_tellLamp_53 : decode cX5_tellLamp 53 = .ok (.invokevirtual 82, 3) := by decide +kernel
theorem dX5_tellLamp_56 : decode cX5_tellLamp 56 = .ok (.ireturn, 1) := by decide +kernel
theorem dX5_tellLamp_57 : decode cX5_tellLamp 57 = .ok (.aload_n 0, 1) := by decide +kernel
theorem dX5_tellLamp_58 : decode cX5_tellLamp 58 = .ok (.iload_n 1, 1) := by decide +kernel
theorem dX5_tellLamp_59 : decode cX5_tellLamp 59 = .ok (.invokevirtual 85, 3) := by decide +kernel
theorem dX5_tellLamp_62 : decode cX5_tellLamp 62 = .ok (.ireturn, 1) := by decide +kernel
theorem dX5_tellLamp_63 : decode cX5_tellLamp 63 = .ok (.aload_n 0, 1) := by decide +kernel
theorem dX5_tellLamp_64 : decode cX5_tellLamp 64 = .ok (.iload_n 1, 1) := by decide +kernel
theorem dX5_tellLamp_65 : decode cX5_tellLamp 65 = .ok (.invokevirtual 88, 3) := by decide +kernel
theorem dX5_tellLamp_68 : decode cX5_tellLamp 68 = .ok (.ireturn, 1) := by decide +kernel
theorem dX5_tellLamp_69 : decode cX5_tellLamp 69 = .ok (.bipush (-102), 2) := by decide +kernel
theorem dX5_tellLamp_71 : decode cX5_tellLamp 71 = .ok (.ireturn, 1) := by decide +kernel
set_option maxRecDepth 20000 in
theorem ggX5_lamp_X5_isLamp : GoodIn wsX5_lamp wsX5_isLamp := goodIn_r _ [5, 6, 7, 8, 4, 9, 29, 30, 31, 32, 33, 34, 35, 36, 37, 38, 39, 40, 41, 42, 43, 44, 45, 46, 47, 48, 49, 50, 51, 52] (by decide +kernel) (by decide +kernel)
set_option maxRecDepth 20000 in
theorem gX5_lamp_X5_isLamp : GoodIn wsX5_lamp (wsV RX5 91 RX5 yX5_isLamp wsX5_isLamp) := goodIn_app (goodIn_of _ (by decide +kernel)) ggX5_lamp_X5_isLamp
set_option maxRecDepth 20000 in
theorem ggX5_lamp_X5_tellLamp : GoodIn wsX5_lamp wsX5_tellLamp := goodIn_r _ [13, 14, 15, 16, 17, 4, 18, 6, 19, 20, 21, 22, 23, 24, 25, 26, 27, 28, 29, 30, 31, 32, 33, 34, 35, 36, 37, 38, 39, 40, 41, 42, 43, 44, 45, 46, 47, 48, 49, 50, 51, 52] (by decide +kernel) (by decide +kernel)
set_option maxRecDepth 20000 in
theorem gX5_lamp_X5_tellLamp : GoodIn wsX5_lamp (wsV RX5 95 RX5 yX5_tellLamp wsX5_tellLamp) := goodIn_app (goodIn_of _ (by decide +kernel)) ggX5_lamp_X5_tellLamp
theorem dX5_lamp_0 : decode cX5_lamp 0 = .ok (.aload_n 0, 1) := by decide +kernel
theorem dX5_lamp_1 : decode cX5_lamp 1 = .ok (.iload_n 1, 1) := by decide +kernel
theorem dX5_lamp_2 : decode cX5_lamp 2 = .ok (.invokevirtual 91, 3) := by decide +kernel
theorem dX5_lamp_5 : decode cX5_lamp 5 = .ok (.ifCond .eq 12, 3) := by decide +kernel
theorem dX5_lamp_8 : decode cX5_lamp 8 = .ok (.aload_n 0, 1) := by decide +kernel
theorem dX5_lamp_9 : decode cX5_lamp 9 = .ok (.iload_n 1, 1) := by decide +kernel
theorem dX5_lamp_10 : decode cX5_lamp 10 = .ok (.iload_n 2, 1) := by decide +kernel
theorem dX5_lamp_11 : decode cX5_lamp 11 = .ok (.invokevirtual 95, 3) := by decide +kernel
theorem dX5_lamp_14 : decode cX5_lamp 14 = .ok (.goto 5, 3) := by decide +kernel
theorem dX5_lamp_17 : decode cX5_lamp 17 = .ok (.bipush (-101), 2) := by decide +kernel
theorem dX5_lamp_19 : decode cX5_lamp 19 = .ok (.ireturn, 1) := by decide +kernel
set_option maxRecDepth 20000 in
theorem ggX5_as_X5_isLamp : GoodIn wsX5_as wsX5_isLamp := goodIn_r _ [7, 8, 9, 10, 6, 11, 12, 13, 14, 15, 16, 17, 18, 19, 20, 21, 22, 23, 24, 25, 26, 27, 28, 29, 30, 31, 32, 33, 34, 35] (by decide +kernel) (by decide +kernel)
set_option maxRecDepth 20000 in
theorem gX5_as_X5_isLamp : GoodIn wsX5_as (wsV RX5 91 RX5 yX5_isLamp wsX5_isLamp) := goodIn_app (goodIn_of _ (by decide +kernel)) ggX5_as_X5_isLamp
set_option maxRecDepth 20000 in
theorem ggX5_as_X5_in : GoodIn wsX5_as wsX5_in := goodIn_r _ [11] (by decide +kernel) (by decide +kernel)
set_option maxRecDepth 20000 in
theorem gX5_as_X5_in : GoodIn wsX5_as (va_wsS RX5 46 yX5_in wsX5_in) := goodIn_app (goodIn_of _ (by decide +kernel)) ggX5_as_X5_in
theorem dX5_as_0 : decode cX5_as 0 = .ok (.aload_n 0, 1) := by decide +kernel
theorem dX5_as_1 : decode cX5_as 1 = .ok (.iload_n 1, 1) := by decide +kernel
theorem dX5_as_2 : decode cX5_as 2 = .ok (.invokevirtual 91, 3) := by decide +kernel
theorem dX5_as_5 : decode cX5_as 5 = .ok (.ifCond .ne 6, 3) := by decide +kernel
theorem dX5_as_8 : decode cX5_as 8 = .ok (.bipush (-101), 2) := by decide +kernel
theorem dX5_as_10 : decode cX5_as 10 = .ok (.ireturn, 1) := by decide +kernel
theorem dX5_as_11 : decode cX5_as 11 = .ok (.iload_n 2, 1) := by decide +kernel
theorem dX5_as_12 : decode cX5_as 12 = .ok (.i2l, 1) := by decide +kernel
theorem dX5_as_13 : decode cX5_as 13 = .ok (.lconst 0, 1) := by decide +kernel
theorem dX5_as_14 : decode cX5_as 14 = .ok (.ldc2_w 99, 3) := by decide +kernel
theorem dX5_as_17 : decode cX5_as 17 = .ok (.invokestatic 46, 3) := by decide +kernel
theorem dX5_as_20 : decode cX5_as 20 = .ok (.ifCond .ne 6, 3) := by decide +kernel
theorem dX5_as_23 : decode cX5_as 23 = .ok (.bipush (-102), 2) := by decide +kernel
theorem dX5_as_25 : decode cX5_as 25 = .ok (.ireturn, 1) := by decide +kernel
theorem dX5_as_26 : decode cX5_as 26 = .ok (.aload_n 0, 1) := by decide +kernel
theorem dX5_as_27 : decode cX5_as 27 = .ok (.getfield 13, 3) := by decide +kernel
theorem dX5_as_30 : decode cX5_as 30 = .ok (.iconst 3, 1) := by decide +kernel
theorem dX5_as_31 : decode cX5_as 31 = .ok (.iload_n 1, 1) := by decide +kernel
theorem dX5_as_32 : decode cX5_as 32 = .ok (.imul, 1) := by decide +kernel
theorem dX5_as_33 : decode cX5_as 33 = .ok (.iaload, 1) := by decide +kernel
theorem dX5_as_34 : decode cX5_as 34 = .ok (.istore_n 3, 1) := by decide +kernel
theorem dX5_as_35 : decode cX5_as 35 = .ok (.iload_n 2, 1) := by decide +kernel
theorem dX5_as_36 : decode cX5_as 36 = .ok (.ifCond .eq 18, 3) := by decide +kernel
theorem dX5_as_39 : decode cX5_as 39 = .ok (.iload_n 2, 1) := by decide +kernel
theorem dX5_as_40 : decode cX5_as 40 = .ok (.iload_n 3, 1) := by decide +kernel
theorem dX5_as_41 : decode cX5_as 41 = .ok (.if_icmp .eq 13, 3) := by decide +kernel
theorem dX5_as_44 : decode cX5_as 44 = .ok (.iload_n 2, 1) := by decide +kernel
theorem dX5_as_45 : decode cX5_as 45 = .ok (.iconst 1, 1) := by decide +kernel
theorem dX5_as_46 : decode cX5_as 46 = .ok (.if_icmp .ne 12, 3) := by decide +kernel
theorem dX5_as_49 : decode cX5_as 49 = .ok (.iload_n 3, 1) := by decide +kernel
theorem dX5_as_50 : decode cX5_as 50 = .ok (.iconst 4, 1) := by decide +kernel
theorem dX5_as_51 : decode cX5_as 51 = .ok (.if_icmp .ne 7, 3) := by decide +kernel
theorem dX5_as_54 : decode cX5_as 54 = .ok (.iconst 1, 1) := by decide +kernel
theorem dX5_as_55 : decode cX5_as 55 = .ok (.goto 4, 3) := by decide +kernel
theorem dX5_as_58 : decode cX5_as 58 = .ok (.iconst 0, 1) := by decide +kernel
theorem dX5_as_59 : decode cX5_as 59 = .ok (.istore 4, 2) := by decide +kernel
theorem dX5_as_61 : decode cX5_as 61 = .ok (.iload 4, 2) := by decide +kernel
theorem dX5_as_63 : decode cX5_as 63 = .ok (.ifCond .eq 7, 3) := by decide +kernel
theorem dX5_as_66 : decode cX5_as 66 = .ok (.iload_n 1, 1) := by decide +kernel
theorem dX5_as_67 : decode cX5_as 67 = .ok (.goto 4, 3) := by decide +kernel
theorem dX5_as_70 : decode cX5_as 70 = .ok (.iconst (-1), 1) := by decide +kernel
theorem dX5_as_71 : decode cX5_as 71 = .ok (.ireturn, 1) := by decide +kernel
set_option maxRecDepth 20000 in
theorem ggX5_person_X5_isLamp : GoodIn wsX5_person wsX5_isLamp := goodIn_r _ [7, 8, 9, 10, 6, 11, 12, 13, 14, 15, 16, 17, 18, 19, 20, 21, 22, 23, 24, 25, 26, 27, 28, 29, 30, 31, 32, 33, 34, 35] (by decide +kernel) (by decide +kernel)
set_option maxRecDepth 20000 in
theorem gX5_person_X5_isLamp : GoodIn wsX5_person (wsV RX5 91 RX5 yX5_isLamp wsX5_isLamp) := goodIn_app (goodIn_of _ (by decide +kernel)) ggX5_person_X5_isLamp
theorem dX5_person_0 : decode cX5_person 0 = .ok (.aload_n 0, 1) := by decide +kernel
theorem dX5_person_1 : decode cX5_person 1 = .ok (.iload_n 1, 1) := by decide +kernel
theorem dX5_person_2 : decode cX5_person 2 = .ok (.invokevirtual 91, 3) := by decide +kernel
theorem dX5_person_5 : decode cX5_person 5 = .ok (.ifCond .ne 6, 3) := by decide +kernel
theorem dX5_person_8 : decode cX5_person 8 = .ok (.bipush (-101), 2) := by decide +kernel
theorem dX5_person_10 : decode cX5_person 10 = .ok (.ireturn, 1) := by decide +kernel
theorem dX5_person_11 : decode cX5_person 11 = .ok (.aload_n 0, 1) := by decide +kernel
theorem dX5_person_12 : decode cX5_person 12 = .ok (.getfield 73, 3) := by decide +kernel
theorem dX5_person_15 : decode cX5_person 15 = .ok (.iconst 4, 1) := by decide +kernel
theorem dX5_person_16 : decode cX5_person 16 = .ok (.if_icmp .ne 6, 3) := by decide +kernel
theorem dX5_person_19 : decode cX5_person 19 = .ok (.bipush (-104), 2) := by decide +kernel
theorem dX5_person_21 : decode cX5_person 21 = .ok (.ireturn, 1) := by decide +kernel
theorem dX5_person_22 : decode cX5_person 22 = .ok (.aload_n 0, 1) := by decide +kernel
theorem dX5_person_23 : decode cX5_person 23 = .ok (.getfield 16, 3) := by decide +kernel
theorem dX5_person_26 : decode cX5_person 26 = .ok (.iconst 3, 1) := by decide +kernel
theorem dX5_person_27 : decode cX5_person 27 = .ok (.aload_n 0, 1) := by decide +kernel
theorem dX5_person_28 : decode cX5_person 28 = .ok (.getfield 73, 3) := by decide +kernel
theorem dX5_person_31 : decode cX5_person 31 = .ok (.imul, 1) := by decide +kernel
theorem dX5_person_32 : decode cX5_person 32 = .ok (.iload_n 1, 1) := by decide +kernel
theorem dX5_person_33 : decode cX5_person 33 = .ok (.iastore, 1) := by decide +kernel
theorem dX5_person_34 : decode cX5_person 34 = .ok (.aload_n 0, 1) := by decide +kernel
theorem dX5_person_35 : decode cX5_person 35 = .ok (.getfield 16, 3) := by decide +kernel
theorem dX5_person_38 : decode cX5_person 38 = .ok (.iconst 3, 1) := by decide +kernel
theorem dX5_person_39 : decode cX5_person 39 = .ok (.aload_n 0, 1) := by decide +kernel
theorem dX5_person_40 : decode cX5_person 40 = .ok (.getfield 73, 3) := by decide +kernel
theorem dX5_person_43 : decode cX5_person 43 = .ok (.imul, 1) := by decide +kernel
theorem dX5_person_44 : decode cX5_person 44 = .ok (.iconst 1, 1) := by decide +kernel
theorem dX5_person_45 : decode cX5_person 45 = .ok (.iadd, 1) := by decide +kernel
theorem dX5_person_46 : decode cX5_person 46 = .ok (.iconst 0, 1) := by decide +kernel
theorem dX5_person_47 : decode cX5_person 47 = .ok (.iastore, 1) := by decide +kernel
theorem dX5_person_48 : decode cX5_person 48 = .ok (.aload_n 0, 1) := by decide +kernel
theorem dX5_person_49 : decode cX5_person 49 = .ok (.getfield 16, 3) := by decide +kernel
theorem dX5_person_52 : decode cX5_person 52 = .ok (.iconst 3, 1) := by decide +kernel
theorem dX5_person_53 : decode cX5_person 53 = .ok (.aload_n 0, 1) := by decide +kernel
theorem dX5_person_54 : decode cX5_person 54 = .ok (.getfield 73, 3) := by decide +kernel
theorem dX5_person_57 : decode cX5_person 57 = .ok (.imul, 1) := by decide +kernel
theorem dX5_person_58 : decode cX5_person 58 = .ok (.iconst 2, 1) := by decide +kernel
theorem dX5_person_59 : decode cX5_person 59 = .ok (.iadd, 1) := by decide +kernel
theorem dX5_person_60 : decode cX5_person 60 = .ok (.iconst 0, 1) := by decide +kernel
theorem dX5_person_61 : decode cX5_person 61 = .ok (.iastore, 1) := by decide +kernel
theorem dX5_person_62 : decode cX5_person 62 = .ok (.aload_n 0, 1) := by decide +kernel
theorem dX5_person_63 : decode cX5_person 63 = .ok (.dup, 1) := by decide +kernel
theorem dX5_person_64 : decode cX5_person 64 = .ok (.getfield 73, 3) := by decide +kernel
theorem dX5_person_67 : decode cX5_person 67 = .ok (.iconst 1, 1) := by decide +kernel
theorem dX5_person_68 : decode cX5_person 68 = .ok (.iadd, 1) := by decide +kernel
theorem dX5_person_69 : decode cX5_person 69 = .ok (.putfield 73, 3) := by decide +kernel
theorem dX5_person_72 : decode cX5_person 72 = .ok (.aload_n 0, 1) := by decide +kernel
theorem dX5_person_73 : decode cX5_person 73 = .ok (.getfield 73, 3) := by decide +kernel
theorem dX5_person_76 : decode cX5_person 76 = .ok (.iconst 1, 1) := by decide +kernel
theorem dX5_person_77 : decode cX5_person 77 = .ok (.isub, 1) := by decide +kernel
theorem dX5_person_78 : decode cX5_person 78 = .ok (.ireturn, 1) := by decide +kernel
theorem dX5_tell_0 : decode cX5_tell 0 = .ok (.iload_n 2, 1) := by decide +kernel
theorem dX5_tell_1 : decode cX5_tell 1 = .ok (.tableswitch 79 0 3 #[31, 40, 66, 66], 31) := by decide +kernel
theorem dX5_tell_32 : decode cX5_tell 32 = .ok (.aload_n 0, 1) := by decide +kernel
theorem dX5_tell_33 : decode cX5_tell 33 = .ok (.getfield 16, 3) := by decide +kernel
theorem dX5_tell_36 : decode cX5_tell 36 = .ok (.iconst 3, 1) := by decide +kernel
theorem dX5_tell_37 : decode cX5_tell 37 = .ok (.iload_n 1, 1) := by decide +kernel
theorem dX5_tell_38 : decode cX5_tell 38 = .ok (.imul, 1) := by decide +kernel
theorem dX5_tell_39 : decode cX5_tell 39 = .ok (.iaload, 1) := by decide +kernel
theorem dX5_tell_40 : decode cX5_tell 40 = .ok (.ireturn, 1) := by decide +kernel
theorem dX5_tell_41 : decode cX5_tell 41 = .ok (.aload_n 0, 1) := by decide +kernel
theorem dX5_tell_42 : decode cX5_tell 42 = .ok (.getfield 13, 3) := by decide +kernel
theorem dX5_tell_45 : decode cX5_tell 45 = .ok (.iconst 3, 1) := by decide +kernel
theorem dX5_tell_46 : decode cX5_tell 46 = .ok (.aload_n 0, 1) := by decide +kernel
theorem dX5_tell_47 : decode cX5_tell 47 = .ok (.getfield 16, 3) := by decide +kernel
theorem dX5_tell_50 : decode cX5_tell 50 = .ok (.iconst 3, 1) := by decide +kernel
theorem dX5_tell_51 : decode cX5_tell 51 = .ok (.iload_n 1, 1) := by decide +kernel
theorem dX5_tell_52 : decode cX5_tell 52 = .ok (.imul, 1) := by decide +kernel
theorem dX5_tell_53 : decode cX5_tell 53 = .ok (.iaload, 1) := by decide +kernel
theorem dX5_tell_54 : decode cX5_tell 54 = .ok (.imul, 1) := by decide +kernel
theorem dX5_tell_55 : decode cX5_tell 55 = .ok (.iconst 2, 1) := by decide +kernel
theorem dX5_tell_56 : decode cX5_tell 56 = .ok (.iadd, 1) := by decide +kernel
theorem dX5_tell_57 : decode cX5_tell 57 = .ok (.iaload, 1) := by decide +kernel
theorem dX5_tell_58 : decode cX5_tell 58 = .ok (.ifCond .le 7, 3) := by decide +kernel
theorem dX5_tell_61 : decode cX5_tell 61 = .ok (.iconst 1, 1) := by decide +kernel
theorem dX5_tell_62 : decode cX5_tell 62 = .ok (.goto 4, 3) := by decide +kernel
theorem dX5_tell_65 : decode cX5_tell 65 = .ok (.iconst 0, 1) := by decide +kernel
theorem dX5_tell_66 : decode cX5_tell 66 = .ok (.ireturn, 1) := by decide +kernel
theorem dX5_tell_67 : decode cX5_tell 67 = .ok (.aload_n 0, 1) := by decide +kernel
theorem dX5_tell_68 : decode cX5_tell 68 = .ok (.getfield 16, 3) := by decide +kernel
theorem dX5_tell_71 : decode cX5_tell 71 = .ok (.iconst 3, 1) := by decide +kernel
theorem dX5_tell_72 : decode cX5_tell 72 = .ok (.iload_n 1, 1) := by decide +kernel
theorem dX5_tell_73 : decode cX5_tell 73 = .ok (.imul, 1) := by decide +kernel
theorem dX5_tell_74 : decode cX5_tell 74 = .ok (.iload_n 2, 1) := by decide +kernel
theorem dX5_tell_75 : decode cX5_tell 75 = .ok (.iadd, 1) := by decide +kernel
theorem dX5_tell_76 : decode cX5_tell 76 = .ok (.iconst 1, 1) := by decide +kernel
theorem dX5_tell_77 : decode cX5_tell 77 = .ok (.isub, 1) := by decide +kernel
theorem dX5_tell_78 : decode cX5_tell 78 = .ok (.iaload, 1) := by decide +kernel
theorem dX5_tell_79 : decode cX5_tell 79 = .ok (.ireturn, 1) := by decide +kernel
theorem dX5_tell_80 : decode cX5_tell 80 = .ok (.bipush (-102), 2) := by decide +kernel
theorem dX5_tell_82 : decode cX5_tell 82 = .ok (.ireturn, 1) := by decide +kernel
set_option maxRecDepth 20000 in
theorem ggX5_about_X5_isPerson : GoodIn wsX5_about wsX5_isPerson := goodIn_r _ [5, 6, 7, 8, 4, 9, 16, 17, 18, 19, 20, 21, 22, 23, 24, 25, 26, 27, 28, 29, 30, 31, 32, 33, 34, 35, 36, 37, 38, 39] (by decide +kernel) (by decide +kernel)
set_option maxRecDepth 20000 in
theorem gX5_about_X5_isPerson : GoodIn wsX5_about (wsV RX5 101 RX5 yX5_isPerson wsX5_isPerson) := goodIn_app (goodIn_of _ (by decide +kernel)) ggX5_about_X5_isPerson
set_option maxRecDepth 20000 in
theorem ggX5_about_X5_tell : GoodIn wsX5_about wsX5_tell := goodIn_r _ [13, 14, 15, 16, 17, 18, 19, 20, 21, 22, 23, 24, 25, 26, 27, 28, 29, 30, 31, 32, 33, 34, 35, 36, 37, 38, 39] (by decide +kernel) (by decide +kernel)
set_option maxRecDepth 20000 in
theorem gX5_about_X5_tell : GoodIn wsX5_about (wsV RX5 104 RX5 yX5_tell wsX5_tell) := goodIn_app (goodIn_of _ (by decide +kernel)) ggX5_about_X5_tell
theorem dX5_about_0 : decode cX5_about 0 = .ok (.aload_n 0, 1) := by decide +kernel
theorem dX5_about_1 : decode cX5_about 1 = .ok (.iload_n 1, 1) := by decide +kernel
theorem dX5_about_2 : decode cX5_about 2 = .ok (.invokevirtual 101, 3) := by decide +kernel
theorem dX5_about_5 : decode cX5_about 5 = .ok (.ifCond .eq 12, 3) := by decide +kernel
theorem dX5_about_8 : decode cX5_about 8 = .ok (.aload_n 0, 1) := by decide +kernel
theorem dX5_about_9 : decode cX5_about 9 = .ok (.iload_n 1, 1) := by decide +kernel
theorem dX5_about_10 : decode cX5_about 10 = .ok (.iload_n 2, 1) := by decide +kernel
theorem dX5_about_11 : decode cX5_about 11 = .ok (.invokevirtual 104, 3) := by decide +kernel
theorem dX5_about_14 : decode cX5_about 14 = .ok (.goto 5, 3) := by decide +kernel
theorem dX5_about_17 : decode cX5_about 17 = .ok (.bipush (-101), 2) := by decide +kernel
theorem dX5_about_19 : decode cX5_about 19 = .ok (.ireturn, 1) := by decide +kernel
set_option maxRecDepth 20000 in
theorem ggX5_move_X5_isPerson : GoodIn wsX5_move wsX5_isPerson := goodIn_r _ [6, 7, 8, 9, 5, 10, 16, 17, 18, 19, 20, 21, 22, 23, 24, 25, 26, 27, 28, 29, 30, 31, 32, 33, 34, 35, 36, 37, 38, 39] (by decide +kernel) (by decide +kernel)
set_option maxRecDepth 20000 in
theorem gX5_move_X5_isPerson : GoodIn wsX5_move (wsV RX5 101 RX5 yX5_isPerson wsX5_isPerson) := goodIn_app (goodIn_of _ (by decide +kernel)) ggX5_move_X5_isPerson
set_option maxRecDepth 20000 in
theorem ggX5_move_X5_isLamp : GoodIn wsX5_move wsX5_isLamp := goodIn_r _ [14, 15, 8, 9, 5, 10, 16, 17, 18, 19, 20, 21, 22, 23, 24, 25, 26, 27, 28, 29, 30, 31, 32, 33, 34, 35, 36, 37, 38, 39] (by decide +kernel) (by decide +kernel)
set_option maxRecDepth 20000 in
theorem gX5_move_X5_isLamp : GoodIn wsX5_move (wsV RX5 91 RX5 yX5_isLamp wsX5_isLamp) := goodIn_app (goodIn_of _ (by decide +kernel)) ggX5_move_X5_isLamp
theorem dX5_move_0 : decode cX5_move 0 = .ok (.aload_n 0, 1) := by decide +kernel
theorem dX5_move_1 : decode cX5_move 1 = .ok (.iload_n 1, 1) := by decide +kernel
theorem dX5_move_2 : decode cX5_move 2 = .ok (.invokevirtual 101, 3) := by decide +kernel
theorem dX5_move_5 : decode cX5_move 5 = .ok (.ifCond .eq 11, 3) := by decide +kernel
theorem dX5_move_8 : decode cX5_move 8 = .ok (.aload_n 0, 1) := by decide +kernel
theorem dX5_move_9 : decode cX5_move 9 = .ok (.iload_n 2, 1) := by decide +kernel
theorem dX5_move_10 : decode cX5_move 10 = .ok (.invokevirtual 91, 3) := by decide +kernel
theorem dX5_move_13 : decode cX5_move 13 = .ok (.ifCond .ne 6, 3) := by decide +kernel
theorem dX5_move_16 : decode cX5_move 16 = .ok (.bipush (-101), 2) := by decide +kernel
theorem dX5_move_18 : decode cX5_move 18 = .ok (.ireturn, 1) := by decide +kernel
theorem dX5_move_19 : decode cX5_move 19 = .ok (.aload_n 0, 1) := by decide +kernel
theorem dX5_move_20 : decode cX5_move 20 = .ok (.getfield 16, 3) := by decide +kernel
theorem dX5_move_23 : decode cX5_move 23 = .ok (.iconst 3, 1) := by decide +kernel
theorem dX5_move_24 : decode cX5_move 24 = .ok (.iload_n 1, 1) := by decide +kernel
theorem dX5_move_25 : decode cX5_move 25 = .ok (.imul, 1) := by decide +kernel
theorem dX5_move_26 : decode cX5_move 26 = .ok (.iaload, 1) := by decide +kernel
theorem dX5_move_27 : decode cX5_move 27 = .ok (.istore_n 3, 1) := by decide +kernel
theorem dX5_move_28 : decode cX5_move 28 = .ok (.aload_n 0, 1) := by decide +kernel
theorem dX5_move_29 : decode cX5_move 29 = .ok (.getfield 16, 3) := by decide +kernel
theorem dX5_move_32 : decode cX5_move 32 = .ok (.iconst 3, 1) := by decide +kernel
theorem dX5_move_33 : decode cX5_move 33 = .ok (.iload_n 1, 1) := by decide +kernel
theorem dX5_move_34 : decode cX5_move 34 = .ok (.imul, 1) := by decide +kernel
theorem dX5_move_35 : decode cX5_move 35 = .ok (.iload_n 2, 1) := by decide +kernel
theorem dX5_move_36 : decode cX5_move 36 = .ok (.iastore, 1) := by decide +kernel
theorem dX5_move_37 : decode cX5_move 37 = .ok (.iload_n 3, 1) := by decide +kernel
theorem dX5_move_38 : decode cX5_move 38 = .ok (.ireturn, 1) := by decide +kernel
theorem dX5_asItIs_0 : decode cX5_asItIs 0 = .ok (.iconst 0, 1) := by decide +kernel
theorem dX5_asItIs_1 : decode cX5_asItIs 1 = .ok (.istore_n 1, 1) := by decide +kernel
theorem dX5_asItIs_2 : decode cX5_asItIs 2 = .ok (.iload_n 1, 1) := by decide +kernel
theorem dX5_asItIs_3 : decode cX5_asItIs 3 = .ok (.aload_n 0, 1) := by decide +kernel
theorem dX5_asItIs_4 : decode cX5_asItIs 4 = .ok (.getfield 67, 3) := by decide +kernel
theorem dX5_asItIs_7 : decode cX5_asItIs 7 = .ok (.if_icmp .ge 25, 3) := by decide +kernel
theorem dX5_asItIs_10 : decode cX5_asItIs 10 = .ok (.aload_n 0, 1) := by decide +kernel
theorem dX5_asItIs_11 : decode cX5_asItIs 11 = .ok (.getfield 19, 3) := by decide +kernel
theorem dX5_asItIs_14 : decode cX5_asItIs 14 = .ok (.iload_n 1, 1) := by decide +kernel
theorem dX5_asItIs_15 : decode cX5_asItIs 15 = .ok (.aload_n 0, 1) := by decide +kernel
theorem dX5_asItIs_16 : decode cX5_asItIs 16 = .ok (.getfield 13, 3) := by decide +kernel
theorem dX5_asItIs_19 : decode cX5_asItIs 19 = .ok (.iconst 3, 1) := by decide +kernel
theorem dX5_asItIs_20 : decode cX5_asItIs 20 = .ok (.iload_n 1, 1) := by decide +kernel
theorem dX5_asItIs_21 : decode cX5_asItIs 21 = .ok (.imul, 1) := by decide +kernel
theorem dX5_asItIs_22 : decode cX5_asItIs 22 = .ok (.iconst 2, 1) := by decide +kernel
theorem dX5_asItIs_23 : decode cX5_asItIs 23 = .ok (.iadd, 1) := by decide +kernel
theorem dX5_asItIs_24 : decode cX5_asItIs 24 = .ok (.iaload, 1) := by decide +kernel
theorem dX5_asItIs_25 : decode cX5_asItIs 25 = .ok (.iastore, 1) := by decide +kernel
theorem dX5_asItIs_26 : decode cX5_asItIs 26 = .ok (.iinc 1 1, 3) := by decide +kernel
theorem dX5_asItIs_29 : decode cX5_asItIs 29 = .ok (.goto (-27), 3) := by decide +kernel
theorem dX5_asItIs_32 : decode cX5_asItIs 32 = .ok (.return_, 1) := by decide +kernel
set_option maxRecDepth 20000 in
theorem ggX5_goesBy_X5_seesOf : GoodIn wsX5_goesBy wsX5_seesOf := goodIn_r _ [8, 1, 3, 9, 10, 11, 12, 13, 14, 15, 16, 17, 18, 19, 20, 21, 22, 23, 24, 25, 26, 27, 28, 29, 30, 31, 32] (by decide +kernel) (by decide +kernel)
set_option maxRecDepth 20000 in
theorem gX5_goesBy_X5_seesOf : GoodIn wsX5_goesBy (wsV RX5 82 RX5 yX5_seesOf wsX5_seesOf) := goodIn_app (goodIn_of _ (by decide +kernel)) ggX5_goesBy_X5_seesOf
theorem dX5_goesBy_0 : decode cX5_goesBy 0 = .ok (.iconst 0, 1) := by decide +kernel
theorem dX5_goesBy_1 : decode cX5_goesBy 1 = .ok (.istore_n 2, 1) := by decide +kernel
theorem dX5_goesBy_2 : decode cX5_goesBy 2 = .ok (.iload_n 2, 1) := by decide +kernel
theorem dX5_goesBy_3 : decode cX5_goesBy 3 = .ok (.aload_n 0, 1) := by decide +kernel
theorem dX5_goesBy_4 : decode cX5_goesBy 4 = .ok (.getfield 67, 3) := by decide +kernel
theorem dX5_goesBy_7 : decode cX5_goesBy 7 = .ok (.if_icmp .ge 69, 3) := by decide +kernel
theorem dX5_goesBy_10 : decode cX5_goesBy 10 = .ok (.aload_n 0, 1) := by decide +kernel
theorem dX5_goesBy_11 : decode cX5_goesBy 11 = .ok (.iload_n 2, 1) := by decide +kernel
theorem dX5_goesBy_12 : decode cX5_goesBy 12 = .ok (.invokevirtual 82, 3) := by decide +kernel
theorem dX5_goesBy_15 : decode cX5_goesBy 15 = .ok (.iload_n 1, 1) := by decide +kernel
theorem dX5_goesBy_16 : decode cX5_goesBy 16 = .ok (.iand, 1) := by decide +kernel
theorem dX5_goesBy_17 : decode cX5_goesBy 17 = .ok (.ifCond .eq 7, 3) := by decide +kernel
theorem dX5_goesBy_20 : decode cX5_goesBy 20 = .ok (.iconst 1, 1) := by decide +kernel
theorem dX5_goesBy_21 : decode cX5_goesBy 21 = .ok (.goto 4, 3) := by decide +kernel
theorem dX5_goesBy_24 : decode cX5_goesBy 24 = .ok (.iconst 0, 1) := by decide +kernel
theorem dX5_goesBy_25 : decode cX5_goesBy 25 = .ok (.istore_n 3, 1) := by decide +kernel
theorem dX5_goesBy_26 : decode cX5_goesBy 26 = .ok (.aload_n 0, 1) := by decide +kernel
theorem dX5_goesBy_27 : decode cX5_goesBy 27 = .ok (.getfield 19, 3) := by decide +kernel
theorem dX5_goesBy_30 : decode cX5_goesBy 30 = .ok (.iload_n 2, 1) := by decide +kernel
theorem dX5_goesBy_31 : decode cX5_goesBy 31 = .ok (.iload_n 3, 1) := by decide +kernel
theorem dX5_goesBy_32 : decode cX5_goesBy 32 = .ok (.ifCond .eq 16, 3) := by decide +kernel
theorem dX5_goesBy_35 : decode cX5_goesBy 35 = .ok (.aload_n 0, 1) := by decide +kernel
theorem dX5_goesBy_36 : decode cX5_goesBy 36 = .ok (.getfield 13, 3) := by decide +kernel
theorem dX5_goesBy_39 : decode cX5_goesBy 39 = .ok (.iconst 3, 1) := by decide +kernel
theorem dX5_goesBy_40 : decode cX5_goesBy 40 = .ok (.iload_n 2, 1) := by decide +kernel
theorem dX5_goesBy_41 : decode cX5_goesBy 41 = .ok (.imul, 1) := by decide +kernel
theorem dX5_goesBy_42 : decode cX5_goesBy 42 = .ok (.iconst 1, 1) := by decide +kernel
theorem dX5_goesBy_43 : decode cX5_goesBy 43 = .ok (.iadd, 1) := by decide +kernel
theorem dX5_goesBy_44 : decode cX5_goesBy 44 = .ok (.iaload, 1) := by decide +kernel
theorem dX5_goesBy_45 : decode cX5_goesBy 45 = .ok (.goto 24, 3) := by decide +kernel
theorem dX5_goesBy_48 : decode cX5_goesBy 48 = .ok (.aload_n 0, 1) := by decide +kernel
theorem dX5_goesBy_49 : decode cX5_goesBy 49 = .ok (.getfield 19, 3) := by decide +kernel
theorem dX5_goesBy_52 : decode cX5_goesBy 52 = .ok (.iload_n 2, 1) := by decide +kernel
theorem dX5_goesBy_53 : decode cX5_goesBy 53 = .ok (.iaload, 1) := by decide +kernel
theorem dX5_goesBy_54 : decode cX5_goesBy 54 = .ok (.ifCond .le 14, 3) := by decide +kernel
theorem dX5_goesBy_57 : decode cX5_goesBy 57 = .ok (.aload_n 0, 1) := by decide +kernel
theorem dX5_goesBy_58 : decode cX5_goesBy 58 = .ok (.getfield 19, 3) := by decide +kernel
theorem dX5_goesBy_61 : decode cX5_goesBy 61 = .ok (.iload_n 2, 1) := by decide +kernel
theorem dX5_goesBy_62 : decode cX5_goesBy 62 = .ok (.iaload, 1) := by decide +kernel
theorem dX5_goesBy_63 : decode cX5_goesBy 63 = .ok (.iconst 1, 1) := by decide +kernel
theorem dX5_goesBy_64 : decode cX5_goesBy 64 = .ok (.isub, 1) := by decide +kernel
theorem dX5_goesBy_65 : decode cX5_goesBy 65 = .ok (.goto 4, 3) := by decide +kernel
theorem dX5_goesBy_68 : decode cX5_goesBy 68 = .ok (.iconst 0, 1) := by decide +kernel
theorem dX5_goesBy_69 : decode cX5_goesBy 69 = .ok (.iastore, 1) := by decide +kernel
theorem dX5_goesBy_70 : decode cX5_goesBy 70 = .ok (.iinc 2 1, 3) := by decide +kernel
theorem dX5_goesBy_73 : decode cX5_goesBy 73 = .ok (.goto (-71), 3) := by decide +kernel
theorem dX5_goesBy_76 : decode cX5_goesBy 76 = .ok (.return_, 1) := by decide +kernel
theorem dX5_sectionsOf_0 : decode cX5_sectionsOf 0 = .ok (.iconst 0, 1) := by decide +kernel
theorem dX5_sectionsOf_1 : decode cX5_sectionsOf 1 = .ok (.istore_n 2, 1) := by decide +kernel
theorem dX5_sectionsOf_2 : decode cX5_sectionsOf 2 = .ok (.iconst 0, 1) := by decide +kernel
theorem dX5_sectionsOf_3 : decode cX5_sectionsOf 3 = .ok (.istore_n 3, 1) := by decide +kernel
theorem dX5_sectionsOf_4 : decode cX5_sectionsOf 4 = .ok (.iload_n 3, 1) := by decide +kernel
theorem dX5_sectionsOf_5 : decode cX5_sectionsOf 5 = .ok (.aload_n 0, 1) := by decide +kernel
theorem dX5_sectionsOf_6 : decode cX5_sectionsOf 6 = .ok (.getfield 73, 3) := by decide +kernel
theorem dX5_sectionsOf_9 : decode cX5_sectionsOf 9 = .ok (.if_icmp .ge 35, 3) := by decide +kernel
theorem dX5_sectionsOf_12 : decode cX5_sectionsOf 12 = .ok (.iload_n 2, 1) := by decide +kernel
theorem dX5_sectionsOf_13 : decode cX5_sectionsOf 13 = .ok (.iload_n 1, 1) := by decide +kernel
theorem dX5_sectionsOf_14 : decode cX5_sectionsOf 14 = .ok (.iload_n 3, 1) := by decide +kernel
theorem dX5_sectionsOf_15 : decode cX5_sectionsOf 15 = .ok (.ishr, 1) := by decide +kernel
theorem dX5_sectionsOf_16 : decode cX5_sectionsOf 16 = .ok (.iconst 1, 1) := by decide +kernel
theorem dX5_sectionsOf_17 : decode cX5_sectionsOf 17 = .ok (.iand, 1) := by decide +kernel
theorem dX5_sectionsOf_18 : decode cX5_sectionsOf 18 = .ok (.iconst 1, 1) := by decide +kernel
theorem dX5_sectionsOf_19 : decode cX5_sectionsOf 19 = .ok (.if_icmp .ne 16, 3) := by decide +kernel
theorem dX5_sectionsOf_22 : decode cX5_sectionsOf 22 = .ok (.iconst 1, 1) := by decide +kernel
theorem dX5_sectionsOf_23 : decode cX5_sectionsOf 23 = .ok (.aload_n 0, 1) := by decide +kernel
theorem dX5_sectionsOf_24 : decode cX5_sectionsOf 24 = .ok (.getfield 16, 3) := by decide +kernel
theorem dX5_sectionsOf_27 : decode cX5_sectionsOf 27 = .ok (.iconst 3, 1) := by decide +kernel
theorem dX5_sectionsOf_28 : decode cX5_sectionsOf 28 = .ok (.iload_n 3, 1) := by decide +kernel
theorem dX5_sectionsOf_29 : decode cX5_sectionsOf 29 = .ok (.imul, 1) := by decide +kernel
theorem dX5_sectionsOf_30 : decode cX5_sectionsOf 30 = .ok (.iaload, 1) := by decide +kernel
theorem dX5_sectionsOf_31 : decode cX5_sectionsOf 31 = .ok (.ishl, 1) := by decide +kernel
theorem dX5_sectionsOf_32 : decode cX5_sectionsOf 32 = .ok (.goto 4, 3) := by decide +kernel
theorem dX5_sectionsOf_35 : decode cX5_sectionsOf 35 = .ok (.iconst 0, 1) := by decide +kernel
theorem dX5_sectionsOf_36 : decode cX5_sectionsOf 36 = .ok (.ior, 1) := by decide +kernel
theorem dX5_sectionsOf_37 : decode cX5_sectionsOf 37 = .ok (.istore_n 2, 1) := by decide +kernel
theorem dX5_sectionsOf_38 : decode cX5_sectionsOf 38 = .ok (.iinc 3 1, 3) := by decide +kernel
theorem dX5_sectionsOf_41 : decode cX5_sectionsOf 41 = .ok (.goto (-37), 3) := by decide +kernel
theorem dX5_sectionsOf_44 : decode cX5_sectionsOf 44 = .ok (.iload_n 2, 1) := by decide +kernel
theorem dX5_sectionsOf_45 : decode cX5_sectionsOf 45 = .ok (.ireturn, 1) := by decide +kernel
theorem dX5_darkNow_0 : decode cX5_darkNow 0 = .ok (.iconst 0, 1) := by decide +kernel
theorem dX5_darkNow_1 : decode cX5_darkNow 1 = .ok (.istore_n 1, 1) := by decide +kernel
theorem dX5_darkNow_2 : decode cX5_darkNow 2 = .ok (.iconst 0, 1) := by decide +kernel
theorem dX5_darkNow_3 : decode cX5_darkNow 3 = .ok (.istore_n 2, 1) := by decide +kernel
theorem dX5_darkNow_4 : decode cX5_darkNow 4 = .ok (.iload_n 2, 1) := by decide +kernel
theorem dX5_darkNow_5 : decode cX5_darkNow 5 = .ok (.aload_n 0, 1) := by decide +kernel
theorem dX5_darkNow_6 : decode cX5_darkNow 6 = .ok (.getfield 73, 3) := by decide +kernel
theorem dX5_darkNow_9 : decode cX5_darkNow 9 = .ok (.if_icmp .ge 33, 3) := by decide +kernel
theorem dX5_darkNow_12 : decode cX5_darkNow 12 = .ok (.iload_n 1, 1) := by decide +kernel
theorem dX5_darkNow_13 : decode cX5_darkNow 13 = .ok (.aload_n 0, 1) := by decide +kernel
theorem dX5_darkNow_14 : decode cX5_darkNow 14 = .ok (.getfield 19, 3) := by decide +kernel
theorem dX5_darkNow_17 : decode cX5_darkNow 17 = .ok (.aload_n 0, 1) := by decide +kernel
theorem dX5_darkNow_18 : decode cX5_darkNow 18 = .ok (.getfield 16, 3) := by decide +kernel
theorem dX5_darkNow_21 : decode cX5_darkNow 21 = .ok (.iconst 3, 1) := by decide +kernel
theorem dX5_darkNow_22 : decode cX5_darkNow 22 = .ok (.iload_n 2, 1) := by decide +kernel
theorem dX5_darkNow_23 : decode cX5_darkNow 23 = .ok (.imul, 1) := by decide +kernel
theorem dX5_darkNow_24 : decode cX5_darkNow 24 = .ok (.iaload, 1) := by decide +kernel
theorem dX5_darkNow_25 : decode cX5_darkNow 25 = .ok (.iaload, 1) := by decide +kernel
theorem dX5_darkNow_26 : decode cX5_darkNow 26 = .ok (.ifCond .ne 7, 3) := by decide +kernel
theorem dX5_darkNow_29 : decode cX5_darkNow 29 = .ok (.iconst 1, 1) := by decide +kernel
theorem dX5_darkNow_30 : decode cX5_darkNow 30 = .ok (.goto 4, 3) := by decide +kernel
theorem dX5_darkNow_33 : decode cX5_darkNow 33 = .ok (.iconst 0, 1) := by decide +kernel
theorem dX5_darkNow_34 : decode cX5_darkNow 34 = .ok (.iadd, 1) := by decide +kernel
theorem dX5_darkNow_35 : decode cX5_darkNow 35 = .ok (.istore_n 1, 1) := by decide +kernel
theorem dX5_darkNow_36 : decode cX5_darkNow 36 = .ok (.iinc 2 1, 3) := by decide +kernel
theorem dX5_darkNow_39 : decode cX5_darkNow 39 = .ok (.goto (-35), 3) := by decide +kernel
theorem dX5_darkNow_42 : decode cX5_darkNow 42 = .ok (.iload_n 1, 1) := by decide +kernel
theorem dX5_darkNow_43 : decode cX5_darkNow 43 = .ok (.ireturn, 1) := by decide +kernel
set_option maxRecDepth 20000 in
theorem ggX5_minute_X5_in : GoodIn wsX5_minute wsX5_in := goodIn_r _ [10] (by decide +kernel) (by decide +kernel)
set_option maxRecDepth 20000 in
theorem gX5_minute_X5_in : GoodIn wsX5_minute (va_wsS RX5 46 yX5_in wsX5_in) := goodIn_app (goodIn_of _ (by decide +kernel)) ggX5_minute_X5_in
set_option maxRecDepth 20000 in
theorem ggX5_minute_X5_lacks : GoodIn wsX5_minute wsX5_lacks := goodIn_r _ [14, 2, 35, 36, 37, 38, 39, 40, 41, 42, 43, 44, 45, 46, 47, 48, 49, 50, 51, 52, 53, 54, 55, 56, 57, 58] (by decide +kernel) (by decide +kernel)
set_option maxRecDepth 20000 in
theorem gX5_minute_X5_lacks : GoodIn wsX5_minute (wsV RX5 107 RX5 yX5_lacks wsX5_lacks) := goodIn_app (goodIn_of _ (by decide +kernel)) ggX5_minute_X5_lacks
set_option maxRecDepth 20000 in
theorem ggX5_minute_X5_asItIs : GoodIn wsX5_minute wsX5_asItIs := goodIn_r _ [18, 2, 4, 3, 35, 36, 37, 38, 39, 40, 41, 42, 43, 44, 45, 46, 47, 48, 49, 50, 51, 52, 53, 54, 55, 56, 57, 58] (by decide +kernel) (by decide +kernel)
set_option maxRecDepth 20000 in
theorem gX5_minute_X5_asItIs : GoodIn wsX5_minute (wsV RX5 111 RX5 yX5_asItIs wsX5_asItIs) := goodIn_app (goodIn_of _ (by decide +kernel)) ggX5_minute_X5_asItIs
set_option maxRecDepth 20000 in
theorem ggX5_minute_X5_sectionsOf : GoodIn wsX5_minute wsX5_sectionsOf := goodIn_r _ [22, 1, 5, 35, 36, 37, 38, 39, 40, 41, 42, 43, 44, 45, 46, 47, 48, 49, 50, 51, 52, 53, 54, 55, 56, 57, 58] (by decide +kernel) (by decide +kernel)
set_option maxRecDepth 20000 in
theorem gX5_minute_X5_sectionsOf : GoodIn wsX5_minute (wsV RX5 114 RX5 yX5_sectionsOf wsX5_sectionsOf) := goodIn_app (goodIn_of _ (by decide +kernel)) ggX5_minute_X5_sectionsOf
set_option maxRecDepth 20000 in
theorem ggX5_minute_X5_goesBy : GoodIn wsX5_minute wsX5_goesBy := goodIn_r _ [26, 2, 4, 3, 27, 28, 29, 9, 30, 35, 36, 37, 38, 39, 40, 41, 42, 43, 44, 45, 46, 47, 48, 49, 50, 51, 52, 53, 54, 55, 56, 57, 58] (by decide +kernel) (by decide +kernel)
set_option maxRecDepth 20000 in
theorem gX5_minute_X5_goesBy : GoodIn wsX5_minute (wsV RX5 117 RX5 yX5_goesBy wsX5_goesBy) := goodIn_app (goodIn_of _ (by decide +kernel)) ggX5_minute_X5_goesBy
set_option maxRecDepth 20000 in
theorem ggX5_minute_X5_darkNow : GoodIn wsX5_minute wsX5_darkNow := goodIn_r _ [34, 1, 4, 5, 35, 36, 37, 38, 39, 40, 41, 42, 43, 44, 45, 46, 47, 48, 49, 50, 51, 52, 53, 54, 55, 56, 57, 58] (by decide +kernel) (by decide +kernel)
set_option maxRecDepth 20000 in
theorem gX5_minute_X5_darkNow : GoodIn wsX5_minute (wsV RX5 121 RX5 yX5_darkNow wsX5_darkNow) := goodIn_app (goodIn_of _ (by decide +kernel)) ggX5_minute_X5_darkNow
theorem dX5_minute_0 : decode cX5_minute 0 = .ok (.iload_n 1, 1) := by decide +kernel
theorem dX5_minute_1 : decode cX5_minute 1 = .ok (.i2l, 1) := by decide +kernel
theorem dX5_minute_2 : decode cX5_minute 2 = .ok (.lconst 0, 1) := by decide +kernel
theorem dX5_minute_3 : decode cX5_minute 3 = .ok (.iconst 1, 1) := by decide +kernel
theorem dX5_minute_4 : decode cX5_minute 4 = .ok (.aload_n 0, 1) := by decide +kernel
theorem dX5_minute_5 : decode cX5_minute 5 = .ok (.getfield 73, 3) := by decide +kernel
theorem dX5_minute_8 : decode cX5_minute 8 = .ok (.ishl, 1) := by decide +kernel
theorem dX5_minute_9 : decode cX5_minute 9 = .ok (.iconst 1, 1) := by decide +kernel
theorem dX5_minute_10 : decode cX5_minute 10 = .ok (.isub, 1) := by decide +kernel
theorem dX5_minute_11 : decode cX5_minute 11 = .ok (.i2l, 1) := by decide +kernel
theorem dX5_minute_12 : decode cX5_minute 12 = .ok (.invokestatic 46, 3) := by decide +kernel
theorem dX5_minute_15 : decode cX5_minute 15 = .ok (.ifCond .ne 6, 3) := by decide +kernel
theorem dX5_minute_18 : decode cX5_minute 18 = .ok (.bipush (-102), 2) := by decide +kernel
theorem dX5_minute_20 : decode cX5_minute 20 = .ok (.ireturn, 1) := by decide +kernel
theorem dX5_minute_21 : decode cX5_minute 21 = .ok (.aload_n 0, 1) := by decide +kernel
theorem dX5_minute_22 : decode cX5_minute 22 = .ok (.invokevirtual 107, 3) := by decide +kernel
theorem dX5_minute_25 : decode cX5_minute 25 = .ok (.ifCond .eq 6, 3) := by decide +kernel
theorem dX5_minute_28 : decode cX5_minute 28 = .ok (.bipush (-103), 2) := by decide +kernel
theorem dX5_minute_30 : decode cX5_minute 30 = .ok (.ireturn, 1) := by decide +kernel
theorem dX5_minute_31 : decode cX5_minute 31 = .ok (.aload_n 0, 1) := by decide +kernel
theorem dX5_minute_32 : decode cX5_minute 32 = .ok (.invokevirtual 111, 3) := by decide +kernel
theorem dX5_minute_35 : decode cX5_minute 35 = .ok (.aload_n 0, 1) := by decide +kernel
theorem dX5_minute_36 : decode cX5_minute 36 = .ok (.aload_n 0, 1) := by decide +kernel
theorem dX5_minute_37 : decode cX5_minute 37 = .ok (.iload_n 1, 1) := by decide +kernel
theorem dX5_minute_38 : decode cX5_minute 38 = .ok (.invokevirtual 114, 3) := by decide +kernel
theorem dX5_minute_41 : decode cX5_minute 41 = .ok (.invokevirtual 117, 3) := by decide +kernel
theorem dX5_minute_44 : decode cX5_minute 44 = .ok (.iconst 0, 1) := by decide +kernel
theorem dX5_minute_45 : decode cX5_minute 45 = .ok (.istore_n 2, 1) := by decide +kernel
theorem dX5_minute_46 : decode cX5_minute 46 = .ok (.iload_n 2, 1) := by decide +kernel
theorem dX5_minute_47 : decode cX5_minute 47 = .ok (.aload_n 0, 1) := by decide +kernel
theorem dX5_minute_48 : decode cX5_minute 48 = .ok (.getfield 67, 3) := by decide +kernel
theorem dX5_minute_51 : decode cX5_minute 51 = .ok (.if_icmp .ge 25, 3) := by decide +kernel
theorem dX5_minute_54 : decode cX5_minute 54 = .ok (.aload_n 0, 1) := by decide +kernel
theorem dX5_minute_55 : decode cX5_minute 55 = .ok (.getfield 13, 3) := by decide +kernel
theorem dX5_minute_58 : decode cX5_minute 58 = .ok (.iconst 3, 1) := by decide +kernel
theorem dX5_minute_59 : decode cX5_minute 59 = .ok (.iload_n 2, 1) := by decide +kernel
theorem dX5_minute_60 : decode cX5_minute 60 = .ok (.imul, 1) := by decide +kernel
theorem dX5_minute_61 : decode cX5_minute 61 = .ok (.iconst 2, 1) := by decide +kernel
theorem dX5_minute_62 : decode cX5_minute 62 = .ok (.iadd, 1) := by decide +kernel
theorem dX5_minute_63 : decode cX5_minute 63 = .ok (.aload_n 0, 1) := by decide +kernel
theorem dX5_minute_64 : decode cX5_minute 64 = .ok (.getfield 19, 3) := by decide +kernel
theorem dX5_minute_67 : decode cX5_minute 67 = .ok (.iload_n 2, 1) := by decide +kernel
theorem dX5_minute_68 : decode cX5_minute 68 = .ok (.iaload, 1) := by decide +kernel
theorem dX5_minute_69 : decode cX5_minute 69 = .ok (.iastore, 1) := by decide +kernel
theorem dX5_minute_70 : decode cX5_minute 70 = .ok (.iinc 2 1, 3) := by decide +kernel
theorem dX5_minute_73 : decode cX5_minute 73 = .ok (.goto (-27), 3) := by decide +kernel
theorem dX5_minute_76 : decode cX5_minute 76 = .ok (.iconst 0, 1) := by decide +kernel
theorem dX5_minute_77 : decode cX5_minute 77 = .ok (.istore_n 2, 1) := by decide +kernel
theorem dX5_minute_78 : decode cX5_minute 78 = .ok (.iload_n 2, 1) := by decide +kernel
theorem dX5_minute_79 : decode cX5_minute 79 = .ok (.aload_n 0, 1) := by decide +kernel
theorem dX5_minute_80 : decode cX5_minute 80 = .ok (.getfield 73, 3) := by decide +kernel
theorem dX5_minute_83 : decode cX5_minute 83 = .ok (.if_icmp .ge 61, 3) := by decide +kernel
theorem dX5_minute_86 : decode cX5_minute 86 = .ok (.aload_n 0, 1) := by decide +kernel
theorem dX5_minute_87 : decode cX5_minute 87 = .ok (.getfield 16, 3) := by decide +kernel
theorem dX5_minute_90 : decode cX5_minute 90 = .ok (.iconst 3, 1) := by decide +kernel
theorem dX5_minute_91 : decode cX5_minute 91 = .ok (.iload_n 2, 1) := by decide +kernel
theorem dX5_minute_92 : decode cX5_minute 92 = .ok (.imul, 1) := by decide +kernel
theorem dX5_minute_93 : decode cX5_minute 93 = .ok (.iconst 1, 1) := by decide +kernel
theorem dX5_minute_94 : decode cX5_minute 94 = .ok (.iadd, 1) := by decide +kernel
theorem dX5_minute_95 : decode cX5_minute 95 = .ok (.dup2, 1) := by decide +kernel
theorem dX5_minute_96 : decode cX5_minute 96 = .ok (.iaload, 1) := by decide +kernel
theorem dX5_minute_97 : decode cX5_minute 97 = .ok (.iload_n 1, 1) := by decide +kernel
theorem dX5_minute_98 : decode cX5_minute 98 = .ok (.iload_n 2, 1) := by decide +kernel
theorem dX5_minute_99 : decode cX5_minute 99 = .ok (.ishr, 1) := by decide +kernel
theorem dX5_minute_100 : decode cX5_minute 100 = .ok (.iconst 1, 1) := by decide +kernel
theorem dX5_minute_101 : decode cX5_minute 101 = .ok (.iand, 1) := by decide +kernel
theorem dX5_minute_102 : decode cX5_minute 102 = .ok (.iadd, 1) := by decide +kernel
theorem dX5_minute_103 : decode cX5_minute 103 = .ok (.iastore, 1) := by decide +kernel
theorem dX5_minute_104 : decode cX5_minute 104 = .ok (.aload_n 0, 1) := by decide +kernel
theorem dX5_minute_105 : decode cX5_minute 105 = .ok (.getfield 16, 3) := by decide +kernel
theorem dX5_minute_108 : decode cX5_minute 108 = .ok (.iconst 3, 1) := by decide +kernel
theorem dX5_minute_109 : decode cX5_minute 109 = .ok (.iload_n 2, 1) := by decide +kernel
theorem dX5_minute_110 : decode cX5_minute 110 = .ok (.imul, 1) := by decide +kernel
theorem dX5_minute_111 : decode cX5_minute 111 = .ok (.iconst 2, 1) := by decide +kernel
theorem dX5_minute_112 : decode cX5_minute 112 = .ok (.iadd, 1) := by decide +kernel
theorem dX5_minute_113 : decode cX5_minute 113 = .ok (.dup2, 1) := by decide +kernel
theorem dX5_minute_114 : decode cX5_minute 114 = .ok (.iaload, 1) := by decide +kernel
theorem dX5_minute_115 : decode cX5_minute 115 = .ok (.aload_n 0, 1) := by decide +kernel
theorem dX5_minute_116 : decode cX5_minute 116 = .ok (.getfield 19, 3) := by decide +kernel
theorem dX5_minute_119 : decode cX5_minute 119 = .ok (.aload_n 0, 1) := by decide +kernel
theorem dX5_minute_120 : decode cX5_minute 120 = .ok (.getfield 16, 3) := by decide +kernel
theorem dX5_minute_123 : decode cX5_minute 123 = .ok (.iconst 3, 1) := by decide +kernel
theorem dX5_minute_124 : decode cX5_minute 124 = .ok (.iload_n 2, 1) := by decide +kernel
theorem dX5_minute_125 : decode cX5_minute 125 = .ok (.imul, 1) := by decide +kernel
theorem dX5_minute_126 : decode cX5_minute 126 = .ok (.iaload, 1) := by decide +kernel
theorem dX5_minute_127 : decode cX5_minute 127 = .ok (.iaload, 1) := by decide +kernel
theorem dX5_minute_128 : decode cX5_minute 128 = .ok (.ifCond .ne 7, 3) := by decide +kernel
theorem dX5_minute_131 : decode cX5_minute 131 = .ok (.iconst 1, 1) := by decide +kernel
theorem dX5_minute_132 : decode cX5_minute 132 = .ok (.goto 4, 3) := by decide +kernel
theorem dX5_minute_135 : decode cX5_minute 135 = .ok (.iconst 0, 1) := by decide +kernel
theorem dX5_minute_136 : decode cX5_minute 136 = .ok (.iadd, 1) := by decide +kernel
theorem dX5_minute_137 : decode cX5_minute 137 = .ok (.iastore, 1) := by decide +kernel
theorem dX5_minute_138 : decode cX5_minute 138 = .ok (.iinc 2 1, 3) := by decide +kernel
theorem dX5_minute_141 : decode cX5_minute 141 = .ok (.goto (-63), 3) := by decide +kernel
theorem dX5_minute_144 : decode cX5_minute 144 = .ok (.aload_n 0, 1) := by decide +kernel
theorem dX5_minute_145 : decode cX5_minute 145 = .ok (.dup, 1) := by decide +kernel
theorem dX5_minute_146 : decode cX5_minute 146 = .ok (.getfield 70, 3) := by decide +kernel
theorem dX5_minute_149 : decode cX5_minute 149 = .ok (.iconst 1, 1) := by decide +kernel
theorem dX5_minute_150 : decode cX5_minute 150 = .ok (.iadd, 1) := by decide +kernel
theorem dX5_minute_151 : decode cX5_minute 151 = .ok (.putfield 70, 3) := by decide +kernel
theorem dX5_minute_154 : decode cX5_minute 154 = .ok (.aload_n 0, 1) := by decide +kernel
theorem dX5_minute_155 : decode cX5_minute 155 = .ok (.invokevirtual 121, 3) := by decide +kernel
theorem dX5_minute_158 : decode cX5_minute 158 = .ok (.ireturn, 1) := by decide +kernel
set_option maxRecDepth 20000 in
theorem ggX5_layLeast_X5_asItIs : GoodIn wsX5_layLeast wsX5_asItIs := goodIn_r _ [7, 8, 9, 10, 31, 32, 33, 34, 35, 36, 37, 38, 39, 40, 41, 42, 43, 44, 45, 46, 47, 48, 49, 50, 51, 52, 53, 54] (by decide +kernel) (by decide +kernel)
set_option maxRecDepth 20000 in
theorem gX5_layLeast_X5_asItIs : GoodIn wsX5_layLeast (wsV RX5 111 RX5 yX5_asItIs wsX5_asItIs) := goodIn_app (goodIn_of _ (by decide +kernel)) ggX5_layLeast_X5_asItIs
set_option maxRecDepth 20000 in
theorem ggX5_layLeast_X5_ones : GoodIn wsX5_layLeast wsX5_ones := goodIn_r _ [13] (by decide +kernel) (by decide +kernel)
set_option maxRecDepth 20000 in
theorem gX5_layLeast_X5_ones : GoodIn wsX5_layLeast (va_wsS RX5 124 yX5_ones wsX5_ones) := goodIn_app (goodIn_of _ (by decide +kernel)) ggX5_layLeast_X5_ones
set_option maxRecDepth 20000 in
theorem ggX5_layLeast_X5_sectionsOf : GoodIn wsX5_layLeast wsX5_sectionsOf := goodIn_r _ [17, 1, 18, 31, 32, 33, 34, 35, 36, 37, 38, 39, 40, 41, 42, 43, 44, 45, 46, 47, 48, 49, 50, 51, 52, 53, 54] (by decide +kernel) (by decide +kernel)
set_option maxRecDepth 20000 in
theorem gX5_layLeast_X5_sectionsOf : GoodIn wsX5_layLeast (wsV RX5 114 RX5 yX5_sectionsOf wsX5_sectionsOf) := goodIn_app (goodIn_of _ (by decide +kernel)) ggX5_layLeast_X5_sectionsOf
set_option maxRecDepth 20000 in
theorem ggX5_layLeast_X5_goesBy : GoodIn wsX5_layLeast wsX5_goesBy := goodIn_r _ [22, 8, 9, 10, 23, 24, 25, 6, 26, 31, 32, 33, 34, 35, 36, 37, 38, 39, 40, 41, 42, 43, 44, 45, 46, 47, 48, 49, 50, 51, 52, 53, 54] (by decide +kernel) (by decide +kernel)
set_option maxRecDepth 20000 in
theorem gX5_layLeast_X5_goesBy : GoodIn wsX5_layLeast (wsV RX5 117 RX5 yX5_goesBy wsX5_goesBy) := goodIn_app (goodIn_of _ (by decide +kernel)) ggX5_layLeast_X5_goesBy
set_option maxRecDepth 20000 in
theorem ggX5_layLeast_X5_darkNow : GoodIn wsX5_layLeast wsX5_darkNow := goodIn_r _ [30, 1, 9, 18, 31, 32, 33, 34, 35, 36, 37, 38, 39, 40, 41, 42, 43, 44, 45, 46, 47, 48, 49, 50, 51, 52, 53, 54] (by decide +kernel) (by decide +kernel)
set_option maxRecDepth 20000 in
theorem gX5_layLeast_X5_darkNow : GoodIn wsX5_layLeast (wsV RX5 121 RX5 yX5_darkNow wsX5_darkNow) := goodIn_app (goodIn_of _ (by decide +kernel)) ggX5_layLeast_X5_darkNow
theorem dX5_layLeast_0 : decode cX5_layLeast 0 = .ok (.iconst 1, 1) := by decide +kernel
theorem dX5_layLeast_1 : decode cX5_layLeast 1 = .ok (.aload_n 0, 1) := by decide +kernel
theorem dX5_layLeast_2 : decode cX5_layLeast 2 = .ok (.getfield 73, 3) := by decide +kernel
theorem dX5_layLeast_5 : decode cX5_layLeast 5 = .ok (.ishl, 1) := by decide +kernel
theorem dX5_layLeast_6 : decode cX5_layLeast 6 = .ok (.istore_n 2, 1) := by decide +kernel
theorem dX5_layLeast_7 : decode cX5_layLeast 7 = .ok (.iconst 1, 1) := by decide +kernel
theorem dX5_layLeast_8 : decode cX5_layLeast 8 = .ok (.istore_n 3, 1) := by decide +kernel
theorem dX5_layLeast_9 : decode cX5_layLeast 9 = .ok (.iconst 0, 1) := by decide +kernel
theorem dX5_layLeast_10 : decode cX5_layLeast 10 = .ok (.istore 4, 2) := by decide +kernel
theorem dX5_layLeast_12 : decode cX5_layLeast 12 = .ok (.iload 4, 2) := by decide +kernel
theorem dX5_layLeast_14 : decode cX5_layLeast 14 = .ok (.iload_n 1, 1) := by decide +kernel
theorem dX5_layLeast_15 : decode cX5_layLeast 15 = .ok (.if_icmp .ge 13, 3) := by decide +kernel
theorem dX5_layLeast_18 : decode cX5_layLeast 18 = .ok (.iload_n 3, 1) := by decide +kernel
theorem dX5_layLeast_19 : decode cX5_layLeast 19 = .ok (.iload_n 2, 1) := by decide +kernel
theorem dX5_layLeast_20 : decode cX5_layLeast 20 = .ok (.imul, 1) := by decide +kernel
theorem dX5_layLeast_21 : decode cX5_layLeast 21 = .ok (.istore_n 3, 1) := by decide +kernel
theorem dX5_layLeast_22 : decode cX5_layLeast 22 = .ok (.iinc 4 1, 3) := by decide +kernel
theorem dX5_layLeast_25 : decode cX5_layLeast 25 = .ok (.goto (-13), 3) := by decide +kernel
theorem dX5_layLeast_28 : decode cX5_layLeast 28 = .ok (.iconst (-1), 1) := by decide +kernel
theorem dX5_layLeast_29 : decode cX5_layLeast 29 = .ok (.istore 4, 2) := by decide +kernel
theorem dX5_layLeast_31 : decode cX5_layLeast 31 = .ok (.iconst 0, 1) := by decide +kernel
theorem dX5_layLeast_32 : decode cX5_layLeast 32 = .ok (.istore 5, 2) := by decide +kernel
theorem dX5_layLeast_34 : decode cX5_layLeast 34 = .ok (.iload 5, 2) := by decide +kernel
theorem dX5_layLeast_36 : decode cX5_layLeast 36 = .ok (.iload_n 3, 1) := by decide +kernel
theorem dX5_layLeast_37 : decode cX5_layLeast 37 = .ok (.if_icmp .ge 119, 3) := by decide +kernel
theorem dX5_layLeast_40 : decode cX5_layLeast 40 = .ok (.iconst 0, 1) := by decide +kernel
theorem dX5_layLeast_41 : decode cX5_layLeast 41 = .ok (.istore 6, 2) := by decide +kernel
theorem dX5_layLeast_43 : decode cX5_layLeast 43 = .ok (.iconst 1, 1) := by decide +kernel
theorem dX5_layLeast_44 : decode cX5_layLeast 44 = .ok (.istore 7, 2) := by decide +kernel
theorem dX5_layLeast_46 : decode cX5_layLeast 46 = .ok (.aload_n 0, 1) := by decide +kernel
theorem dX5_layLeast_47 : decode cX5_layLeast 47 = .ok (.invokevirtual 111, 3) := by decide +kernel
theorem dX5_layLeast_50 : decode cX5_layLeast 50 = .ok (.iload_n 3, 1) := by decide +kernel
theorem dX5_layLeast_51 : decode cX5_layLeast 51 = .ok (.istore 8, 2) := by decide +kernel
theorem dX5_layLeast_53 : decode cX5_layLeast 53 = .ok (.iconst 0, 1) := by decide +kernel
theorem dX5_layLeast_54 : decode cX5_layLeast 54 = .ok (.istore 9, 2) := by decide +kernel
theorem dX5_layLeast_56 : decode cX5_layLeast 56 = .ok (.iload 9, 2) := by decide +kernel
theorem dX5_layLeast_58 : decode cX5_layLeast 58 = .ok (.iload_n 1, 1) := by decide +kernel
theorem dX5_layLeast_59 : decode cX5_layLeast 59 = .ok (.if_icmp .ge 63, 3) := by decide +kernel
theorem dX5_layLeast_62 : decode cX5_layLeast 62 = .ok (.iload 7, 2) := by decide +kernel
theorem dX5_layLeast_64 : decode cX5_layLeast 64 = .ok (.ifCond .eq 58, 3) := by decide +kernel
theorem dX5_layLeast_67 : decode cX5_layLeast 67 = .ok (.iload 8, 2) := by decide +kernel
theorem dX5_layLeast_69 : decode cX5_layLeast 69 = .ok (.iload_n 2, 1) := by decide +kernel
theorem dX5_layLeast_70 : decode cX5_layLeast 70 = .ok (.idiv, 1) := by decide +kernel
theorem dX5_layLeast_71 : decode cX5_layLeast 71 = .ok (.istore 8, 2) := by decide +kernel
theorem dX5_layLeast_73 : decode cX5_layLeast 73 = .ok (.iload 5, 2) := by decide +kernel
theorem dX5_layLeast_75 : decode cX5_layLeast 75 = .ok (.iload 8, 2) := by decide +kernel
theorem dX5_layLeast_77 : decode cX5_layLeast 77 = .ok (.idiv, 1) := by decide +kernel
theorem dX5_layLeast_78 : decode cX5_layLeast 78 = .ok (.iload_n 2, 1) := by decide +kernel
theorem dX5_layLeast_79 : decode cX5_layLeast 79 = .ok (.irem, 1) := by decide +kernel
theorem dX5_layLeast_80 : decode cX5_layLeast 80 = .ok (.istore 10, 2) := by decide +kernel
theorem dX5_layLeast_82 : decode cX5_layLeast 82 = .ok (.iload 6, 2) := by decide +kernel
theorem dX5_layLeast_84 : decode cX5_layLeast 84 = .ok (.iload 10, 2) := by decide +kernel
theorem dX5_layLeast_86 : decode cX5_layLeast 86 = .ok (.invokestatic 124, 3) := by decide +kernel
theorem dX5_layLeast_89 : decode cX5_layLeast 89 = .ok (.iadd, 1) := by decide +kernel
theorem dX5_layLeast_90 : decode cX5_layLeast 90 = .ok (.istore 6, 2) := by decide +kernel
theorem dX5_layLeast_92 : decode cX5_layLeast 92 = .ok (.aload_n 0, 1) := by decide +kernel
theorem dX5_layLeast_93 : decode cX5_layLeast 93 = .ok (.aload_n 0, 1) := by decide +kernel
theorem dX5_layLeast_94 : decode cX5_layLeast 94 = .ok (.iload 10, 2) := by decide +kernel
theorem dX5_layLeast_96 : decode cX5_layLeast 96 = .ok (.invokevirtual 114, 3) := by decide +kernel
theorem dX5_layLeast_99 : decode cX5_layLeast 99 = .ok (.invokevirtual 117, 3) := by decide +kernel
theorem dX5_layLeast_102 : decode cX5_layLeast 102 = .ok (.aload_n 0, 1) := by decide +kernel
theorem dX5_layLeast_103 : decode cX5_layLeast 103 = .ok (.invokevirtual 121, 3) := by decide +kernel
theorem dX5_layLeast_106 : decode cX5_layLeast 106 = .ok (.ifCond .ne 7, 3) := by decide +kernel
theorem dX5_layLeast_109 : decode cX5_layLeast 109 = .ok (.iconst 1, 1) := by decide +kernel
theorem dX5_layLeast_110 : decode cX5_layLeast 110 = .ok (.goto 4, 3) := by decide +kernel
theorem dX5_layLeast_113 : decode cX5_layLeast 113 = .ok (.iconst 0, 1) := by decide +kernel
theorem dX5_layLeast_114 : decode cX5_layLeast 114 = .ok (.istore 7, 2) := by decide +kernel
theorem dX5_layLeast_116 : decode cX5_layLeast 116 = .ok (.iinc 9 1, 3) := by decide +kernel
theorem dX5_layLeast_119 : decode cX5_layLeast 119 = .ok (.goto (-63), 3) := by decide +kernel
theorem dX5_layLeast_122 : decode cX5_layLeast 122 = .ok (.iload 7, 2) := by decide +kernel
theorem dX5_layLeast_124 : decode cX5_layLeast 124 = .ok (.ifCond .eq 26, 3) := by decide +kernel
theorem dX5_layLeast_127 : decode cX5_layLeast 127 = .ok (.iload 4, 2) := by decide +kernel
theorem dX5_layLeast_129 : decode cX5_layLeast 129 = .ok (.iconst (-1), 1) := by decide +kernel
theorem dX5_layLeast_130 : decode cX5_layLeast 130 = .ok (.if_icmp .eq 10, 3) := by decide +kernel
theorem dX5_layLeast_133 : decode cX5_layLeast 133 = .ok (.iload 6, 2) := by decide +kernel
theorem dX5_layLeast_135 : decode cX5_layLeast 135 = .ok (.iload 4, 2) := by decide +kernel
theorem dX5_layLeast_137 : decode cX5_layLeast 137 = .ok (.if_icmp .ge 13, 3) := by decide +kernel
theorem dX5_layLeast_140 : decode cX5_layLeast 140 = .ok (.iload 6, 2) := by decide +kernel
theorem dX5_layLeast_142 : decode cX5_layLeast 142 = .ok (.istore 4, 2) := by decide +kernel
theorem dX5_layLeast_144 : decode cX5_layLeast 144 = .ok (.aload_n 0, 1) := by decide +kernel
theorem dX5_layLeast_145 : decode cX5_layLeast 145 = .ok (.iload 5, 2) := by decide +kernel
theorem dX5_layLeast_147 : decode cX5_layLeast 147 = .ok (.putfield 127, 3) := by decide +kernel
theorem dX5_layLeast_150 : decode cX5_layLeast 150 = .ok (.iinc 5 1, 3) := by decide +kernel
theorem dX5_layLeast_153 : decode cX5_layLeast 153 = .ok (.goto (-119), 3) := by decide +kernel
theorem dX5_layLeast_156 : decode cX5_layLeast 156 = .ok (.iload 4, 2) := by decide +kernel
theorem dX5_layLeast_158 : decode cX5_layLeast 158 = .ok (.ireturn, 1) := by decide +kernel
set_option maxRecDepth 20000 in
theorem ggX5_leastOf_X5_layLeast : GoodIn wsX5_leastOf wsX5_layLeast := goodIn_r _ [7, 2, 1, 8, 9, 10, 6, 11, 12, 13, 14, 15, 16, 17, 18, 19, 20, 21, 22, 23, 24, 25, 26, 27, 28, 29, 30, 31, 32, 33, 34, 35, 36, 37, 38, 39, 40, 41, 42, 43, 44, 45, 46, 47, 48, 49, 50, 51, 52, 53, 54, 55, 56, 57, 58] (by decide +kernel) (by decide +kernel)
set_option maxRecDepth 20000 in
theorem gX5_leastOf_X5_layLeast : GoodIn wsX5_leastOf (wsV RX5 130 RX5 yX5_layLeast wsX5_layLeast) := goodIn_app (goodIn_of _ (by decide +kernel)) ggX5_leastOf_X5_layLeast
theorem dX5_leastOf_0 : decode cX5_leastOf 0 = .ok (.aload_n 0, 1) := by decide +kernel
theorem dX5_leastOf_1 : decode cX5_leastOf 1 = .ok (.iload_n 1, 1) := by decide +kernel
theorem dX5_leastOf_2 : decode cX5_leastOf 2 = .ok (.invokevirtual 130, 3) := by decide +kernel
theorem dX5_leastOf_5 : decode cX5_leastOf 5 = .ok (.istore_n 3, 1) := by decide +kernel
theorem dX5_leastOf_6 : decode cX5_leastOf 6 = .ok (.iload_n 2, 1) := by decide +kernel
theorem dX5_leastOf_7 : decode cX5_leastOf 7 = .ok (.ifCond .ne 5, 3) := by decide +kernel
theorem dX5_leastOf_10 : decode cX5_leastOf 10 = .ok (.iload_n 3, 1) := by decide +kernel
theorem dX5_leastOf_11 : decode cX5_leastOf 11 = .ok (.ireturn, 1) := by decide +kernel
theorem dX5_leastOf_12 : decode cX5_leastOf 12 = .ok (.iload_n 2, 1) := by decide +kernel
theorem dX5_leastOf_13 : decode cX5_leastOf 13 = .ok (.bipush 10, 2) := by decide +kernel
theorem dX5_leastOf_15 : decode cX5_leastOf 15 = .ok (.isub, 1) := by decide +kernel
theorem dX5_leastOf_16 : decode cX5_leastOf 16 = .ok (.istore 4, 2) := by decide +kernel
theorem dX5_leastOf_18 : decode cX5_leastOf 18 = .ok (.iload 4, 2) := by decide +kernel
theorem dX5_leastOf_20 : decode cX5_leastOf 20 = .ok (.iload_n 1, 1) := by decide +kernel
theorem dX5_leastOf_21 : decode cX5_leastOf 21 = .ok (.if_icmp .ge 31, 3) := by decide +kernel
theorem dX5_leastOf_24 : decode cX5_leastOf 24 = .ok (.aload_n 0, 1) := by decide +kernel
theorem dX5_leastOf_25 : decode cX5_leastOf 25 = .ok (.getfield 127, 3) := by decide +kernel
theorem dX5_leastOf_28 : decode cX5_leastOf 28 = .ok (.aload_n 0, 1) := by decide +kernel
theorem dX5_leastOf_29 : decode cX5_leastOf 29 = .ok (.getfield 73, 3) := by decide +kernel
theorem dX5_leastOf_32 : decode cX5_leastOf 32 = .ok (.iload_n 1, 1) := by decide +kernel
theorem dX5_leastOf_33 : decode cX5_leastOf 33 = .ok (.iconst 1, 1) := by decide +kernel
theorem dX5_leastOf_34 : decode cX5_leastOf 34 = .ok (.isub, 1) := by decide +kernel
theorem dX5_leastOf_35 : decode cX5_leastOf 35 = .ok (.iload 4, 2) := by decide +kernel
theorem dX5_leastOf_37 : decode cX5_leastOf 37 = .ok (.isub, 1) := by decide +kernel
theorem dX5_leastOf_38 : decode cX5_leastOf 38 = .ok (.imul, 1) := by decide +kernel
theorem dX5_leastOf_39 : decode cX5_leastOf 39 = .ok (.ishr, 1) := by decide +kernel
theorem dX5_leastOf_40 : decode cX5_leastOf 40 = .ok (.iconst 1, 1) := by decide +kernel
theorem dX5_leastOf_41 : decode cX5_leastOf 41 = .ok (.aload_n 0, 1) := by decide +kernel
theorem dX5_leastOf_42 : decode cX5_leastOf 42 = .ok (.getfield 73, 3) := by decide +kernel
theorem dX5_leastOf_45 : decode cX5_leastOf 45 = .ok (.ishl, 1) := by decide +kernel
theorem dX5_leastOf_46 : decode cX5_leastOf 46 = .ok (.iconst 1, 1) := by decide +kernel
theorem dX5_leastOf_47 : decode cX5_leastOf 47 = .ok (.isub, 1) := by decide +kernel
theorem dX5_leastOf_48 : decode cX5_leastOf 48 = .ok (.iand, 1) := by decide +kernel
theorem dX5_leastOf_49 : decode cX5_leastOf 49 = .ok (.goto 4, 3) := by decide +kernel
theorem dX5_leastOf_52 : decode cX5_leastOf 52 = .ok (.iconst (-1), 1) := by decide +kernel
theorem dX5_leastOf_53 : decode cX5_leastOf 53 = .ok (.ireturn, 1) := by decide +kernel
set_option maxRecDepth 20000 in
theorem ggX5_least_X5_in : GoodIn wsX5_least wsX5_in := goodIn_r _ [7] (by decide +kernel) (by decide +kernel)
set_option maxRecDepth 20000 in
theorem gX5_least_X5_in : GoodIn wsX5_least (va_wsS RX5 46 yX5_in wsX5_in) := goodIn_app (goodIn_of _ (by decide +kernel)) ggX5_least_X5_in
set_option maxRecDepth 20000 in
theorem ggX5_least_X5_lacks : GoodIn wsX5_least wsX5_lacks := goodIn_r _ [11, 12, 49, 50, 51, 52, 53, 54, 55, 56, 57, 58, 59, 60, 61, 62, 63, 64, 65, 66, 67, 68, 69, 70, 71, 72] (by decide +kernel) (by decide +kernel)
set_option maxRecDepth 20000 in
theorem gX5_least_X5_lacks : GoodIn wsX5_least (wsV RX5 107 RX5 yX5_lacks wsX5_lacks) := goodIn_app (goodIn_of _ (by decide +kernel)) ggX5_least_X5_lacks
set_option maxRecDepth 20000 in
theorem ggX5_least_X5_leastOf : GoodIn wsX5_least wsX5_leastOf := goodIn_r _ [16, 17, 18, 19, 20, 21, 6, 22, 23, 24, 25, 26, 12, 27, 28, 29, 30, 31, 32, 33, 34, 35, 36, 37, 38, 39, 40, 41, 42, 43, 44, 45, 46, 47, 48, 49, 50, 51, 52, 53, 54, 55, 56, 57, 58, 59, 60, 61, 62, 63, 64, 65, 66, 67, 68, 69, 70, 71, 72] (by decide +kernel) (by decide +kernel)
set_option maxRecDepth 20000 in
theorem gX5_least_X5_leastOf : GoodIn wsX5_least (wsV RX5 139 RX5 yX5_leastOf wsX5_leastOf) := goodIn_app (goodIn_of _ (by decide +kernel)) ggX5_least_X5_leastOf
theorem dX5_least_0 : decode cX5_least 0 = .ok (.iload_n 1, 1) := by decide +kernel
theorem dX5_least_1 : decode cX5_least 1 = .ok (.i2l, 1) := by decide +kernel
theorem dX5_least_2 : decode cX5_least 2 = .ok (.lconst 1, 1) := by decide +kernel
theorem dX5_least_3 : decode cX5_least 3 = .ok (.ldc2_w 133, 3) := by decide +kernel
theorem dX5_least_6 : decode cX5_least 6 = .ok (.invokestatic 46, 3) := by decide +kernel
theorem dX5_least_9 : decode cX5_least 9 = .ok (.ifCond .eq 21, 3) := by decide +kernel
theorem dX5_least_12 : decode cX5_least 12 = .ok (.iload_n 2, 1) := by decide +kernel
theorem dX5_least_13 : decode cX5_least 13 = .ok (.ifCond .eq 20, 3) := by decide +kernel
theorem dX5_least_16 : decode cX5_least 16 = .ok (.iload_n 2, 1) := by decide +kernel
theorem dX5_least_17 : decode cX5_least 17 = .ok (.i2l, 1) := by decide +kernel
theorem dX5_least_18 : decode cX5_least 18 = .ok (.ldc2_w 135, 3) := by decide +kernel
theorem dX5_least_21 : decode cX5_least 21 = .ok (.ldc2_w 137, 3) := by decide +kernel
theorem dX5_least_24 : decode cX5_least 24 = .ok (.invokestatic 46, 3) := by decide +kernel
theorem dX5_least_27 : decode cX5_least 27 = .ok (.ifCond .ne 6, 3) := by decide +kernel
theorem dX5_least_30 : decode cX5_least 30 = .ok (.bipush (-102), 2) := by decide +kernel
theorem dX5_least_32 : decode cX5_least 32 = .ok (.ireturn, 1) := by decide +kernel
theorem dX5_least_33 : decode cX5_least 33 = .ok (.aload_n 0, 1) := by decide +kernel
theorem dX5_least_34 : decode cX5_least 34 = .ok (.invokevirtual 107, 3) := by decide +kernel
theorem dX5_least_37 : decode cX5_least 37 = .ok (.ifCond .eq 8, 3) := by decide +kernel
theorem dX5_least_40 : decode cX5_least 40 = .ok (.bipush (-103), 2) := by decide +kernel
theorem dX5_least_42 : decode cX5_least 42 = .ok (.goto 9, 3) := by decide +kernel
theorem dX5_least_45 : decode cX5_least 45 = .ok (.aload_n 0, 1) := by decide +kernel
theorem dX5_least_46 : decode cX5_least 46 = .ok (.iload_n 1, 1) := by decide +kernel
theorem dX5_least_47 : decode cX5_least 47 = .ok (.iload_n 2, 1) := by decide +kernel
theorem dX5_least_48 : decode cX5_least 48 = .ok (.invokevirtual 139, 3) := by decide +kernel
theorem dX5_least_51 : decode cX5_least 51 = .ok (.ireturn, 1) := by decide +kernel
theorem dX5_areAllLit_0 : decode cX5_areAllLit 0 = .ok (.iconst 1, 1) := by decide +kernel
theorem dX5_areAllLit_1 : decode cX5_areAllLit 1 = .ok (.istore_n 1, 1) := by decide +kernel
theorem dX5_areAllLit_2 : decode cX5_areAllLit 2 = .ok (.iconst 0, 1) := by decide +kernel
theorem dX5_areAllLit_3 : decode cX5_areAllLit 3 = .ok (.istore_n 2, 1) := by decide +kernel
theorem dX5_areAllLit_4 : decode cX5_areAllLit 4 = .ok (.iload_n 2, 1) := by decide +kernel
theorem dX5_areAllLit_5 : decode cX5_areAllLit 5 = .ok (.aload_n 0, 1) := by decide +kernel
theorem dX5_areAllLit_6 : decode cX5_areAllLit 6 = .ok (.getfield 67, 3) := by decide +kernel
theorem dX5_areAllLit_9 : decode cX5_areAllLit 9 = .ok (.if_icmp .ge 28, 3) := by decide +kernel
theorem dX5_areAllLit_12 : decode cX5_areAllLit 12 = .ok (.iload_n 1, 1) := by decide +kernel
theorem dX5_areAllLit_13 : decode cX5_areAllLit 13 = .ok (.ifCond .eq 16, 3) := by decide +kernel
theorem dX5_areAllLit_16 : decode cX5_areAllLit 16 = .ok (.aload_n 0, 1) := by decide +kernel
theorem dX5_areAllLit_17 : decode cX5_areAllLit 17 = .ok (.getfield 19, 3) := by decide +kernel
theorem dX5_areAllLit_20 : decode cX5_areAllLit 20 = .ok (.iload_n 2, 1) := by decide +kernel
theorem dX5_areAllLit_21 : decode cX5_areAllLit 21 = .ok (.iaload, 1) := by decide +kernel
theorem dX5_areAllLit_22 : decode cX5_areAllLit 22 = .ok (.ifCond .le 7, 3) := by decide +kernel
theorem dX5_areAllLit_25 : decode cX5_areAllLit 25 = .ok (.iconst 1, 1) := by decide +kernel
theorem dX5_areAllLit_26 : decode cX5_areAllLit 26 = .ok (.goto 4, 3) := by decide +kernel
theorem dX5_areAllLit_29 : decode cX5_areAllLit 29 = .ok (.iconst 0, 1) := by decide +kernel
theorem dX5_areAllLit_30 : decode cX5_areAllLit 30 = .ok (.istore_n 1, 1) := by decide +kernel
theorem dX5_areAllLit_31 : decode cX5_areAllLit 31 = .ok (.iinc 2 1, 3) := by decide +kernel
theorem dX5_areAllLit_34 : decode cX5_areAllLit 34 = .ok (.goto (-30), 3) := by decide +kernel
theorem dX5_areAllLit_37 : decode cX5_areAllLit 37 = .ok (.iload_n 1, 1) := by decide +kernel
theorem dX5_areAllLit_38 : decode cX5_areAllLit 38 = .ok (.ireturn, 1) := by decide +kernel
set_option maxRecDepth 20000 in
theorem ggX5_isRound_X5_asItIs : GoodIn wsX5_isRound wsX5_asItIs := goodIn_r _ [6, 7, 8, 9, 29, 30, 31, 32, 33, 34, 35, 36, 37, 38, 39, 40, 41, 42, 43, 44, 45, 46, 47, 48, 49, 50, 51, 52] (by decide +kernel) (by decide +kernel)
set_option maxRecDepth 20000 in
theorem gX5_isRound_X5_asItIs : GoodIn wsX5_isRound (wsV RX5 111 RX5 yX5_asItIs wsX5_asItIs) := goodIn_app (goodIn_of _ (by decide +kernel)) ggX5_isRound_X5_asItIs
