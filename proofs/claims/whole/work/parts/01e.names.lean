set_option maxRecDepth 20000 in
theorem gX4_count_J6_bitCount_0f7a4 : GoodIn wsX4_count (va_wsS RX4 197 yJ6_bitCount_0f7a4 wsJ6_bitCount_0f7a4) := goodIn_app (goodIn_of _ (by decide +kernel)) ggX4_count_J6_bitCount_0f7a4
set_option maxRecDepth 20000 in
theorem ggX4_count_X0_inDark : GoodIn wsX4_count wsX0_inDark := goodIn_r _ [34, 35, 36, 55, 56, 57, 58, 59, 60, 61, 62, 63] (by decide +kernel) (by decide +kernel)
set_option maxRecDepth 20000 in
theorem gX4_count_X0_inDark : GoodIn wsX4_count (wsV RX4 147 RX0 yX0_inDark wsX0_inDark) := goodIn_app (goodIn_of _ (by decide +kernel)) ggX4_count_X0_inDark
set_option maxRecDepth 20000 in
theorem ggX4_count_X0_ofAll : GoodIn wsX4_count wsX0_ofAll := goodIn_r _ [40, 35, 55, 56, 57, 58, 59, 60, 61, 62, 63] (by decide +kernel) (by decide +kernel)
set_option maxRecDepth 20000 in
theorem gX4_count_X0_ofAll : GoodIn wsX4_count (wsV RX4 206 RX0 yX0_ofAll wsX0_ofAll) := goodIn_app (goodIn_of _ (by decide +kernel)) ggX4_count_X0_ofAll
theorem dX4_count_0 : decode cX4_count 0 = .ok (.iload_n 1, 1) := by decide +kernel
theorem dX4_count_1 : decode cX4_count 1 = .ok (.tableswitch 187 0 10 #[59, 67, 85, 93, 123, 131, 146, 161, 169, 177, 182], 59) := by decide +kernel
theorem dX4_count_60 : decode cX4_count 60 = .ok (.aload_n 0, 1) := by decide +kernel
theorem dX4_count_61 : decode cX4_count 61 = .ok (.getfield 19, 3) := by decide +kernel
theorem dX4_count_64 : decode cX4_count 64 = .ok (.getfield 77, 3) := by decide +kernel
theorem dX4_count_67 : decode cX4_count 67 = .ok (.ireturn, 1) := by decide +kernel
theorem dX4_count_68 : decode cX4_count 68 = .ok (.aload_n 0, 1) := by decide +kernel
theorem dX4_count_69 : decode cX4_count 69 = .ok (.getfield 19, 3) := by decide +kernel
theorem dX4_count_72 : decode cX4_count 72 = .ok (.aload_n 0, 1) := by decide +kernel
theorem dX4_count_73 : decode cX4_count 73 = .ok (.getfield 26, 3) := by decide +kernel
theorem dX4_count_76 : decode cX4_count 76 = .ok (.getfield 90, 3) := by decide +kernel
theorem dX4_count_79 : decode cX4_count 79 = .ok (.invokevirtual 140, 3) := by decide +kernel
theorem dX4_count_82 : decode cX4_count 82 = .ok (.invokestatic 197, 3) := by decide +kernel
theorem dX4_count_85 : decode cX4_count 85 = .ok (.ireturn, 1) := by decide +kernel
theorem dX4_count_86 : decode cX4_count 86 = .ok (.aload_n 0, 1) := by decide +kernel
theorem dX4_count_87 : decode cX4_count 87 = .ok (.getfield 26, 3) := by decide +kernel
theorem dX4_count_90 : decode cX4_count 90 = .ok (.getfield 125, 3) := by decide +kernel
theorem dX4_count_93 : decode cX4_count 93 = .ok (.ireturn, 1) := by decide +kernel
theorem dX4_count_94 : decode cX4_count 94 = .ok (.aload_n 0, 1) := by decide +kernel
theorem dX4_count_95 : decode cX4_count 95 = .ok (.getfield 26, 3) := by decide +kernel
theorem dX4_count_98 : decode cX4_count 98 = .ok (.getfield 125, 3) := by decide +kernel
theorem dX4_count_101 : decode cX4_count 101 = .ok (.aload_n 0, 1) := by decide +kernel
theorem dX4_count_102 : decode cX4_count 102 = .ok (.getfield 26, 3) := by decide +kernel
theorem dX4_count_105 : decode cX4_count 105 = .ok (.aload_n 0, 1) := by decide +kernel
theorem dX4_count_106 : decode cX4_count 106 = .ok (.getfield 19, 3) := by decide +kernel
theorem dX4_count_109 : decode cX4_count 109 = .ok (.aload_n 0, 1) := by decide +kernel
theorem dX4_count_110 : decode cX4_count 110 = .ok (.getfield 26, 3) := by decide +kernel
theorem dX4_count_113 : decode cX4_count 113 = .ok (.getfield 90, 3) := by decide +kernel
theorem dX4_count_116 : decode cX4_count 116 = .ok (.invokevirtual 140, 3) := by decide +kernel
theorem dX4_count_119 : decode cX4_count 119 = .ok (.invokevirtual 147, 3) := by decide +kernel
theorem dX4_count_122 : decode cX4_count 122 = .ok (.isub, 1) := by decide +kernel
theorem dX4_count_123 : decode cX4_count 123 = .ok (.ireturn, 1) := by decide +kernel
theorem dX4_count_124 : decode cX4_count 124 = .ok (.aload_n 0, 1) := by decide +kernel
theorem dX4_count_125 : decode cX4_count 125 = .ok (.getfield 26, 3) := by decide +kernel
theorem dX4_count_128 : decode cX4_count 128 = .ok (.getfield 137, 3) := by decide +kernel
theorem dX4_count_131 : decode cX4_count 131 = .ok (.ireturn, 1) := by decide +kernel
theorem dX4_count_132 : decode cX4_count 132 = .ok (.aload_n 0, 1) := by decide +kernel
theorem dX4_count_133 : decode cX4_count 133 = .ok (.getfield 26, 3) := by decide +kernel
theorem dX4_count_136 : decode cX4_count 136 = .ok (.aload_n 0, 1) := by decide +kernel
theorem dX4_count_137 : decode cX4_count 137 = .ok (.getfield 26, 3) := by decide +kernel
theorem dX4_count_140 : decode cX4_count 140 = .ok (.getfield 119, 3) := by decide +kernel
theorem dX4_count_143 : decode cX4_count 143 = .ok (.invokevirtual 206, 3) := by decide +kernel
theorem dX4_count_146 : decode cX4_count 146 = .ok (.ireturn, 1) := by decide +kernel
theorem dX4_count_147 : decode cX4_count 147 = .ok (.aload_n 0, 1) := by decide +kernel
theorem dX4_count_148 : decode cX4_count 148 = .ok (.getfield 26, 3) := by decide +kernel
theorem dX4_count_151 : decode cX4_count 151 = .ok (.aload_n 0, 1) := by decide +kernel
theorem dX4_count_152 : decode cX4_count 152 = .ok (.getfield 26, 3) := by decide +kernel
theorem dX4_count_155 : decode cX4_count 155 = .ok (.getfield 122, 3) := by decide +kernel
theorem dX4_count_158 : decode cX4_count 158 = .ok (.invokevirtual 206, 3) := by decide +kernel
theorem dX4_count_161 : decode cX4_count 161 = .ok (.ireturn, 1) := by decide +kernel
theorem dX4_count_162 : decode cX4_count 162 = .ok (.aload_n 0, 1) := by decide +kernel
theorem dX4_count_163 : decode cX4_count 163 = .ok (.getfield 26, 3) := by decide +kernel
theorem dX4_count_166 : decode cX4_count 166 = .ok (.getfield 173, 3) := by decide +kernel
theorem dX4_count_169 : decode cX4_count 169 = .ok (.ireturn, 1) := by decide +kernel
theorem dX4_count_170 : decode cX4_count 170 = .ok (.aload_n 0, 1) := by decide +kernel
theorem dX4_count_171 : decode cX4_count 171 = .ok (.getfield 10, 3) := by decide +kernel
theorem dX4_count_174 : decode cX4_count 174 = .ok (.getfield 51, 3) := by decide +kernel
theorem dX4_count_177 : decode cX4_count 177 = .ok (.ireturn, 1) := by decide +kernel
theorem dX4_count_178 : decode cX4_count 178 = .ok (.aload_n 0, 1) := by decide +kernel
theorem dX4_count_179 : decode cX4_count 179 = .ok (.getfield 74, 3) := by decide +kernel
theorem dX4_count_182 : decode cX4_count 182 = .ok (.ireturn, 1) := by decide +kernel
theorem dX4_count_183 : decode cX4_count 183 = .ok (.aload_n 0, 1) := by decide +kernel
theorem dX4_count_184 : decode cX4_count 184 = .ok (.getfield 160, 3) := by decide +kernel
theorem dX4_count_187 : decode cX4_count 187 = .ok (.ireturn, 1) := by decide +kernel
theorem dX4_count_188 : decode cX4_count 188 = .ok (.bipush (-102), 2) := by decide +kernel
theorem dX4_count_190 : decode cX4_count 190 = .ok (.ireturn, 1) := by decide +kernel
set_option maxRecDepth 20000 in
theorem ggX4_digest_X4_lamp : GoodIn wsX4_digest wsX4_lamp := goodIn_r _ [15, 2, 16, 17, 5, 18, 19, 20, 21, 22, 14, 23, 3, 24, 25, 26, 27, 28, 29, 30, 31, 32, 33, 34, 35, 36, 37, 38, 39, 40, 160, 161, 162, 163, 164, 165, 166, 167, 168, 169, 170, 171, 172, 173, 174, 175, 176, 177, 178, 179, 180, 181, 182] (by decide +kernel) (by decide +kernel)
set_option maxRecDepth 20000 in
theorem gX4_digest_X4_lamp : GoodIn wsX4_digest (wsV RX4 214 RX4 yX4_lamp wsX4_lamp) := goodIn_app (goodIn_of _ (by decide +kernel)) ggX4_digest_X4_lamp
set_option maxRecDepth 20000 in
theorem ggX4_digest_X4_digestPerson : GoodIn wsX4_digest wsX4_digestPerson := goodIn_r _ [44, 4, 45, 2, 5, 46, 47, 48, 49, 14, 50, 18, 51, 52, 53, 54, 55, 56, 6, 24, 25, 26, 27, 57, 58, 59, 60, 61, 62, 63, 64, 65, 66, 67, 68, 39, 69, 70, 71, 72, 31, 73, 74, 75, 76, 77, 78, 79, 80, 81, 82, 40, 83, 84, 85, 86, 87, 88, 89, 90, 91, 92, 93, 94, 95, 96, 97, 98, 99, 3, 100, 101, 102, 103, 104, 105, 106, 107, 108, 109, 110, 160, 161, 162, 163, 164, 165, 166, 167, 168, 169, 174, 175, 176, 177, 178, 179, 180, 181, 182, 185, 186, 170, 171, 172, 173] (by decide +kernel) (by decide +kernel)
set_option maxRecDepth 20000 in
theorem gX4_digest_X4_digestPerson : GoodIn wsX4_digest (wsV RX4 217 RX4 yX4_digestPerson wsX4_digestPerson) := goodIn_app (goodIn_of _ (by decide +kernel)) ggX4_digest_X4_digestPerson
set_option maxRecDepth 20000 in
theorem ggX4_digest_X4_hasOffice : GoodIn wsX4_digest wsX4_hasOffice := goodIn_r _ [114, 2, 3, 160, 161, 162, 163, 164, 165, 166, 167, 168, 169, 170, 171, 172, 173] (by decide +kernel) (by decide +kernel)
set_option maxRecDepth 20000 in
theorem gX4_digest_X4_hasOffice : GoodIn wsX4_digest (wsV RX4 128 RX4 yX4_hasOffice wsX4_hasOffice) := goodIn_app (goodIn_of _ (by decide +kernel)) ggX4_digest_X4_hasOffice
set_option maxRecDepth 20000 in
theorem ggX4_digest_X4_planWaving : GoodIn wsX4_digest wsX4_planWaving := goodIn_r _ [118, 5, 6, 2, 7, 18, 119, 120, 14, 121, 122, 123, 124, 125, 126, 127, 128, 129, 130, 131, 31, 132, 33, 34, 133, 80, 81, 26, 82, 39, 40, 83, 84, 85, 86, 87, 69, 25, 27, 134, 66, 67, 68, 135, 136, 137, 138, 160, 161, 162, 163, 164, 165, 166, 167, 168, 169, 174, 175, 176, 177, 178, 179, 180, 181, 182, 170, 171, 172, 173] (by decide +kernel) (by decide +kernel)
set_option maxRecDepth 20000 in
theorem gX4_digest_X4_planWaving : GoodIn wsX4_digest (wsV RX4 153 RX4 yX4_planWaving wsX4_planWaving) := goodIn_app (goodIn_of _ (by decide +kernel)) ggX4_digest_X4_planWaving
set_option maxRecDepth 20000 in
theorem ggX4_digest_X4_together : GoodIn wsX4_digest wsX4_together := goodIn_r _ [142, 2, 111, 112, 113, 14, 114, 3, 143, 144, 145, 26, 146, 39, 147, 36, 37, 38, 40, 35, 160, 161, 162, 163, 164, 165, 166, 167, 168, 169, 170, 171, 172, 173] (by decide +kernel) (by decide +kernel)
set_option maxRecDepth 20000 in
theorem gX4_digest_X4_together : GoodIn wsX4_digest (wsV RX4 221 RX4 yX4_together wsX4_together) := goodIn_app (goodIn_of _ (by decide +kernel)) ggX4_digest_X4_together
set_option maxRecDepth 20000 in
theorem ggX4_digest_X4_count : GoodIn wsX4_digest wsX4_count := goodIn_r _ [151, 2, 3, 5, 18, 6, 152, 51, 52, 153, 8, 9, 154, 155, 134, 66, 67, 26, 68, 39, 69, 25, 27, 122, 123, 124, 125, 126, 127, 128, 135, 136, 137, 31, 138, 33, 34, 156, 157, 158, 159, 160, 161, 162, 163, 164, 165, 166, 167, 168, 169, 170, 171, 172, 173, 174, 175, 176, 177, 178, 179, 180, 181, 182, 183, 184] (by decide +kernel) (by decide +kernel)
set_option maxRecDepth 20000 in
theorem gX4_digest_X4_count : GoodIn wsX4_digest (wsV RX4 227 RX4 yX4_count wsX4_count) := goodIn_app (goodIn_of _ (by decide +kernel)) ggX4_digest_X4_count
theorem dX4_digest_0 : decode cX4_digest 0 = .ok (.ldc2_w 210, 3) := by decide +kernel
theorem dX4_digest_3 : decode cX4_digest 3 = .ok (.lstore_n 1, 1) := by decide +kernel
theorem dX4_digest_4 : decode cX4_digest 4 = .ok (.iconst 0, 1) := by decide +kernel
theorem dX4_digest_5 : decode cX4_digest 5 = .ok (.istore_n 3, 1) := by decide +kernel
theorem dX4_digest_6 : decode cX4_digest 6 = .ok (.iload_n 3, 1) := by decide +kernel
theorem dX4_digest_7 : decode cX4_digest 7 = .ok (.aload_n 0, 1) := by decide +kernel
theorem dX4_digest_8 : decode cX4_digest 8 = .ok (.getfield 19, 3) := by decide +kernel
theorem dX4_digest_11 : decode cX4_digest 11 = .ok (.getfield 77, 3) := by decide +kernel
theorem dX4_digest_14 : decode cX4_digest 14 = .ok (.if_icmp .ge 39, 3) := by decide +kernel
theorem dX4_digest_17 : decode cX4_digest 17 = .ok (.iconst 0, 1) := by decide +kernel
theorem dX4_digest_18 : decode cX4_digest 18 = .ok (.istore 4, 2) := by decide +kernel
theorem dX4_digest_20 : decode cX4_digest 20 = .ok (.iload 4, 2) := by decide +kernel
theorem dX4_digest_22 : decode cX4_digest 22 = .ok (.iconst 5, 1) := by decide +kernel
theorem dX4_digest_23 : decode cX4_digest 23 = .ok (.if_icmp .gt 24, 3) := by decide +kernel
theorem dX4_digest_26 : decode cX4_digest 26 = .ok (.ldc2_w 212, 3) := by decide +kernel
theorem dX4_digest_29 : decode cX4_digest 29 = .ok (.lload_n 1, 1) := by decide +kernel
theorem dX4_digest_30 : decode cX4_digest 30 = .ok (.lmul, 1) := by decide +kernel
theorem dX4_digest_31 : decode cX4_digest 31 = .ok (.aload_n 0, 1) := by decide +kernel
theorem dX4_digest_32 : decode cX4_digest 32 = .ok (.iload_n 3, 1) := by decide +kernel
theorem dX4_digest_33 : decode cX4_digest 33 = .ok (.iload 4, 2) := by decide +kernel
theorem dX4_digest_35 : decode cX4_digest 35 = .ok (.invokevirtual 214, 3) := by decide +kernel
theorem dX4_digest_38 : decode cX4_digest 38 = .ok (.i2l, 1) := by decide +kernel
theorem dX4_digest_39 : decode cX4_digest 39 = .ok (.ladd, 1) := by decide +kernel
theorem dX4_digest_40 : decode cX4_digest 40 = .ok (.lstore_n 1, 1) := by decide +kernel
theorem dX4_digest_41 : decode cX4_digest 41 = .ok (.iinc 4 1, 3) := by decide +kernel
theorem dX4_digest_44 : decode cX4_digest 44 = .ok (.goto (-24), 3) := by decide +kernel
theorem dX4_digest_47 : decode cX4_digest 47 = .ok (.iinc 3 1, 3) := by decide +kernel
theorem dX4_digest_50 : decode cX4_digest 50 = .ok (.goto (-44), 3) := by decide +kernel
theorem dX4_digest_53 : decode cX4_digest 53 = .ok (.iconst 0, 1) := by decide +kernel
theorem dX4_digest_54 : decode cX4_digest 54 = .ok (.istore_n 3, 1) := by decide +kernel
theorem dX4_digest_55 : decode cX4_digest 55 = .ok (.iload_n 3, 1) := by decide +kernel
theorem dX4_digest_56 : decode cX4_digest 56 = .ok (.aload_n 0, 1) := by decide +kernel
theorem dX4_digest_57 : decode cX4_digest 57 = .ok (.getfield 26, 3) := by decide +kernel
theorem dX4_digest_60 : decode cX4_digest 60 = .ok (.getfield 125, 3) := by decide +kernel
theorem dX4_digest_63 : decode cX4_digest 63 = .ok (.if_icmp .ge 16, 3) := by decide +kernel
theorem dX4_digest_66 : decode cX4_digest 66 = .ok (.aload_n 0, 1) := by decide +kernel
theorem dX4_digest_67 : decode cX4_digest 67 = .ok (.lload_n 1, 1) := by decide +kernel
theorem dX4_digest_68 : decode cX4_digest 68 = .ok (.iload_n 3, 1) := by decide +kernel
theorem dX4_digest_69 : decode cX4_digest 69 = .ok (.invokevirtual 217, 3) := by decide +kernel
theorem dX4_digest_72 : decode cX4_digest 72 = .ok (.lstore_n 1, 1) := by decide +kernel
theorem dX4_digest_73 : decode cX4_digest 73 = .ok (.iinc 3 1, 3) := by decide +kernel
theorem dX4_digest_76 : decode cX4_digest 76 = .ok (.goto (-21), 3) := by decide +kernel
theorem dX4_digest_79 : decode cX4_digest 79 = .ok (.aload_n 0, 1) := by decide +kernel
theorem dX4_digest_80 : decode cX4_digest 80 = .ok (.invokevirtual 128, 3) := by decide +kernel
theorem dX4_digest_83 : decode cX4_digest 83 = .ok (.ifCond .eq 70, 3) := by decide +kernel
theorem dX4_digest_86 : decode cX4_digest 86 = .ok (.ldc2_w 212, 3) := by decide +kernel
theorem dX4_digest_89 : decode cX4_digest 89 = .ok (.lload_n 1, 1) := by decide +kernel
theorem dX4_digest_90 : decode cX4_digest 90 = .ok (.lmul, 1) := by decide +kernel
theorem dX4_digest_91 : decode cX4_digest 91 = .ok (.aload_n 0, 1) := by decide +kernel
theorem dX4_digest_92 : decode cX4_digest 92 = .ok (.iconst 2, 1) := by decide +kernel
theorem dX4_digest_93 : decode cX4_digest 93 = .ok (.invokevirtual 153, 3) := by decide +kernel
theorem dX4_digest_96 : decode cX4_digest 96 = .ok (.i2l, 1) := by decide +kernel
theorem dX4_digest_97 : decode cX4_digest 97 = .ok (.ladd, 1) := by decide +kernel
theorem dX4_digest_98 : decode cX4_digest 98 = .ok (.lstore_n 1, 1) := by decide +kernel
theorem dX4_digest_99 : decode cX4_digest 99 = .ok (.ldc2_w 212, 3) := by decide +kernel
theorem dX4_digest_102 : decode cX4_digest 102 = .ok (.lload_n 1, 1) := by decide +kernel
theorem dX4_digest_103 : decode cX4_digest 103 = .ok (.lmul, 1) := by decide +kernel
theorem dX4_digest_104 : decode cX4_digest 104 = .ok (.aload_n 0, 1) := by decide +kernel
theorem dX4_digest_105 : decode cX4_digest 105 = .ok (.getfield 40, 3) := by decide +kernel
theorem dX4_digest_108 : decode cX4_digest 108 = .ok (.iconst 0, 1) := by decide +kernel
theorem dX4_digest_109 : decode cX4_digest 109 = .ok (.iaload, 1) := by decide +kernel
theorem dX4_digest_110 : decode cX4_digest 110 = .ok (.i2l, 1) := by decide +kernel
theorem dX4_digest_111 : decode cX4_digest 111 = .ok (.ladd, 1) := by decide +kernel
theorem dX4_digest_112 : decode cX4_digest 112 = .ok (.lstore_n 1, 1) := by decide +kernel
theorem dX4_digest_113 : decode cX4_digest 113 = .ok (.ldc2_w 212, 3) := by decide +kernel
theorem dX4_digest_116 : decode cX4_digest 116 = .ok (.lload_n 1, 1) := by decide +kernel
theorem dX4_digest_117 : decode cX4_digest 117 = .ok (.lmul, 1) := by decide +kernel
theorem dX4_digest_118 : decode cX4_digest 118 = .ok (.aload_n 0, 1) := by decide +kernel
theorem dX4_digest_119 : decode cX4_digest 119 = .ok (.getfield 40, 3) := by decide +kernel
theorem dX4_digest_122 : decode cX4_digest 122 = .ok (.iconst 1, 1) := by decide +kernel
theorem dX4_digest_123 : decode cX4_digest 123 = .ok (.iaload, 1) := by decide +kernel
theorem dX4_digest_124 : decode cX4_digest 124 = .ok (.i2l, 1) := by decide +kernel
theorem dX4_digest_125 : decode cX4_digest 125 = .ok (.ladd, 1) := by decide +kernel
theorem dX4_digest_126 : decode cX4_digest 126 = .ok (.lstore_n 1, 1) := by decide +kernel
theorem dX4_digest_127 : decode cX4_digest 127 = .ok (.ldc2_w 212, 3) := by decide +kernel
theorem dX4_digest_130 : decode cX4_digest 130 = .ok (.lload_n 1, 1) := by decide +kernel
theorem dX4_digest_131 : decode cX4_digest 131 = .ok (.lmul, 1) := by decide +kernel
theorem dX4_digest_132 : decode cX4_digest 132 = .ok (.aload_n 0, 1) := by decide +kernel
theorem dX4_digest_133 : decode cX4_digest 133 = .ok (.iconst 0, 1) := by decide +kernel
theorem dX4_digest_134 : decode cX4_digest 134 = .ok (.invokevirtual 221, 3) := by decide +kernel
theorem dX4_digest_137 : decode cX4_digest 137 = .ok (.i2l, 1) := by decide +kernel
theorem dX4_digest_138 : decode cX4_digest 138 = .ok (.ladd, 1) := by decide +kernel
theorem dX4_digest_139 : decode cX4_digest 139 = .ok (.lstore_n 1, 1) := by decide +kernel
theorem dX4_digest_140 : decode cX4_digest 140 = .ok (.ldc2_w 212, 3) := by decide +kernel
theorem dX4_digest_143 : decode cX4_digest 143 = .ok (.lload_n 1, 1) := by decide +kernel
theorem dX4_digest_144 : decode cX4_digest 144 = .ok (.lmul, 1) := by decide +kernel
theorem dX4_digest_145 : decode cX4_digest 145 = .ok (.aload_n 0, 1) := by decide +kernel
theorem dX4_digest_146 : decode cX4_digest 146 = .ok (.iconst 1, 1) := by decide +kernel
theorem dX4_digest_147 : decode cX4_digest 147 = .ok (.invokevirtual 221, 3) := by decide +kernel
theorem dX4_digest_150 : decode cX4_digest 150 = .ok (.i2l, 1) := by decide +kernel
theorem dX4_digest_151 : decode cX4_digest 151 = .ok (.ladd, 1) := by decide +kernel
theorem dX4_digest_152 : decode cX4_digest 152 = .ok (.lstore_n 1, 1) := by decide +kernel
theorem dX4_digest_153 : decode cX4_digest 153 = .ok (.iconst 0, 1) := by decide +kernel
theorem dX4_digest_154 : decode cX4_digest 154 = .ok (.istore_n 3, 1) := by decide +kernel
theorem dX4_digest_155 : decode cX4_digest 155 = .ok (.iload_n 3, 1) := by decide +kernel
theorem dX4_digest_156 : decode cX4_digest 156 = .ok (.aload_n 0, 1) := by decide +kernel
theorem dX4_digest_157 : decode cX4_digest 157 = .ok (.getfield 10, 3) := by decide +kernel
theorem dX4_digest_160 : decode cX4_digest 160 = .ok (.getfield 51, 3) := by decide +kernel
theorem dX4_digest_163 : decode cX4_digest 163 = .ok (.if_icmp .ge 26, 3) := by decide +kernel
theorem dX4_digest_166 : decode cX4_digest 166 = .ok (.ldc2_w 212, 3) := by decide +kernel
theorem dX4_digest_169 : decode cX4_digest 169 = .ok (.lload_n 1, 1) := by decide +kernel
theorem dX4_digest_170 : decode cX4_digest 170 = .ok (.lmul, 1) := by decide +kernel
theorem dX4_digest_171 : decode cX4_digest 171 = .ok (.aload_n 0, 1) := by decide +kernel
theorem dX4_digest_172 : decode cX4_digest 172 = .ok (.getfield 10, 3) := by decide +kernel
theorem dX4_digest_175 : decode cX4_digest 175 = .ok (.getfield 224, 3) := by decide +kernel
theorem dX4_digest_178 : decode cX4_digest 178 = .ok (.iload_n 3, 1) := by decide +kernel
theorem dX4_digest_179 : decode cX4_digest 179 = .ok (.iaload, 1) := by decide +kernel
theorem dX4_digest_180 : decode cX4_digest 180 = .ok (.i2l, 1) := by decide +kernel
theorem dX4_digest_181 : decode cX4_digest 181 = .ok (.ladd, 1) := by decide +kernel
theorem dX4_digest_182 : decode cX4_digest 182 = .ok (.lstore_n 1, 1) := by decide +kernel
theorem dX4_digest_183 : decode cX4_digest 183 = .ok (.iinc 3 1, 3) := by decide +kernel
theorem dX4_digest_186 : decode cX4_digest 186 = .ok (.goto (-31), 3) := by decide +kernel
theorem dX4_digest_189 : decode cX4_digest 189 = .ok (.iconst 0, 1) := by decide +kernel
theorem dX4_digest_190 : decode cX4_digest 190 = .ok (.istore_n 3, 1) := by decide +kernel
theorem dX4_digest_191 : decode cX4_digest 191 = .ok (.iload_n 3, 1) := by decide +kernel
theorem dX4_digest_192 : decode cX4_digest 192 = .ok (.bipush 10, 2) := by decide +kernel
theorem dX4_digest_194 : decode cX4_digest 194 = .ok (.if_icmp .gt 22, 3) := by decide +kernel
theorem dX4_digest_197 : decode cX4_digest 197 = .ok (.ldc2_w 212, 3) := by decide +kernel
theorem dX4_digest_200 : decode cX4_digest 200 = .ok (.lload_n 1, 1) := by decide +kernel
theorem dX4_digest_201 : decode cX4_digest 201 = .ok (.lmul, 1) := by decide +kernel
theorem dX4_digest_202 : decode cX4_digest 202 = .ok (.aload_n 0, 1) := by decide +kernel
theorem dX4_digest_203 : decode cX4_digest 203 = .ok (.iload_n 3, 1) := by decide +kernel
theorem dX4_digest_204 : decode cX4_digest 204 = .ok (.invokevirtual 227, 3) := by decide +kernel
theorem dX4_digest_207 : decode cX4_digest 207 = .ok (.i2l, 1) := by decide +kernel
theorem dX4_digest_208 : decode cX4_digest 208 = .ok (.ladd, 1) := by decide +kernel
theorem dX4_digest_209 : decode cX4_digest 209 = .ok (.lstore_n 1, 1) := by decide +kernel
theorem dX4_digest_210 : decode cX4_digest 210 = .ok (.iinc 3 1, 3) := by decide +kernel
theorem dX4_digest_213 : decode cX4_digest 213 = .ok (.goto (-22), 3) := by decide +kernel
theorem dX4_digest_216 : decode cX4_digest 216 = .ok (.lload_n 1, 1) := by decide +kernel
theorem dX4_digest_217 : decode cX4_digest 217 = .ok (.lreturn, 1) := by decide +kernel
set_option maxRecDepth 20000 in
theorem ggX4_digestPerson_X4_about : GoodIn wsX4_digestPerson wsX4_about := goodIn_r _ [10, 4, 5, 11, 12, 13, 14, 15, 16, 9, 17, 18, 19, 20, 21, 22, 81, 82, 83, 84, 85, 86, 87, 88, 89, 90, 91, 92, 93, 94, 95, 96, 97, 98, 99] (by decide +kernel) (by decide +kernel)
set_option maxRecDepth 20000 in
theorem gX4_digestPerson_X4_about : GoodIn wsX4_digestPerson (wsV RX4 230 RX4 yX4_about wsX4_about) := goodIn_app (goodIn_of _ (by decide +kernel)) ggX4_digestPerson_X4_about
set_option maxRecDepth 20000 in
theorem ggX4_digestPerson_X3_follow : GoodIn wsX4_digestPerson wsX3_follow := goodIn_r _ [27, 28, 29, 30, 31, 32, 33, 21, 34, 35, 36, 20, 22, 37, 38, 39, 40, 41, 42, 43, 44, 45, 26, 46, 47, 48, 49, 50, 51, 52, 53, 54, 55, 56, 100, 101, 91, 92, 93, 94, 95, 96, 97, 98, 99, 102, 103, 104, 105] (by decide +kernel) (by decide +kernel)
set_option maxRecDepth 20000 in
theorem gX4_digestPerson_X3_follow : GoodIn wsX4_digestPerson (wsV RX4 179 RX3 yX3_follow wsX3_follow) := goodIn_app (goodIn_of _ (by decide +kernel)) ggX4_digestPerson_X3_follow
set_option maxRecDepth 20000 in
theorem ggX4_digestPerson_X3_left : GoodIn wsX4_digestPerson wsX3_left := goodIn_r _ [60, 28, 29, 100, 101] (by decide +kernel) (by decide +kernel)
set_option maxRecDepth 20000 in
theorem gX4_digestPerson_X3_left : GoodIn wsX4_digestPerson (wsV RX4 183 RX3 yX3_left wsX3_left) := goodIn_app (goodIn_of _ (by decide +kernel)) ggX4_digestPerson_X3_left
set_option maxRecDepth 20000 in
theorem ggX4_digestPerson_X3_first : GoodIn wsX4_digestPerson wsX3_first := goodIn_r _ [64, 28, 29, 100, 101] (by decide +kernel) (by decide +kernel)
set_option maxRecDepth 20000 in
theorem gX4_digestPerson_X3_first : GoodIn wsX4_digestPerson (wsV RX4 185 RX3 yX3_first wsX3_first) := goodIn_app (goodIn_of _ (by decide +kernel)) ggX4_digestPerson_X3_first
set_option maxRecDepth 20000 in
theorem ggX4_digestPerson_X4_look : GoodIn wsX4_digestPerson wsX4_look := goodIn_r _ [68, 2, 3, 4, 5, 69, 14, 15, 16, 9, 17, 18, 23, 24, 25, 26, 27, 28, 29, 30, 31, 32, 33, 21, 34, 35, 36, 20, 22, 37, 38, 39, 40, 41, 42, 43, 44, 45, 46, 47, 48, 49, 50, 51, 52, 53, 54, 55, 56, 70, 71, 72, 73, 74, 75, 58, 59, 60, 76, 77, 78, 79, 80, 81, 82, 83, 84, 85, 86, 87, 88, 89, 90, 91, 92, 93, 94, 95, 96, 97, 98, 99, 102, 103, 104, 105, 100, 101] (by decide +kernel) (by decide +kernel)
set_option maxRecDepth 20000 in
theorem gX4_digestPerson_X4_look : GoodIn wsX4_digestPerson (wsV RX4 233 RX4 yX4_look wsX4_look) := goodIn_app (goodIn_of _ (by decide +kernel)) ggX4_digestPerson_X4_look
theorem dX4_digestPerson_0 : decode cX4_digestPerson 0 = .ok (.lload_n 1, 1) := by decide +kernel
theorem dX4_digestPerson_1 : decode cX4_digestPerson 1 = .ok (.lstore 4, 2) := by decide +kernel
theorem dX4_digestPerson_3 : decode cX4_digestPerson 3 = .ok (.iconst 0, 1) := by decide +kernel
theorem dX4_digestPerson_4 : decode cX4_digestPerson 4 = .ok (.istore 6, 2) := by decide +kernel
theorem dX4_digestPerson_6 : decode cX4_digestPerson 6 = .ok (.iload 6, 2) := by decide +kernel
theorem dX4_digestPerson_8 : decode cX4_digestPerson 8 = .ok (.iconst 3, 1) := by decide +kernel
theorem dX4_digestPerson_9 : decode cX4_digestPerson 9 = .ok (.if_icmp .gt 26, 3) := by decide +kernel
theorem dX4_digestPerson_12 : decode cX4_digestPerson 12 = .ok (.ldc2_w 212, 3) := by decide +kernel
theorem dX4_digestPerson_15 : decode cX4_digestPerson 15 = .ok (.lload 4, 2) := by decide +kernel
theorem dX4_digestPerson_17 : decode cX4_digestPerson 17 = .ok (.lmul, 1) := by decide +kernel
theorem dX4_digestPerson_18 : decode cX4_digestPerson 18 = .ok (.aload_n 0, 1) := by decide +kernel
theorem dX4_digestPerson_19 : decode cX4_digestPerson 19 = .ok (.iload_n 3, 1) := by decide +kernel
theorem dX4_digestPerson_20 : decode cX4_digestPerson 20 = .ok (.iload 6, 2) := by decide +kernel
theorem dX4_digestPerson_22 : decode cX4_digestPerson 22 = .ok (.invokevirtual 230, 3) := by decide +kernel
theorem dX4_digestPerson_25 : decode cX4_digestPerson 25 = .ok (.i2l, 1) := by decide +kernel
theorem dX4_digestPerson_26 : decode cX4_digestPerson 26 = .ok (.ladd, 1) := by decide +kernel
theorem dX4_digestPerson_27 : decode cX4_digestPerson 27 = .ok (.lstore 4, 2) := by decide +kernel
theorem dX4_digestPerson_29 : decode cX4_digestPerson 29 = .ok (.iinc 6 1, 3) := by decide +kernel
theorem dX4_digestPerson_32 : decode cX4_digestPerson 32 = .ok (.goto (-26), 3) := by decide +kernel
theorem dX4_digestPerson_35 : decode cX4_digestPerson 35 = .ok (.aload_n 0, 1) := by decide +kernel
theorem dX4_digestPerson_36 : decode cX4_digestPerson 36 = .ok (.getfield 36, 3) := by decide +kernel
theorem dX4_digestPerson_39 : decode cX4_digestPerson 39 = .ok (.aload_n 0, 1) := by decide +kernel
theorem dX4_digestPerson_40 : decode cX4_digestPerson 40 = .ok (.getfield 19, 3) := by decide +kernel
theorem dX4_digestPerson_43 : decode cX4_digestPerson 43 = .ok (.aload_n 0, 1) := by decide +kernel
theorem dX4_digestPerson_44 : decode cX4_digestPerson 44 = .ok (.getfield 26, 3) := by decide +kernel
theorem dX4_digestPerson_47 : decode cX4_digestPerson 47 = .ok (.aload_n 0, 1) := by decide +kernel
theorem dX4_digestPerson_48 : decode cX4_digestPerson 48 = .ok (.getfield 26, 3) := by decide +kernel
theorem dX4_digestPerson_51 : decode cX4_digestPerson 51 = .ok (.getfield 116, 3) := by decide +kernel
theorem dX4_digestPerson_54 : decode cX4_digestPerson 54 = .ok (.iload_n 3, 1) := by decide +kernel
theorem dX4_digestPerson_55 : decode cX4_digestPerson 55 = .ok (.iaload, 1) := by decide +kernel
theorem dX4_digestPerson_56 : decode cX4_digestPerson 56 = .ok (.iconst 4, 1) := by decide +kernel
theorem dX4_digestPerson_57 : decode cX4_digestPerson 57 = .ok (.invokevirtual 179, 3) := by decide +kernel
theorem dX4_digestPerson_60 : decode cX4_digestPerson 60 = .ok (.ldc2_w 212, 3) := by decide +kernel
theorem dX4_digestPerson_63 : decode cX4_digestPerson 63 = .ok (.lload 4, 2) := by decide +kernel
theorem dX4_digestPerson_65 : decode cX4_digestPerson 65 = .ok (.lmul, 1) := by decide +kernel
theorem dX4_digestPerson_66 : decode cX4_digestPerson 66 = .ok (.aload_n 0, 1) := by decide +kernel
theorem dX4_digestPerson_67 : decode cX4_digestPerson 67 = .ok (.getfield 36, 3) := by decide +kernel
theorem dX4_digestPerson_70 : decode cX4_digestPerson 70 = .ok (.invokevirtual 183, 3) := by decide +kernel
theorem dX4_digestPerson_73 : decode cX4_digestPerson 73 = .ok (.i2l, 1) := by decide +kernel
theorem dX4_digestPerson_74 : decode cX4_digestPerson 74 = .ok (.ladd, 1) := by decide +kernel
theorem dX4_digestPerson_75 : decode cX4_digestPerson 75 = .ok (.lstore 4, 2) := by decide +kernel
theorem dX4_digestPerson_77 : decode cX4_digestPerson 77 = .ok (.ldc2_w 212, 3) := by decide +kernel
theorem dX4_digestPerson_80 : decode cX4_digestPerson 80 = .ok (.lload 4, 2) := by decide +kernel
theorem dX4_digestPerson_82 : decode cX4_digestPerson 82 = .ok (.lmul, 1) := by decide +kernel
theorem dX4_digestPerson_83 : decode cX4_digestPerson 83 = .ok (.aload_n 0, 1) := by decide +kernel
theorem dX4_digestPerson_84 : decode cX4_digestPerson 84 = .ok (.getfield 36, 3) := by decide +kernel
theorem dX4_digestPerson_87 : decode cX4_digestPerson 87 = .ok (.invokevirtual 185, 3) := by decide +kernel
theorem dX4_digestPerson_90 : decode cX4_digestPerson 90 = .ok (.i2l, 1) := by decide +kernel
theorem dX4_digestPerson_91 : decode cX4_digestPerson 91 = .ok (.ladd, 1) := by decide +kernel
theorem dX4_digestPerson_92 : decode cX4_digestPerson 92 = .ok (.lstore 4, 2) := by decide +kernel
theorem dX4_digestPerson_94 : decode cX4_digestPerson 94 = .ok (.ldc2_w 212, 3) := by decide +kernel
theorem dX4_digestPerson_97 : decode cX4_digestPerson 97 = .ok (.lload 4, 2) := by decide +kernel
theorem dX4_digestPerson_99 : decode cX4_digestPerson 99 = .ok (.lmul, 1) := by decide +kernel
theorem dX4_digestPerson_100 : decode cX4_digestPerson 100 = .ok (.aload_n 0, 1) := by decide +kernel
theorem dX4_digestPerson_101 : decode cX4_digestPerson 101 = .ok (.iload_n 3, 1) := by decide +kernel
theorem dX4_digestPerson_102 : decode cX4_digestPerson 102 = .ok (.iconst 3, 1) := by decide +kernel
theorem dX4_digestPerson_103 : decode cX4_digestPerson 103 = .ok (.invokevirtual 233, 3) := by decide +kernel
theorem dX4_digestPerson_106 : decode cX4_digestPerson 106 = .ok (.i2l, 1) := by decide +kernel
theorem dX4_digestPerson_107 : decode cX4_digestPerson 107 = .ok (.ladd, 1) := by decide +kernel
theorem dX4_digestPerson_108 : decode cX4_digestPerson 108 = .ok (.lreturn, 1) := by decide +kernel
theorem dX4_hasOffice_0 : decode cX4_hasOffice 0 = .ok (.aload_n 0, 1) := by decide +kernel
theorem dX4_hasOffice_1 : decode cX4_hasOffice 1 = .ok (.getfield 19, 3) := by decide +kernel
theorem dX4_hasOffice_4 : decode cX4_hasOffice 4 = .ok (.getfield 77, 3) := by decide +kernel
theorem dX4_hasOffice_7 : decode cX4_hasOffice 7 = .ok (.ifCond .le 7, 3) := by decide +kernel
theorem dX4_hasOffice_10 : decode cX4_hasOffice 10 = .ok (.iconst 1, 1) := by decide +kernel
theorem dX4_hasOffice_11 : decode cX4_hasOffice 11 = .ok (.goto 4, 3) := by decide +kernel
theorem dX4_hasOffice_14 : decode cX4_hasOffice 14 = .ok (.iconst 0, 1) := by decide +kernel
theorem dX4_hasOffice_15 : decode cX4_hasOffice 15 = .ok (.ireturn, 1) := by decide +kernel
theorem dX4_isLamp_0 : decode cX4_isLamp 0 = .ok (.iload_n 1, 1) := by decide +kernel
theorem dX4_isLamp_1 : decode cX4_isLamp 1 = .ok (.ifCond .lt 18, 3) := by decide +kernel
theorem dX4_isLamp_4 : decode cX4_isLamp 4 = .ok (.iload_n 1, 1) := by decide +kernel
theorem dX4_isLamp_5 : decode cX4_isLamp 5 = .ok (.aload_n 0, 1) := by decide +kernel
theorem dX4_isLamp_6 : decode cX4_isLamp 6 = .ok (.getfield 19, 3) := by decide +kernel
theorem dX4_isLamp_9 : decode cX4_isLamp 9 = .ok (.getfield 77, 3) := by decide +kernel
theorem dX4_isLamp_12 : decode cX4_isLamp 12 = .ok (.if_icmp .ge 7, 3) := by decide +kernel
theorem dX4_isLamp_15 : decode cX4_isLamp 15 = .ok (.iconst 1, 1) := by decide +kernel
theorem dX4_isLamp_16 : decode cX4_isLamp 16 = .ok (.goto 4, 3) := by decide +kernel
theorem dX4_isLamp_19 : decode cX4_isLamp 19 = .ok (.iconst 0, 1) := by decide +kernel
theorem dX4_isLamp_20 : decode cX4_isLamp 20 = .ok (.ireturn, 1) := by decide +kernel
theorem dX4_isPerson_0 : decode cX4_isPerson 0 = .ok (.iload_n 1, 1) := by decide +kernel
theorem dX4_isPerson_1 : decode cX4_isPerson 1 = .ok (.ifCond .lt 18, 3) := by decide +kernel
theorem dX4_isPerson_4 : decode cX4_isPerson 4 = .ok (.iload_n 1, 1) := by decide +kernel
theorem dX4_isPerson_5 : decode cX4_isPerson 5 = .ok (.aload_n 0, 1) := by decide +kernel
theorem dX4_isPerson_6 : decode cX4_isPerson 6 = .ok (.getfield 26, 3) := by decide +kernel
theorem dX4_isPerson_9 : decode cX4_isPerson 9 = .ok (.getfield 125, 3) := by decide +kernel
theorem dX4_isPerson_12 : decode cX4_isPerson 12 = .ok (.if_icmp .ge 7, 3) := by decide +kernel
theorem dX4_isPerson_15 : decode cX4_isPerson 15 = .ok (.iconst 1, 1) := by decide +kernel
theorem dX4_isPerson_16 : decode cX4_isPerson 16 = .ok (.goto 4, 3) := by decide +kernel
theorem dX4_isPerson_19 : decode cX4_isPerson 19 = .ok (.iconst 0, 1) := by decide +kernel
theorem dX4_isPerson_20 : decode cX4_isPerson 20 = .ok (.ireturn, 1) := by decide +kernel
theorem dX4_asksMinute_0 : decode cX4_asksMinute 0 = .ok (.iload_n 0, 1) := by decide +kernel
theorem dX4_asksMinute_1 : decode cX4_asksMinute 1 = .ok (.bipush 10, 2) := by decide +kernel
theorem dX4_asksMinute_3 : decode cX4_asksMinute 3 = .ok (.if_icmp .lt 15, 3) := by decide +kernel
theorem dX4_asksMinute_6 : decode cX4_asksMinute 6 = .ok (.iload_n 0, 1) := by decide +kernel
theorem dX4_asksMinute_7 : decode cX4_asksMinute 7 = .ok (.bipush 10, 2) := by decide +kernel
theorem dX4_asksMinute_9 : decode cX4_asksMinute 9 = .ok (.iload_n 1, 1) := by decide +kernel
theorem dX4_asksMinute_10 : decode cX4_asksMinute 10 = .ok (.iadd, 1) := by decide +kernel
theorem dX4_asksMinute_11 : decode cX4_asksMinute 11 = .ok (.if_icmp .ge 7, 3) := by decide +kernel
theorem dX4_asksMinute_14 : decode cX4_asksMinute 14 = .ok (.iconst 1, 1) := by decide +kernel
theorem dX4_asksMinute_15 : decode cX4_asksMinute 15 = .ok (.goto 4, 3) := by decide +kernel
theorem dX4_asksMinute_18 : decode cX4_asksMinute 18 = .ok (.iconst 0, 1) := by decide +kernel
theorem dX4_asksMinute_19 : decode cX4_asksMinute 19 = .ok (.ireturn, 1) := by decide +kernel
theorem dX4_ofMinute_0 : decode cX4_ofMinute 0 = .ok (.iload_n 2, 1) := by decide +kernel
theorem dX4_ofMinute_1 : decode cX4_ofMinute 1 = .ok (.bipush 10, 2) := by decide +kernel
theorem dX4_ofMinute_3 : decode cX4_ofMinute 3 = .ok (.isub, 1) := by decide +kernel
theorem dX4_ofMinute_4 : decode cX4_ofMinute 4 = .ok (.istore_n 3, 1) := by decide +kernel
theorem dX4_ofMinute_5 : decode cX4_ofMinute 5 = .ok (.iload_n 3, 1) := by decide +kernel
theorem dX4_ofMinute_6 : decode cX4_ofMinute 6 = .ok (.ifCond .lt 20, 3) := by decide +kernel
theorem dX4_ofMinute_9 : decode cX4_ofMinute 9 = .ok (.iload_n 3, 1) := by decide +kernel
theorem dX4_ofMinute_10 : decode cX4_ofMinute 10 = .ok (.iload_n 1, 1) := by decide +kernel
theorem dX4_ofMinute_11 : decode cX4_ofMinute 11 = .ok (.if_icmp .ge 15, 3) := by decide +kernel
theorem dX4_ofMinute_14 : decode cX4_ofMinute 14 = .ok (.iload_n 3, 1) := by decide +kernel
theorem dX4_ofMinute_15 : decode cX4_ofMinute 15 = .ok (.aload_n 0, 1) := by decide +kernel
theorem dX4_ofMinute_16 : decode cX4_ofMinute 16 = .ok (.arraylength, 1) := by decide +kernel
theorem dX4_ofMinute_17 : decode cX4_ofMinute 17 = .ok (.if_icmp .ge 9, 3) := by decide +kernel
theorem dX4_ofMinute_20 : decode cX4_ofMinute 20 = .ok (.aload_n 0, 1) := by decide +kernel
theorem dX4_ofMinute_21 : decode cX4_ofMinute 21 = .ok (.iload_n 3, 1) := by decide +kernel
theorem dX4_ofMinute_22 : decode cX4_ofMinute 22 = .ok (.iaload, 1) := by decide +kernel
theorem dX4_ofMinute_23 : decode cX4_ofMinute 23 = .ok (.goto 4, 3) := by decide +kernel
theorem dX4_ofMinute_26 : decode cX4_ofMinute 26 = .ok (.iconst (-1), 1) := by decide +kernel
theorem dX4_ofMinute_27 : decode cX4_ofMinute 27 = .ok (.ireturn, 1) := by decide +kernel
theorem dX4_nextSeed_0 : decode cX4_nextSeed 0 = .ok (.ldc 236, 2) := by decide +kernel
theorem dX4_nextSeed_2 : decode cX4_nextSeed 2 = .ok (.iload_n 0, 1) := by decide +kernel
theorem dX4_nextSeed_3 : decode cX4_nextSeed 3 = .ok (.imul, 1) := by decide +kernel
theorem dX4_nextSeed_4 : decode cX4_nextSeed 4 = .ok (.sipush 12345, 3) := by decide +kernel
theorem dX4_nextSeed_7 : decode cX4_nextSeed 7 = .ok (.iadd, 1) := by decide +kernel
theorem dX4_nextSeed_8 : decode cX4_nextSeed 8 = .ok (.ldc 237, 2) := by decide +kernel
theorem dX4_nextSeed_10 : decode cX4_nextSeed 10 = .ok (.iand, 1) := by decide +kernel
theorem dX4_nextSeed_11 : decode cX4_nextSeed 11 = .ok (.ireturn, 1) := by decide +kernel
theorem dX4_draw_0 : decode cX4_draw 0 = .ok (.iload_n 0, 1) := by decide +kernel
theorem dX4_draw_1 : decode cX4_draw 1 = .ok (.ldc 238, 2) := by decide +kernel
theorem dX4_draw_3 : decode cX4_draw 3 = .ok (.idiv, 1) := by decide +kernel
theorem dX4_draw_4 : decode cX4_draw 4 = .ok (.bipush 6, 2) := by decide +kernel
theorem dX4_draw_6 : decode cX4_draw 6 = .ok (.irem, 1) := by decide +kernel
theorem dX4_draw_7 : decode cX4_draw 7 = .ok (.ireturn, 1) := by decide +kernel
set_option maxRecDepth 20000 in
theorem ggX4_planWaving_X4_keepsLit : GoodIn wsX4_planWaving wsX4_keepsLit := goodIn_r _ [9, 2, 10, 11, 12, 13, 14, 15, 16, 17, 18, 19, 20, 21, 22, 23, 24, 25, 26, 27, 28, 29, 30, 31, 32, 33, 34, 35, 36, 37, 38, 39, 40, 41, 42, 43, 44, 45, 46, 6, 7, 8, 57, 58, 59, 60, 61, 62, 63, 64, 65, 66, 67, 68, 69] (by decide +kernel) (by decide +kernel)
set_option maxRecDepth 20000 in
theorem gX4_planWaving_X4_keepsLit : GoodIn wsX4_planWaving (va_wsS RX4 239 yX4_keepsLit wsX4_keepsLit) := goodIn_app (goodIn_of _ (by decide +kernel)) ggX4_planWaving_X4_keepsLit
theorem dX4_planWaving_0 : decode cX4_planWaving 0 = .ok (.aload_n 0, 1) := by decide +kernel
theorem dX4_planWaving_1 : decode cX4_planWaving 1 = .ok (.getfield 26, 3) := by decide +kernel
theorem dX4_planWaving_4 : decode cX4_planWaving 4 = .ok (.getfield 125, 3) := by decide +kernel
theorem dX4_planWaving_7 : decode cX4_planWaving 7 = .ok (.iload_n 1, 1) := by decide +kernel
theorem dX4_planWaving_8 : decode cX4_planWaving 8 = .ok (.imul, 1) := by decide +kernel
theorem dX4_planWaving_9 : decode cX4_planWaving 9 = .ok (.istore_n 2, 1) := by decide +kernel
theorem dX4_planWaving_10 : decode cX4_planWaving 10 = .ok (.iconst 0, 1) := by decide +kernel
theorem dX4_planWaving_11 : decode cX4_planWaving 11 = .ok (.istore_n 3, 1) := by decide +kernel
theorem dX4_planWaving_12 : decode cX4_planWaving 12 = .ok (.iload_n 3, 1) := by decide +kernel
theorem dX4_planWaving_13 : decode cX4_planWaving 13 = .ok (.iload_n 2, 1) := by decide +kernel
theorem dX4_planWaving_14 : decode cX4_planWaving 14 = .ok (.if_icmp .gt 39, 3) := by decide +kernel
theorem dX4_planWaving_17 : decode cX4_planWaving 17 = .ok (.aload_n 0, 1) := by decide +kernel
theorem dX4_planWaving_18 : decode cX4_planWaving 18 = .ok (.getfield 19, 3) := by decide +kernel
theorem dX4_planWaving_21 : decode cX4_planWaving 21 = .ok (.aload_n 0, 1) := by decide +kernel
theorem dX4_planWaving_22 : decode cX4_planWaving 22 = .ok (.getfield 26, 3) := by decide +kernel
theorem dX4_planWaving_25 : decode cX4_planWaving 25 = .ok (.aload_n 0, 1) := by decide +kernel
theorem dX4_planWaving_26 : decode cX4_planWaving 26 = .ok (.getfield 40, 3) := by decide +kernel
theorem dX4_planWaving_29 : decode cX4_planWaving 29 = .ok (.iload_n 1, 1) := by decide +kernel
theorem dX4_planWaving_30 : decode cX4_planWaving 30 = .ok (.iconst 0, 1) := by decide +kernel
theorem dX4_planWaving_31 : decode cX4_planWaving 31 = .ok (.aload_n 0, 1) := by decide +kernel
theorem dX4_planWaving_32 : decode cX4_planWaving 32 = .ok (.getfield 26, 3) := by decide +kernel
theorem dX4_planWaving_35 : decode cX4_planWaving 35 = .ok (.getfield 90, 3) := by decide +kernel
theorem dX4_planWaving_38 : decode cX4_planWaving 38 = .ok (.iload_n 3, 1) := by decide +kernel
theorem dX4_planWaving_39 : decode cX4_planWaving 39 = .ok (.invokestatic 239, 3) := by decide +kernel
theorem dX4_planWaving_42 : decode cX4_planWaving 42 = .ok (.ifCond .eq 5, 3) := by decide +kernel
theorem dX4_planWaving_45 : decode cX4_planWaving 45 = .ok (.iload_n 3, 1) := by decide +kernel
theorem dX4_planWaving_46 : decode cX4_planWaving 46 = .ok (.ireturn, 1) := by decide +kernel
theorem dX4_planWaving_47 : decode cX4_planWaving 47 = .ok (.iinc 3 1, 3) := by decide +kernel
theorem dX4_planWaving_50 : decode cX4_planWaving 50 = .ok (.goto (-38), 3) := by decide +kernel
theorem dX4_planWaving_53 : decode cX4_planWaving 53 = .ok (.iconst (-1), 1) := by decide +kernel
theorem dX4_planWaving_54 : decode cX4_planWaving 54 = .ok (.ireturn, 1) := by decide +kernel
set_option maxRecDepth 20000 in
theorem ggX4_keepsLit_J6_bitCount_0f7a4 : GoodIn wsX4_keepsLit wsJ6_bitCount_0f7a4 := goodIn_r _ [5, 6, 7, 8] (by decide +kernel) (by decide +kernel)
set_option maxRecDepth 20000 in
theorem gX4_keepsLit_J6_bitCount_0f7a4 : GoodIn wsX4_keepsLit (va_wsS RX4 197 yJ6_bitCount_0f7a4 wsJ6_bitCount_0f7a4) := goodIn_app (goodIn_of _ (by decide +kernel)) ggX4_keepsLit_J6_bitCount_0f7a4
set_option maxRecDepth 20000 in
theorem ggX4_keepsLit_X0_stirred : GoodIn wsX4_keepsLit wsX0_stirred := goodIn_r _ [13, 14, 15, 42, 43, 44, 45, 46, 47, 48, 49, 50] (by decide +kernel) (by decide +kernel)
set_option maxRecDepth 20000 in
theorem gX4_keepsLit_X0_stirred : GoodIn wsX4_keepsLit (wsV RX4 131 RX0 yX0_stirred wsX0_stirred) := goodIn_app (goodIn_of _ (by decide +kernel)) ggX4_keepsLit_X0_stirred
set_option maxRecDepth 20000 in
theorem ggX4_keepsLit_X1_after : GoodIn wsX4_keepsLit wsX1_after := goodIn_r _ [20, 21, 22, 23, 24, 25, 26, 27, 28, 29, 19, 30, 51, 52, 53, 54] (by decide +kernel) (by decide +kernel)
set_option maxRecDepth 20000 in
theorem gX4_keepsLit_X1_after : GoodIn wsX4_keepsLit (wsV RX4 134 RX1 yX1_after wsX1_after) := goodIn_app (goodIn_of _ (by decide +kernel)) ggX4_keepsLit_X1_after
set_option maxRecDepth 20000 in
theorem ggX4_keepsLit_X1_litOnes : GoodIn wsX4_keepsLit wsX1_litOnes := goodIn_r _ [34, 21, 28, 29, 19, 30, 51, 52, 53, 54] (by decide +kernel) (by decide +kernel)
set_option maxRecDepth 20000 in
theorem gX4_keepsLit_X1_litOnes : GoodIn wsX4_keepsLit (wsV RX4 140 RX1 yX1_litOnes wsX1_litOnes) := goodIn_app (goodIn_of _ (by decide +kernel)) ggX4_keepsLit_X1_litOnes
set_option maxRecDepth 20000 in
theorem ggX4_keepsLit_X0_inDark : GoodIn wsX4_keepsLit wsX0_inDark := goodIn_r _ [38, 14, 15, 42, 43, 44, 45, 46, 47, 48, 49, 50] (by decide +kernel) (by decide +kernel)
set_option maxRecDepth 20000 in
theorem gX4_keepsLit_X0_inDark : GoodIn wsX4_keepsLit (wsV RX4 147 RX0 yX0_inDark wsX0_inDark) := goodIn_app (goodIn_of _ (by decide +kernel)) ggX4_keepsLit_X0_inDark
set_option maxRecDepth 20000 in
theorem ggX4_keepsLit_X4_keepsLit : GoodIn wsX4_keepsLit wsX4_keepsLit := goodIn_r _ [0, 1, 2, 3, 4, 5, 6, 7, 8, 9, 10, 11, 12, 13, 14, 15, 16, 17, 18, 19, 20, 21, 22, 23, 24, 25, 26, 27, 28, 29, 30, 31, 32, 33, 34, 35, 36, 37, 38, 39, 40, 41, 42, 43, 44, 45, 46, 47, 48, 49, 50, 51, 52, 53, 54] (by decide +kernel) (by decide +kernel)
set_option maxRecDepth 20000 in
theorem gX4_keepsLit_X4_keepsLit : GoodIn wsX4_keepsLit (va_wsS RX4 239 yX4_keepsLit wsX4_keepsLit) := goodIn_app (goodIn_of _ (by decide +kernel)) ggX4_keepsLit_X4_keepsLit
theorem dX4_keepsLit_0 : decode cX4_keepsLit 0 = .ok (.iload 4, 2) := by decide +kernel
theorem dX4_keepsLit_2 : decode cX4_keepsLit 2 = .ok (.iload_n 3, 1) := by decide +kernel
theorem dX4_keepsLit_3 : decode cX4_keepsLit 3 = .ok (.if_icmp .ge 10, 3) := by decide +kernel
theorem dX4_keepsLit_6 : decode cX4_keepsLit 6 = .ok (.iload 4, 2) := by decide +kernel
theorem dX4_keepsLit_8 : decode cX4_keepsLit 8 = .ok (.aload_n 2, 1) := by decide +kernel
theorem dX4_keepsLit_9 : decode cX4_keepsLit 9 = .ok (.arraylength, 1) := by decide +kernel
theorem dX4_keepsLit_10 : decode cX4_keepsLit 10 = .ok (.if_icmp .lt 5, 3) := by decide +kernel
theorem dX4_keepsLit_13 : decode cX4_keepsLit 13 = .ok (.iconst 1, 1) := by decide +kernel
theorem dX4_keepsLit_14 : decode cX4_keepsLit 14 = .ok (.ireturn, 1) := by decide +kernel
theorem dX4_keepsLit_15 : decode cX4_keepsLit 15 = .ok (.iconst 1, 1) := by decide +kernel
theorem dX4_keepsLit_16 : decode cX4_keepsLit 16 = .ok (.aload_n 1, 1) := by decide +kernel
theorem dX4_keepsLit_17 : decode cX4_keepsLit 17 = .ok (.getfield 125, 3) := by decide +kernel
theorem dX4_keepsLit_20 : decode cX4_keepsLit 20 = .ok (.ishl, 1) := by decide +kernel
theorem dX4_keepsLit_21 : decode cX4_keepsLit 21 = .ok (.istore 7, 2) := by decide +kernel
theorem dX4_keepsLit_23 : decode cX4_keepsLit 23 = .ok (.iconst 0, 1) := by decide +kernel
theorem dX4_keepsLit_24 : decode cX4_keepsLit 24 = .ok (.istore 8, 2) := by decide +kernel
theorem dX4_keepsLit_26 : decode cX4_keepsLit 26 = .ok (.iload 8, 2) := by decide +kernel
theorem dX4_keepsLit_28 : decode cX4_keepsLit 28 = .ok (.iload 7, 2) := by decide +kernel
theorem dX4_keepsLit_30 : decode cX4_keepsLit 30 = .ok (.if_icmp .ge 80, 3) := by decide +kernel
theorem dX4_keepsLit_33 : decode cX4_keepsLit 33 = .ok (.iload 6, 2) := by decide +kernel
theorem dX4_keepsLit_35 : decode cX4_keepsLit 35 = .ok (.iload 8, 2) := by decide +kernel
theorem dX4_keepsLit_37 : decode cX4_keepsLit 37 = .ok (.invokestatic 197, 3) := by decide +kernel
theorem dX4_keepsLit_40 : decode cX4_keepsLit 40 = .ok (.isub, 1) := by decide +kernel
theorem dX4_keepsLit_41 : decode cX4_keepsLit 41 = .ok (.istore 9, 2) := by decide +kernel
theorem dX4_keepsLit_43 : decode cX4_keepsLit 43 = .ok (.iload 9, 2) := by decide +kernel
theorem dX4_keepsLit_45 : decode cX4_keepsLit 45 = .ok (.ifCond .ge 6, 3) := by decide +kernel
theorem dX4_keepsLit_48 : decode cX4_keepsLit 48 = .ok (.goto 56, 3) := by decide +kernel
theorem dX4_keepsLit_51 : decode cX4_keepsLit 51 = .ok (.aload_n 0, 1) := by decide +kernel
theorem dX4_keepsLit_52 : decode cX4_keepsLit 52 = .ok (.iload 5, 2) := by decide +kernel
theorem dX4_keepsLit_54 : decode cX4_keepsLit 54 = .ok (.aload_n 1, 1) := by decide +kernel
theorem dX4_keepsLit_55 : decode cX4_keepsLit 55 = .ok (.iload 8, 2) := by decide +kernel
theorem dX4_keepsLit_57 : decode cX4_keepsLit 57 = .ok (.invokevirtual 131, 3) := by decide +kernel
theorem dX4_keepsLit_60 : decode cX4_keepsLit 60 = .ok (.invokevirtual 134, 3) := by decide +kernel
theorem dX4_keepsLit_63 : decode cX4_keepsLit 63 = .ok (.istore 10, 2) := by decide +kernel
theorem dX4_keepsLit_65 : decode cX4_keepsLit 65 = .ok (.aload_n 1, 1) := by decide +kernel
theorem dX4_keepsLit_66 : decode cX4_keepsLit 66 = .ok (.aload_n 0, 1) := by decide +kernel
theorem dX4_keepsLit_67 : decode cX4_keepsLit 67 = .ok (.iload 10, 2) := by decide +kernel
theorem dX4_keepsLit_69 : decode cX4_keepsLit 69 = .ok (.invokevirtual 140, 3) := by decide +kernel
theorem dX4_keepsLit_72 : decode cX4_keepsLit 72 = .ok (.invokevirtual 147, 3) := by decide +kernel
theorem dX4_keepsLit_75 : decode cX4_keepsLit 75 = .ok (.ifCond .ne 29, 3) := by decide +kernel
theorem dX4_keepsLit_78 : decode cX4_keepsLit 78 = .ok (.aload_n 0, 1) := by decide +kernel
theorem dX4_keepsLit_79 : decode cX4_keepsLit 79 = .ok (.aload_n 1, 1) := by decide +kernel
theorem dX4_keepsLit_80 : decode cX4_keepsLit 80 = .ok (.aload_n 2, 1) := by decide +kernel
theorem dX4_keepsLit_81 : decode cX4_keepsLit 81 = .ok (.iload_n 3, 1) := by decide +kernel
theorem dX4_keepsLit_82 : decode cX4_keepsLit 82 = .ok (.iload 4, 2) := by decide +kernel
theorem dX4_keepsLit_84 : decode cX4_keepsLit 84 = .ok (.iconst 1, 1) := by decide +kernel
theorem dX4_keepsLit_85 : decode cX4_keepsLit 85 = .ok (.iadd, 1) := by decide +kernel
theorem dX4_keepsLit_86 : decode cX4_keepsLit 86 = .ok (.iload 10, 2) := by decide +kernel
theorem dX4_keepsLit_88 : decode cX4_keepsLit 88 = .ok (.iload 9, 2) := by decide +kernel
theorem dX4_keepsLit_90 : decode cX4_keepsLit 90 = .ok (.invokestatic 239, 3) := by decide +kernel
theorem dX4_keepsLit_93 : decode cX4_keepsLit 93 = .ok (.ifCond .eq 11, 3) := by decide +kernel
theorem dX4_keepsLit_96 : decode cX4_keepsLit 96 = .ok (.aload_n 2, 1) := by decide +kernel
theorem dX4_keepsLit_97 : decode cX4_keepsLit 97 = .ok (.iload 4, 2) := by decide +kernel
theorem dX4_keepsLit_99 : decode cX4_keepsLit 99 = .ok (.iload 8, 2) := by decide +kernel
theorem dX4_keepsLit_101 : decode cX4_keepsLit 101 = .ok (.iastore, 1) := by decide +kernel
theorem dX4_keepsLit_102 : decode cX4_keepsLit 102 = .ok (.iconst 1, 1) := by decide +kernel
theorem dX4_keepsLit_103 : decode cX4_keepsLit 103 = .ok (.ireturn, 1) := by decide +kernel
theorem dX4_keepsLit_104 : decode cX4_keepsLit 104 = .ok (.iinc 8 1, 3) := by decide +kernel
theorem dX4_keepsLit_107 : decode cX4_keepsLit 107 = .ok (.goto (-81), 3) := by decide +kernel
theorem dX4_keepsLit_110 : decode cX4_keepsLit 110 = .ok (.iconst 0, 1) := by decide +kernel
theorem dX4_keepsLit_111 : decode cX4_keepsLit 111 = .ok (.ireturn, 1) := by decide +kernel
set_option maxRecDepth 20000 in
theorem ggX4_planRound_X4_lightsAll : GoodIn wsX4_planRound wsX4_lightsAll := goodIn_r _ [8, 9, 10, 11, 12, 13, 14, 15, 16, 17, 18, 19, 20, 21, 22, 23, 24, 25, 26, 27, 28, 29, 30, 31, 32, 5, 6, 7, 52, 53, 54, 55] (by decide +kernel) (by decide +kernel)
set_option maxRecDepth 20000 in
theorem gX4_planRound_X4_lightsAll : GoodIn wsX4_planRound (va_wsS RX4 243 yX4_lightsAll wsX4_lightsAll) := goodIn_app (goodIn_of _ (by decide +kernel)) ggX4_planRound_X4_lightsAll
theorem dX4_planRound_0 : decode cX4_planRound 0 = .ok (.iconst 1, 1) := by decide +kernel
theorem dX4_planRound_1 : decode cX4_planRound 1 = .ok (.istore_n 2, 1) := by decide +kernel
theorem dX4_planRound_2 : decode cX4_planRound 2 = .ok (.iload_n 2, 1) := by decide +kernel
theorem dX4_planRound_3 : decode cX4_planRound 3 = .ok (.bipush 7, 2) := by decide +kernel
theorem dX4_planRound_5 : decode cX4_planRound 5 = .ok (.if_icmp .gt 35, 3) := by decide +kernel
theorem dX4_planRound_8 : decode cX4_planRound 8 = .ok (.aload_n 0, 1) := by decide +kernel
theorem dX4_planRound_9 : decode cX4_planRound 9 = .ok (.getfield 19, 3) := by decide +kernel
theorem dX4_planRound_12 : decode cX4_planRound 12 = .ok (.aload_n 0, 1) := by decide +kernel
theorem dX4_planRound_13 : decode cX4_planRound 13 = .ok (.getfield 44, 3) := by decide +kernel
theorem dX4_planRound_16 : decode cX4_planRound 16 = .ok (.iload_n 2, 1) := by decide +kernel
theorem dX4_planRound_17 : decode cX4_planRound 17 = .ok (.iconst 0, 1) := by decide +kernel
theorem dX4_planRound_18 : decode cX4_planRound 18 = .ok (.iload_n 1, 1) := by decide +kernel
theorem dX4_planRound_19 : decode cX4_planRound 19 = .ok (.aload_n 0, 1) := by decide +kernel
theorem dX4_planRound_20 : decode cX4_planRound 20 = .ok (.getfield 26, 3) := by decide +kernel
theorem dX4_planRound_23 : decode cX4_planRound 23 = .ok (.getfield 90, 3) := by decide +kernel
theorem dX4_planRound_26 : decode cX4_planRound 26 = .ok (.invokestatic 243, 3) := by decide +kernel
theorem dX4_planRound_29 : decode cX4_planRound 29 = .ok (.ifCond .eq 5, 3) := by decide +kernel
theorem dX4_planRound_32 : decode cX4_planRound 32 = .ok (.iload_n 2, 1) := by decide +kernel
theorem dX4_planRound_33 : decode cX4_planRound 33 = .ok (.ireturn, 1) := by decide +kernel
theorem dX4_planRound_34 : decode cX4_planRound 34 = .ok (.iinc 2 1, 3) := by decide +kernel
theorem dX4_planRound_37 : decode cX4_planRound 37 = .ok (.goto (-35), 3) := by decide +kernel
theorem dX4_planRound_40 : decode cX4_planRound 40 = .ok (.iconst (-1), 1) := by decide +kernel
theorem dX4_planRound_41 : decode cX4_planRound 41 = .ok (.ireturn, 1) := by decide +kernel
set_option maxRecDepth 20000 in
theorem ggX4_lightsAll_X1_after : GoodIn wsX4_lightsAll wsX1_after := goodIn_r _ [6, 7, 8, 9, 10, 11, 12, 13, 14, 15, 5, 16, 28, 29, 30, 31] (by decide +kernel) (by decide +kernel)
set_option maxRecDepth 20000 in
theorem gX4_lightsAll_X1_after : GoodIn wsX4_lightsAll (wsV RX4 134 RX1 yX1_after wsX1_after) := goodIn_app (goodIn_of _ (by decide +kernel)) ggX4_lightsAll_X1_after
set_option maxRecDepth 20000 in
theorem ggX4_lightsAll_X1_litOnes : GoodIn wsX4_lightsAll wsX1_litOnes := goodIn_r _ [20, 7, 14, 15, 5, 16, 28, 29, 30, 31] (by decide +kernel) (by decide +kernel)
set_option maxRecDepth 20000 in
theorem gX4_lightsAll_X1_litOnes : GoodIn wsX4_lightsAll (wsV RX4 140 RX1 yX1_litOnes wsX1_litOnes) := goodIn_app (goodIn_of _ (by decide +kernel)) ggX4_lightsAll_X1_litOnes
set_option maxRecDepth 20000 in
theorem ggX4_lightsAll_X1_allOnes : GoodIn wsX4_lightsAll wsX1_allOnes := goodIn_r _ [24, 7, 28, 29, 30, 31] (by decide +kernel) (by decide +kernel)
set_option maxRecDepth 20000 in
theorem gX4_lightsAll_X1_allOnes : GoodIn wsX4_lightsAll (wsV RX4 247 RX1 yX1_allOnes wsX1_allOnes) := goodIn_app (goodIn_of _ (by decide +kernel)) ggX4_lightsAll_X1_allOnes
set_option maxRecDepth 20000 in
theorem ggX4_lightsAll_X4_lightsAll : GoodIn wsX4_lightsAll wsX4_lightsAll := goodIn_r _ [0, 1, 2, 3, 4, 5, 6, 7, 8, 9, 10, 11, 12, 13, 14, 15, 16, 17, 18, 19, 20, 21, 22, 23, 24, 25, 26, 27, 28, 29, 30, 31] (by decide +kernel) (by decide +kernel)
set_option maxRecDepth 20000 in
theorem gX4_lightsAll_X4_lightsAll : GoodIn wsX4_lightsAll (va_wsS RX4 243 yX4_lightsAll wsX4_lightsAll) := goodIn_app (goodIn_of _ (by decide +kernel)) ggX4_lightsAll_X4_lightsAll
theorem dX4_lightsAll_0 : decode cX4_lightsAll 0 = .ok (.iload_n 3, 1) := by decide +kernel
theorem dX4_lightsAll_1 : decode cX4_lightsAll 1 = .ok (.iload_n 2, 1) := by decide +kernel
theorem dX4_lightsAll_2 : decode cX4_lightsAll 2 = .ok (.if_icmp .ge 23, 3) := by decide +kernel
theorem dX4_lightsAll_5 : decode cX4_lightsAll 5 = .ok (.iload_n 3, 1) := by decide +kernel
theorem dX4_lightsAll_6 : decode cX4_lightsAll 6 = .ok (.aload_n 1, 1) := by decide +kernel
theorem dX4_lightsAll_7 : decode cX4_lightsAll 7 = .ok (.arraylength, 1) := by decide +kernel
theorem dX4_lightsAll_8 : decode cX4_lightsAll 8 = .ok (.if_icmp .ge 17, 3) := by decide +kernel
theorem dX4_lightsAll_11 : decode cX4_lightsAll 11 = .ok (.iload 4, 2) := by decide +kernel
theorem dX4_lightsAll_13 : decode cX4_lightsAll 13 = .ok (.ifCond .lt 12, 3) := by decide +kernel
theorem dX4_lightsAll_16 : decode cX4_lightsAll 16 = .ok (.iload 4, 2) := by decide +kernel
theorem dX4_lightsAll_18 : decode cX4_lightsAll 18 = .ok (.aload_n 0, 1) := by decide +kernel
theorem dX4_lightsAll_19 : decode cX4_lightsAll 19 = .ok (.getfield 77, 3) := by decide +kernel
theorem dX4_lightsAll_22 : decode cX4_lightsAll 22 = .ok (.if_icmp .lt 5, 3) := by decide +kernel
theorem dX4_lightsAll_25 : decode cX4_lightsAll 25 = .ok (.iconst 0, 1) := by decide +kernel
theorem dX4_lightsAll_26 : decode cX4_lightsAll 26 = .ok (.ireturn, 1) := by decide +kernel
theorem dX4_lightsAll_27 : decode cX4_lightsAll 27 = .ok (.aload_n 0, 1) := by decide +kernel
theorem dX4_lightsAll_28 : decode cX4_lightsAll 28 = .ok (.iload 5, 2) := by decide +kernel
theorem dX4_lightsAll_30 : decode cX4_lightsAll 30 = .ok (.iconst 1, 1) := by decide +kernel
theorem dX4_lightsAll_31 : decode cX4_lightsAll 31 = .ok (.iload 4, 2) := by decide +kernel
theorem dX4_lightsAll_33 : decode cX4_lightsAll 33 = .ok (.ishl, 1) := by decide +kernel
theorem dX4_lightsAll_34 : decode cX4_lightsAll 34 = .ok (.invokevirtual 134, 3) := by decide +kernel
theorem dX4_lightsAll_37 : decode cX4_lightsAll 37 = .ok (.istore 6, 2) := by decide +kernel
theorem dX4_lightsAll_39 : decode cX4_lightsAll 39 = .ok (.iload_n 3, 1) := by decide +kernel
theorem dX4_lightsAll_40 : decode cX4_lightsAll 40 = .ok (.iload_n 2, 1) := by decide +kernel
theorem dX4_lightsAll_41 : decode cX4_lightsAll 41 = .ok (.iconst 1, 1) := by decide +kernel
theorem dX4_lightsAll_42 : decode cX4_lightsAll 42 = .ok (.isub, 1) := by decide +kernel
theorem dX4_lightsAll_43 : decode cX4_lightsAll 43 = .ok (.if_icmp .ne 35, 3) := by decide +kernel
theorem dX4_lightsAll_46 : decode cX4_lightsAll 46 = .ok (.aload_n 1, 1) := by decide +kernel
theorem dX4_lightsAll_47 : decode cX4_lightsAll 47 = .ok (.iload_n 3, 1) := by decide +kernel
theorem dX4_lightsAll_48 : decode cX4_lightsAll 48 = .ok (.iload 4, 2) := by decide +kernel
theorem dX4_lightsAll_50 : decode cX4_lightsAll 50 = .ok (.ifCond .le 7, 3) := by decide +kernel
theorem dX4_lightsAll_53 : decode cX4_lightsAll 53 = .ok (.iconst 0, 1) := by decide +kernel
theorem dX4_lightsAll_54 : decode cX4_lightsAll 54 = .ok (.goto 4, 3) := by decide +kernel
theorem dX4_lightsAll_57 : decode cX4_lightsAll 57 = .ok (.iconst 1, 1) := by decide +kernel
theorem dX4_lightsAll_58 : decode cX4_lightsAll 58 = .ok (.iastore, 1) := by decide +kernel
theorem dX4_lightsAll_59 : decode cX4_lightsAll 59 = .ok (.aload_n 0, 1) := by decide +kernel
theorem dX4_lightsAll_60 : decode cX4_lightsAll 60 = .ok (.iload 6, 2) := by decide +kernel
theorem dX4_lightsAll_62 : decode cX4_lightsAll 62 = .ok (.invokevirtual 140, 3) := by decide +kernel
theorem dX4_lightsAll_65 : decode cX4_lightsAll 65 = .ok (.aload_n 0, 1) := by decide +kernel
theorem dX4_lightsAll_66 : decode cX4_lightsAll 66 = .ok (.invokevirtual 247, 3) := by decide +kernel
theorem dX4_lightsAll_69 : decode cX4_lightsAll 69 = .ok (.if_icmp .ne 7, 3) := by decide +kernel
theorem dX4_lightsAll_72 : decode cX4_lightsAll 72 = .ok (.iconst 1, 1) := by decide +kernel
theorem dX4_lightsAll_73 : decode cX4_lightsAll 73 = .ok (.goto 4, 3) := by decide +kernel
theorem dX4_lightsAll_76 : decode cX4_lightsAll 76 = .ok (.iconst 0, 1) := by decide +kernel
theorem dX4_lightsAll_77 : decode cX4_lightsAll 77 = .ok (.ireturn, 1) := by decide +kernel
theorem dX4_lightsAll_78 : decode cX4_lightsAll 78 = .ok (.iconst 0, 1) := by decide +kernel
theorem dX4_lightsAll_79 : decode cX4_lightsAll 79 = .ok (.istore 7, 2) := by decide +kernel
theorem dX4_lightsAll_81 : decode cX4_lightsAll 81 = .ok (.iload 7, 2) := by decide +kernel
theorem dX4_lightsAll_83 : decode cX4_lightsAll 83 = .ok (.iconst 2, 1) := by decide +kernel
theorem dX4_lightsAll_84 : decode cX4_lightsAll 84 = .ok (.if_icmp .gt 37, 3) := by decide +kernel
theorem dX4_lightsAll_87 : decode cX4_lightsAll 87 = .ok (.aload_n 0, 1) := by decide +kernel
theorem dX4_lightsAll_88 : decode cX4_lightsAll 88 = .ok (.aload_n 1, 1) := by decide +kernel
theorem dX4_lightsAll_89 : decode cX4_lightsAll 89 = .ok (.iload_n 2, 1) := by decide +kernel
theorem dX4_lightsAll_90 : decode cX4_lightsAll 90 = .ok (.iload_n 3, 1) := by decide +kernel
theorem dX4_lightsAll_91 : decode cX4_lightsAll 91 = .ok (.iconst 1, 1) := by decide +kernel
theorem dX4_lightsAll_92 : decode cX4_lightsAll 92 = .ok (.iadd, 1) := by decide +kernel
theorem dX4_lightsAll_93 : decode cX4_lightsAll 93 = .ok (.iload 4, 2) := by decide +kernel
theorem dX4_lightsAll_95 : decode cX4_lightsAll 95 = .ok (.iload 7, 2) := by decide +kernel
theorem dX4_lightsAll_97 : decode cX4_lightsAll 97 = .ok (.iadd, 1) := by decide +kernel
theorem dX4_lightsAll_98 : decode cX4_lightsAll 98 = .ok (.iconst 1, 1) := by decide +kernel
theorem dX4_lightsAll_99 : decode cX4_lightsAll 99 = .ok (.isub, 1) := by decide +kernel
theorem dX4_lightsAll_100 : decode cX4_lightsAll 100 = .ok (.iload 6, 2) := by decide +kernel
theorem dX4_lightsAll_102 : decode cX4_lightsAll 102 = .ok (.invokestatic 243, 3) := by decide +kernel
theorem dX4_lightsAll_105 : decode cX4_lightsAll 105 = .ok (.ifCond .eq 10, 3) := by decide +kernel
theorem dX4_lightsAll_108 : decode cX4_lightsAll 108 = .ok (.aload_n 1, 1) := by decide +kernel
theorem dX4_lightsAll_109 : decode cX4_lightsAll 109 = .ok (.iload_n 3, 1) := by decide +kernel
theorem dX4_lightsAll_110 : decode cX4_lightsAll 110 = .ok (.iload 7, 2) := by decide +kernel
theorem dX4_lightsAll_112 : decode cX4_lightsAll 112 = .ok (.iastore, 1) := by decide +kernel
theorem dX4_lightsAll_113 : decode cX4_lightsAll 113 = .ok (.iconst 1, 1) := by decide +kernel
theorem dX4_lightsAll_114 : decode cX4_lightsAll 114 = .ok (.ireturn, 1) := by decide +kernel
theorem dX4_lightsAll_115 : decode cX4_lightsAll 115 = .ok (.iinc 7 1, 3) := by decide +kernel
theorem dX4_lightsAll_118 : decode cX4_lightsAll 118 = .ok (.goto (-37), 3) := by decide +kernel
theorem dX4_lightsAll_121 : decode cX4_lightsAll 121 = .ok (.iconst 0, 1) := by decide +kernel
theorem dX4_lightsAll_122 : decode cX4_lightsAll 122 = .ok (.ireturn, 1) := by decide +kernel
theorem dX5_init_0 : decode cX5_init 0 = .ok (.aload_n 0, 1) := by decide +kernel
theorem dX5_init_1 : decode cX5_init 1 = .ok (.invokespecial 1, 3) := by decide +kernel
theorem dX5_init_4 : decode cX5_init 4 = .ok (.aload_n 0, 1) := by decide +kernel
theorem dX5_init_5 : decode cX5_init 5 = .ok (.bipush 20, 2) := by decide +kernel
theorem dX5_init_7 : decode cX5_init 7 = .ok (.newarray .int, 2) := by decide +kernel
theorem dX5_init_9 : decode cX5_init 9 = .ok (.putfield 7, 3) := by decide +kernel
theorem dX5_init_12 : decode cX5_init 12 = .ok (.aload_n 0, 1) := by decide +kernel
theorem dX5_init_13 : decode cX5_init 13 = .ok (.bipush 18, 2) := by decide +kernel
theorem dX5_init_15 : decode cX5_init 15 = .ok (.newarray .int, 2) := by decide +kernel
theorem dX5_init_17 : decode cX5_init 17 = .ok (.putfield 13, 3) := by decide +kernel
theorem dX5_init_20 : decode cX5_init 20 = .ok (.aload_n 0, 1) := by decide +kernel
theorem dX5_init_21 : decode cX5_init 21 = .ok (.bipush 12, 2) := by decide +kernel
theorem dX5_init_23 : decode cX5_init 23 = .ok (.newarray .int, 2) := by decide +kernel
theorem dX5_init_25 : decode cX5_init 25 = .ok (.putfield 16, 3) := by decide +kernel
theorem dX5_init_28 : decode cX5_init 28 = .ok (.aload_n 0, 1) := by decide +kernel
theorem dX5_init_29 : decode cX5_init 29 = .ok (.bipush 6, 2) := by decide +kernel
theorem dX5_init_31 : decode cX5_init 31 = .ok (.newarray .int, 2) := by decide +kernel
theorem dX5_init_33 : decode cX5_init 33 = .ok (.putfield 19, 3) := by decide +kernel
theorem dX5_init_36 : decode cX5_init 36 = .ok (.aload_n 0, 1) := by decide +kernel
theorem dX5_init_37 : decode cX5_init 37 = .ok (.bipush 7, 2) := by decide +kernel
theorem dX5_init_39 : decode cX5_init 39 = .ok (.newarray .int, 2) := by decide +kernel
theorem dX5_init_41 : decode cX5_init 41 = .ok (.putfield 22, 3) := by decide +kernel
theorem dX5_init_44 : decode cX5_init 44 = .ok (.aload_n 0, 1) := by decide +kernel
theorem dX5_init_45 : decode cX5_init 45 = .ok (.bipush 7, 2) := by decide +kernel
theorem dX5_init_47 : decode cX5_init 47 = .ok (.newarray .int, 2) := by decide +kernel
theorem dX5_init_49 : decode cX5_init 49 = .ok (.putfield 25, 3) := by decide +kernel
theorem dX5_init_52 : decode cX5_init 52 = .ok (.aload_n 0, 1) := by decide +kernel
theorem dX5_init_53 : decode cX5_init 53 = .ok (.bipush 24, 2) := by decide +kernel
theorem dX5_init_55 : decode cX5_init 55 = .ok (.newarray .int, 2) := by decide +kernel
theorem dX5_init_57 : decode cX5_init 57 = .ok (.putfield 28, 3) := by decide +kernel
theorem dX5_init_60 : decode cX5_init 60 = .ok (.aload_n 0, 1) := by decide +kernel
theorem dX5_init_61 : decode cX5_init 61 = .ok (.bipush 18, 2) := by decide +kernel
theorem dX5_init_63 : decode cX5_init 63 = .ok (.newarray .int, 2) := by decide +kernel
theorem dX5_init_65 : decode cX5_init 65 = .ok (.putfield 31, 3) := by decide +kernel
theorem dX5_init_68 : decode cX5_init 68 = .ok (.aload_n 0, 1) := by decide +kernel
theorem dX5_init_69 : decode cX5_init 69 = .ok (.bipush 12, 2) := by decide +kernel
theorem dX5_init_71 : decode cX5_init 71 = .ok (.newarray .int, 2) := by decide +kernel
theorem dX5_init_73 : decode cX5_init 73 = .ok (.putfield 34, 3) := by decide +kernel
theorem dX5_init_76 : decode cX5_init 76 = .ok (.aload_n 0, 1) := by decide +kernel
theorem dX5_init_77 : decode cX5_init 77 = .ok (.bipush 24, 2) := by decide +kernel
theorem dX5_init_79 : decode cX5_init 79 = .ok (.newarray .int, 2) := by decide +kernel
theorem dX5_init_81 : decode cX5_init 81 = .ok (.putfield 37, 3) := by decide +kernel
theorem dX5_init_84 : decode cX5_init 84 = .ok (.aload_n 0, 1) := by decide +kernel
theorem dX5_init_85 : decode cX5_init 85 = .ok (.iconst (-1), 1) := by decide +kernel
theorem dX5_init_86 : decode cX5_init 86 = .ok (.putfield 40, 3) := by decide +kernel
theorem dX5_init_89 : decode cX5_init 89 = .ok (.return_, 1) := by decide +kernel
theorem dX5_in_0 : decode cX5_in 0 = .ok (.lload_n 0, 1) := by decide +kernel
theorem dX5_in_1 : decode cX5_in 1 = .ok (.lload_n 2, 1) := by decide +kernel
theorem dX5_in_2 : decode cX5_in 2 = .ok (.lcmp, 1) := by decide +kernel
theorem dX5_in_3 : decode cX5_in 3 = .ok (.ifCond .lt 14, 3) := by decide +kernel
theorem dX5_in_6 : decode cX5_in 6 = .ok (.lload_n 0, 1) := by decide +kernel
theorem dX5_in_7 : decode cX5_in 7 = .ok (.lload 4, 2) := by decide +kernel
theorem dX5_in_9 : decode cX5_in 9 = .ok (.lcmp, 1) := by decide +kernel
theorem dX5_in_10 : decode cX5_in 10 = .ok (.ifCond .gt 7, 3) := by decide +kernel
theorem dX5_in_13 : decode cX5_in 13 = .ok (.iconst 1, 1) := by decide +kernel
theorem dX5_in_14 : decode cX5_in 14 = .ok (.goto 4, 3) := by decide +kernel
theorem dX5_in_17 : decode cX5_in 17 = .ok (.iconst 0, 1) := by decide +kernel
theorem dX5_in_18 : decode cX5_in 18 = .ok (.ireturn, 1) := by decide +kernel
theorem dX5_copy_0 : decode cX5_copy 0 = .ok (.iconst 0, 1) := by decide +kernel
theorem dX5_copy_1 : decode cX5_copy 1 = .ok (.istore_n 2, 1) := by decide +kernel
theorem dX5_copy_2 : decode cX5_copy 2 = .ok (.iload_n 2, 1) := by decide +kernel
theorem dX5_copy_3 : decode cX5_copy 3 = .ok (.aload_n 0, 1) := by decide +kernel
theorem dX5_copy_4 : decode cX5_copy 4 = .ok (.arraylength, 1) := by decide +kernel
theorem dX5_copy_5 : decode cX5_copy 5 = .ok (.if_icmp .ge 15, 3) := by decide +kernel
theorem dX5_copy_8 : decode cX5_copy 8 = .ok (.aload_n 1, 1) := by decide +kernel
theorem dX5_copy_9 : decode cX5_copy 9 = .ok (.iload_n 2, 1) := by decide +kernel
theorem dX5_copy_10 : decode cX5_copy 10 = .ok (.aload_n 0, 1) := by decide +kernel
theorem dX5_copy_11 : decode cX5_copy 11 = .ok (.iload_n 2, 1) := by decide +kernel
theorem dX5_copy_12 : decode cX5_copy 12 = .ok (.iaload, 1) := by decide +kernel
theorem dX5_copy_13 : decode cX5_copy 13 = .ok (.iastore, 1) := by decide +kernel
theorem dX5_copy_14 : decode cX5_copy 14 = .ok (.iinc 2 1, 3) := by decide +kernel
theorem dX5_copy_17 : decode cX5_copy 17 = .ok (.goto (-15), 3) := by decide +kernel
theorem dX5_copy_20 : decode cX5_copy 20 = .ok (.return_, 1) := by decide +kernel
theorem dX5_ones_0 : decode cX5_ones 0 = .ok (.iconst 0, 1) := by decide +kernel
theorem dX5_ones_1 : decode cX5_ones 1 = .ok (.istore_n 1, 1) := by decide +kernel
theorem dX5_ones_2 : decode cX5_ones 2 = .ok (.iconst 0, 1) := by decide +kernel
theorem dX5_ones_3 : decode cX5_ones 3 = .ok (.istore_n 2, 1) := by decide +kernel
theorem dX5_ones_4 : decode cX5_ones 4 = .ok (.iload_n 2, 1) := by decide +kernel
theorem dX5_ones_5 : decode cX5_ones 5 = .ok (.bipush 8, 2) := by decide +kernel
theorem dX5_ones_7 : decode cX5_ones 7 = .ok (.if_icmp .ge 17, 3) := by decide +kernel
theorem dX5_ones_10 : decode cX5_ones 10 = .ok (.iload_n 1, 1) := by decide +kernel
theorem dX5_ones_11 : decode cX5_ones 11 = .ok (.iload_n 0, 1) := by decide +kernel
theorem dX5_ones_12 : decode cX5_ones 12 = .ok (.iload_n 2, 1) := by decide +kernel
theorem dX5_ones_13 : decode cX5_ones 13 = .ok (.ishr, 1) := by decide +kernel
theorem dX5_ones_14 : decode cX5_ones 14 = .ok (.iconst 1, 1) := by decide +kernel
theorem dX5_ones_15 : decode cX5_ones 15 = .ok (.iand, 1) := by decide +kernel
theorem dX5_ones_16 : decode cX5_ones 16 = .ok (.iadd, 1) := by decide +kernel
theorem dX5_ones_17 : decode cX5_ones 17 = .ok (.istore_n 1, 1) := by decide +kernel
theorem dX5_ones_18 : decode cX5_ones 18 = .ok (.iinc 2 1, 3) := by decide +kernel
theorem dX5_ones_21 : decode cX5_ones 21 = .ok (.goto (-17), 3) := by decide +kernel
theorem dX5_ones_24 : decode cX5_ones 24 = .ok (.iload_n 1, 1) := by decide +kernel
theorem dX5_ones_25 : decode cX5_ones 25 = .ok (.ireturn, 1) := by decide +kernel
set_option maxRecDepth 20000 in
theorem ggX5_letter_X5_in : GoodIn wsX5_letter wsX5_in := goodIn_r _ [7] (by decide +kernel) (by decide +kernel)
set_option maxRecDepth 20000 in
theorem gX5_letter_X5_in : GoodIn wsX5_letter (va_wsS RX5 46 yX5_in wsX5_in) := goodIn_app (goodIn_of _ (by decide +kernel)) ggX5_letter_X5_in
theorem dX5_letter_0 : decode cX5_letter 0 = .ok (.iload_n 1, 1) := by decide +kernel
theorem dX5_letter_1 : decode cX5_letter 1 = .ok (.i2l, 1) := by decide +kernel
theorem dX5_letter_2 : decode cX5_letter 2 = .ok (.lconst 1, 1) := by decide +kernel
theorem dX5_letter_3 : decode cX5_letter 3 = .ok (.ldc2_w 44, 3) := by decide +kernel
theorem dX5_letter_6 : decode cX5_letter 6 = .ok (.invokestatic 46, 3) := by decide +kernel
theorem dX5_letter_9 : decode cX5_letter 9 = .ok (.ifCond .ne 6, 3) := by decide +kernel
theorem dX5_letter_12 : decode cX5_letter 12 = .ok (.bipush (-102), 2) := by decide +kernel
theorem dX5_letter_14 : decode cX5_letter 14 = .ok (.ireturn, 1) := by decide +kernel
theorem dX5_letter_15 : decode cX5_letter 15 = .ok (.aload_n 0, 1) := by decide +kernel
theorem dX5_letter_16 : decode cX5_letter 16 = .ok (.getfield 50, 3) := by decide +kernel
theorem dX5_letter_19 : decode cX5_letter 19 = .ok (.bipush 20, 2) := by decide +kernel
theorem dX5_letter_21 : decode cX5_letter 21 = .ok (.if_icmp .ne 6, 3) := by decide +kernel
theorem dX5_letter_24 : decode cX5_letter 24 = .ok (.bipush (-104), 2) := by decide +kernel
theorem dX5_letter_26 : decode cX5_letter 26 = .ok (.ireturn, 1) := by decide +kernel
theorem dX5_letter_27 : decode cX5_letter 27 = .ok (.aload_n 0, 1) := by decide +kernel
theorem dX5_letter_28 : decode cX5_letter 28 = .ok (.getfield 7, 3) := by decide +kernel
theorem dX5_letter_31 : decode cX5_letter 31 = .ok (.aload_n 0, 1) := by decide +kernel
theorem dX5_letter_32 : decode cX5_letter 32 = .ok (.getfield 50, 3) := by decide +kernel
theorem dX5_letter_35 : decode cX5_letter 35 = .ok (.iload_n 1, 1) := by decide +kernel
theorem dX5_letter_36 : decode cX5_letter 36 = .ok (.iastore, 1) := by decide +kernel
theorem dX5_letter_37 : decode cX5_letter 37 = .ok (.aload_n 0, 1) := by decide +kernel
theorem dX5_letter_38 : decode cX5_letter 38 = .ok (.dup, 1) := by decide +kernel
theorem dX5_letter_39 : decode cX5_letter 39 = .ok (.getfield 50, 3) := by decide +kernel
theorem dX5_letter_42 : decode cX5_letter 42 = .ok (.iconst 1, 1) := by decide +kernel
theorem dX5_letter_43 : decode cX5_letter 43 = .ok (.iadd, 1) := by decide +kernel
theorem dX5_letter_44 : decode cX5_letter 44 = .ok (.putfield 50, 3) := by decide +kernel
theorem dX5_letter_47 : decode cX5_letter 47 = .ok (.aload_n 0, 1) := by decide +kernel
theorem dX5_letter_48 : decode cX5_letter 48 = .ok (.getfield 50, 3) := by decide +kernel
theorem dX5_letter_51 : decode cX5_letter 51 = .ok (.ireturn, 1) := by decide +kernel
theorem dX5_blank_0 : decode cX5_blank 0 = .ok (.aload_n 0, 1) := by decide +kernel
theorem dX5_blank_1 : decode cX5_blank 1 = .ok (.getfield 50, 3) := by decide +kernel
theorem dX5_blank_4 : decode cX5_blank 4 = .ok (.istore_n 1, 1) := by decide +kernel
theorem dX5_blank_5 : decode cX5_blank 5 = .ok (.aload_n 0, 1) := by decide +kernel
theorem dX5_blank_6 : decode cX5_blank 6 = .ok (.iconst 0, 1) := by decide +kernel
theorem dX5_blank_7 : decode cX5_blank 7 = .ok (.putfield 50, 3) := by decide +kernel
theorem dX5_blank_10 : decode cX5_blank 10 = .ok (.iload_n 1, 1) := by decide +kernel
theorem dX5_blank_11 : decode cX5_blank 11 = .ok (.ireturn, 1) := by decide +kernel
theorem dX5_kindBy_0 : decode cX5_kindBy 0 = .ok (.iload_n 0, 1) := by decide +kernel
theorem dX5_kindBy_1 : decode cX5_kindBy 1 = .ok (.bipush 108, 2) := by decide +kernel
theorem dX5_kindBy_3 : decode cX5_kindBy 3 = .ok (.if_icmp .ne 7, 3) := by decide +kernel
theorem dX5_kindBy_6 : decode cX5_kindBy 6 = .ok (.iconst 0, 1) := by decide +kernel
theorem dX5_kindBy_7 : decode cX5_kindBy 7 = .ok (.goto 44, 3) := by decide +kernel
theorem dX5_kindBy_10 : decode cX5_kindBy 10 = .ok (.iload_n 0, 1) := by decide +kernel
theorem dX5_kindBy_11 : decode cX5_kindBy 11 = .ok (.bipush 119, 2) := by decide +kernel
theorem dX5_kindBy_13 : decode cX5_kindBy 13 = .ok (.if_icmp .ne 7, 3) := by decide +kernel
theorem dX5_kindBy_16 : decode cX5_kindBy 16 = .ok (.iconst 1, 1) := by decide +kernel
theorem dX5_kindBy_17 : decode cX5_kindBy 17 = .ok (.goto 34, 3) := by decide +kernel
theorem dX5_kindBy_20 : decode cX5_kindBy 20 = .ok (.iload_n 0, 1) := by decide +kernel
theorem dX5_kindBy_21 : decode cX5_kindBy 21 = .ok (.bipush 116, 2) := by decide +kernel
theorem dX5_kindBy_23 : decode cX5_kindBy 23 = .ok (.if_icmp .ne 7, 3) := by decide +kernel
theorem dX5_kindBy_26 : decode cX5_kindBy 26 = .ok (.iconst 2, 1) := by decide +kernel
theorem dX5_kindBy_27 : decode cX5_kindBy 27 = .ok (.goto 24, 3) := by decide +kernel
theorem dX5_kindBy_30 : decode cX5_kindBy 30 = .ok (.iload_n 0, 1) := by decide +kernel
theorem dX5_kindBy_31 : decode cX5_kindBy 31 = .ok (.bipush 100, 2) := by decide +kernel
theorem dX5_kindBy_33 : decode cX5_kindBy 33 = .ok (.if_icmp .ne 7, 3) := by decide +kernel
theorem dX5_kindBy_36 : decode cX5_kindBy 36 = .ok (.iconst 3, 1) := by decide +kernel
theorem dX5_kindBy_37 : decode cX5_kindBy 37 = .ok (.goto 14, 3) := by decide +kernel
theorem dX5_kindBy_40 : decode cX5_kindBy 40 = .ok (.iload_n 0, 1) := by decide +kernel
theorem dX5_kindBy_41 : decode cX5_kindBy 41 = .ok (.bipush 104, 2) := by decide +kernel
theorem dX5_kindBy_43 : decode cX5_kindBy 43 = .ok (.if_icmp .ne 7, 3) := by decide +kernel
theorem dX5_kindBy_46 : decode cX5_kindBy 46 = .ok (.iconst 4, 1) := by decide +kernel
theorem dX5_kindBy_47 : decode cX5_kindBy 47 = .ok (.goto 4, 3) := by decide +kernel
theorem dX5_kindBy_50 : decode cX5_kindBy 50 = .ok (.iconst (-1), 1) := by decide +kernel
theorem dX5_kindBy_51 : decode cX5_kindBy 51 = .ok (.ireturn, 1) := by decide +kernel
set_option maxRecDepth 20000 in
theorem ggX5_isGood_X5_kindBy : GoodIn wsX5_isGood wsX5_kindBy := goodIn_r _ [5] (by decide +kernel) (by decide +kernel)
set_option maxRecDepth 20000 in
theorem gX5_isGood_X5_kindBy : GoodIn wsX5_isGood (va_wsS RX5 53 yX5_kindBy wsX5_kindBy) := goodIn_app (goodIn_of _ (by decide +kernel)) ggX5_isGood_X5_kindBy
set_option maxRecDepth 20000 in
theorem ggX5_isGood_X5_in : GoodIn wsX5_isGood wsX5_in := goodIn_r _ [8] (by decide +kernel) (by decide +kernel)
set_option maxRecDepth 20000 in
theorem gX5_isGood_X5_in : GoodIn wsX5_isGood (va_wsS RX5 46 yX5_in wsX5_in) := goodIn_app (goodIn_of _ (by decide +kernel)) ggX5_isGood_X5_in
theorem dX5_isGood_0 : decode cX5_isGood 0 = .ok (.iload_n 0, 1) := by decide +kernel
theorem dX5_isGood_1 : decode cX5_isGood 1 = .ok (.bipush 16, 2) := by decide +kernel
theorem dX5_isGood_3 : decode cX5_isGood 3 = .ok (.if_icmp .le 5, 3) := by decide +kernel
theorem dX5_isGood_6 : decode cX5_isGood 6 = .ok (.iconst 0, 1) := by decide +kernel
theorem dX5_isGood_7 : decode cX5_isGood 7 = .ok (.ireturn, 1) := by decide +kernel
theorem dX5_isGood_8 : decode cX5_isGood 8 = .ok (.iload_n 0, 1) := by decide +kernel
theorem dX5_isGood_9 : decode cX5_isGood 9 = .ok (.iconst 3, 1) := by decide +kernel
theorem dX5_isGood_10 : decode cX5_isGood 10 = .ok (.irem, 1) := by decide +kernel
theorem dX5_isGood_11 : decode cX5_isGood 11 = .ok (.ifCond .ne 19, 3) := by decide +kernel
theorem dX5_isGood_14 : decode cX5_isGood 14 = .ok (.iload_n 1, 1) := by decide +kernel
theorem dX5_isGood_15 : decode cX5_isGood 15 = .ok (.invokestatic 53, 3) := by decide +kernel
theorem dX5_isGood_18 : decode cX5_isGood 18 = .ok (.iconst (-1), 1) := by decide +kernel
theorem dX5_isGood_19 : decode cX5_isGood 19 = .ok (.if_icmp .eq 7, 3) := by decide +kernel
theorem dX5_isGood_22 : decode cX5_isGood 22 = .ok (.iconst 1, 1) := by decide +kernel
theorem dX5_isGood_23 : decode cX5_isGood 23 = .ok (.goto 40, 3) := by decide +kernel
theorem dX5_isGood_26 : decode cX5_isGood 26 = .ok (.iconst 0, 1) := by decide +kernel
theorem dX5_isGood_27 : decode cX5_isGood 27 = .ok (.goto 36, 3) := by decide +kernel
theorem dX5_isGood_30 : decode cX5_isGood 30 = .ok (.iload_n 0, 1) := by decide +kernel
theorem dX5_isGood_31 : decode cX5_isGood 31 = .ok (.iconst 3, 1) := by decide +kernel
theorem dX5_isGood_32 : decode cX5_isGood 32 = .ok (.irem, 1) := by decide +kernel
theorem dX5_isGood_33 : decode cX5_isGood 33 = .ok (.iconst 1, 1) := by decide +kernel
theorem dX5_isGood_34 : decode cX5_isGood 34 = .ok (.if_icmp .ne 18, 3) := by decide +kernel
theorem dX5_isGood_37 : decode cX5_isGood 37 = .ok (.iload_n 1, 1) := by decide +kernel
theorem dX5_isGood_38 : decode cX5_isGood 38 = .ok (.bipush 48, 2) := by decide +kernel
theorem dX5_isGood_40 : decode cX5_isGood 40 = .ok (.isub, 1) := by decide +kernel
theorem dX5_isGood_41 : decode cX5_isGood 41 = .ok (.i2l, 1) := by decide +kernel
theorem dX5_isGood_42 : decode cX5_isGood 42 = .ok (.lconst 1, 1) := by decide +kernel
theorem dX5_isGood_43 : decode cX5_isGood 43 = .ok (.ldc2_w 57, 3) := by decide +kernel
theorem dX5_isGood_46 : decode cX5_isGood 46 = .ok (.invokestatic 46, 3) := by decide +kernel
theorem dX5_isGood_49 : decode cX5_isGood 49 = .ok (.goto 14, 3) := by decide +kernel
theorem dX5_isGood_52 : decode cX5_isGood 52 = .ok (.iload_n 1, 1) := by decide +kernel
theorem dX5_isGood_53 : decode cX5_isGood 53 = .ok (.bipush 44, 2) := by decide +kernel
theorem dX5_isGood_55 : decode cX5_isGood 55 = .ok (.if_icmp .ne 7, 3) := by decide +kernel
theorem dX5_isGood_58 : decode cX5_isGood 58 = .ok (.iconst 1, 1) := by decide +kernel
theorem dX5_isGood_59 : decode cX5_isGood 59 = .ok (.goto 4, 3) := by decide +kernel
theorem dX5_isGood_62 : decode cX5_isGood 62 = .ok (.iconst 0, 1) := by decide +kernel
theorem dX5_isGood_63 : decode cX5_isGood 63 = .ok (.ireturn, 1) := by decide +kernel
set_option maxRecDepth 20000 in
theorem ggX5_faultOf_X5_isGood : GoodIn wsX5_faultOf wsX5_isGood := goodIn_r _ [6, 7, 8, 9, 5, 10, 11, 12, 13] (by decide +kernel) (by decide +kernel)
set_option maxRecDepth 20000 in
theorem gX5_faultOf_X5_isGood : GoodIn wsX5_faultOf (va_wsS RX5 59 yX5_isGood wsX5_isGood) := goodIn_app (goodIn_of _ (by decide +kernel)) ggX5_faultOf_X5_isGood
theorem dX5_faultOf_0 : decode cX5_faultOf 0 = .ok (.iconst 0, 1) := by decide +kernel
theorem dX5_faultOf_1 : decode cX5_faultOf 1 = .ok (.istore_n 1, 1) := by decide +kernel
theorem dX5_faultOf_2 : decode cX5_faultOf 2 = .ok (.iload_n 1, 1) := by decide +kernel
theorem dX5_faultOf_3 : decode cX5_faultOf 3 = .ok (.aload_n 0, 1) := by decide +kernel
theorem dX5_faultOf_4 : decode cX5_faultOf 4 = .ok (.getfield 50, 3) := by decide +kernel
theorem dX5_faultOf_7 : decode cX5_faultOf 7 = .ok (.if_icmp .ge 22, 3) := by decide +kernel
theorem dX5_faultOf_10 : decode cX5_faultOf 10 = .ok (.iload_n 1, 1) := by decide +kernel
theorem dX5_faultOf_11 : decode cX5_faultOf 11 = .ok (.aload_n 0, 1) := by decide +kernel
theorem dX5_faultOf_12 : decode cX5_faultOf 12 = .ok (.getfield 7, 3) := by decide +kernel
theorem dX5_faultOf_15 : decode cX5_faultOf 15 = .ok (.iload_n 1, 1) := by decide +kernel
theorem dX5_faultOf_16 : decode cX5_faultOf 16 = .ok (.iaload, 1) := by decide +kernel
theorem dX5_faultOf_17 : decode cX5_faultOf 17 = .ok (.invokestatic 59, 3) := by decide +kernel
theorem dX5_faultOf_20 : decode cX5_faultOf 20 = .ok (.ifCond .eq 9, 3) := by decide +kernel
theorem dX5_faultOf_23 : decode cX5_faultOf 23 = .ok (.iinc 1 1, 3) := by decide +kernel
theorem dX5_faultOf_26 : decode cX5_faultOf 26 = .ok (.goto (-24), 3) := by decide +kernel
theorem dX5_faultOf_29 : decode cX5_faultOf 29 = .ok (.iload_n 1, 1) := by decide +kernel
theorem dX5_faultOf_30 : decode cX5_faultOf 30 = .ok (.ireturn, 1) := by decide +kernel
set_option maxRecDepth 20000 in
theorem ggX5_fault_X5_faultOf : GoodIn wsX5_fault wsX5_faultOf := goodIn_r _ [5, 6, 7, 8, 9, 4, 10, 11, 12, 13, 14, 15, 16, 17, 18, 19, 20, 21, 22, 23, 24, 25, 26, 27, 28, 29, 30, 31, 32, 33, 34, 35, 36, 37, 38, 39, 40, 41] (by decide +kernel) (by decide +kernel)
set_option maxRecDepth 20000 in
theorem gX5_fault_X5_faultOf : GoodIn wsX5_fault (wsV RX5 63 RX5 yX5_faultOf wsX5_faultOf) := goodIn_app (goodIn_of _ (by decide +kernel)) ggX5_fault_X5_faultOf
theorem dX5_fault_0 : decode cX5_fault 0 = .ok (.aload_n 0, 1) := by decide +kernel
theorem dX5_fault_1 : decode cX5_fault 1 = .ok (.invokevirtual 63, 3) := by decide +kernel
theorem dX5_fault_4 : decode cX5_fault 4 = .ok (.ireturn, 1) := by decide +kernel
set_option maxRecDepth 20000 in
theorem ggX5_office_X5_faultOf : GoodIn wsX5_office wsX5_faultOf := goodIn_r _ [13, 1, 3, 14, 15, 12, 16, 17, 18, 19, 20, 21, 22, 23, 24, 25, 26, 27, 28, 29, 30, 31, 32, 33, 34, 35, 36, 37, 38, 39, 40, 41, 42, 43, 44, 45, 46, 47] (by decide +kernel) (by decide +kernel)
set_option maxRecDepth 20000 in
theorem gX5_office_X5_faultOf : GoodIn wsX5_office (wsV RX5 63 RX5 yX5_faultOf wsX5_faultOf) := goodIn_app (goodIn_of _ (by decide +kernel)) ggX5_office_X5_faultOf
set_option maxRecDepth 20000 in
theorem ggX5_office_X5_kindBy : GoodIn wsX5_office wsX5_kindBy := goodIn_r _ [20] (by decide +kernel) (by decide +kernel)
set_option maxRecDepth 20000 in
theorem gX5_office_X5_kindBy : GoodIn wsX5_office (va_wsS RX5 53 yX5_kindBy wsX5_kindBy) := goodIn_app (goodIn_of _ (by decide +kernel)) ggX5_office_X5_kindBy
theorem dX5_office_0 : decode cX5_office 0 = .ok (.aload_n 0, 1) := by decide +kernel
theorem dX5_office_1 : decode cX5_office 1 = .ok (.getfield 50, 3) := by decide +kernel
theorem dX5_office_4 : decode cX5_office 4 = .ok (.iconst 5, 1) := by decide +kernel
theorem dX5_office_5 : decode cX5_office 5 = .ok (.if_icmp .lt 24, 3) := by decide +kernel
theorem dX5_office_8 : decode cX5_office 8 = .ok (.aload_n 0, 1) := by decide +kernel
theorem dX5_office_9 : decode cX5_office 9 = .ok (.getfield 50, 3) := by decide +kernel
theorem dX5_office_12 : decode cX5_office 12 = .ok (.iconst 3, 1) := by decide +kernel
theorem dX5_office_13 : decode cX5_office 13 = .ok (.irem, 1) := by decide +kernel
theorem dX5_office_14 : decode cX5_office 14 = .ok (.iconst 2, 1) := by decide +kernel
theorem dX5_office_15 : decode cX5_office 15 = .ok (.if_icmp .ne 14, 3) := by decide +kernel
theorem dX5_office_18 : decode cX5_office 18 = .ok (.aload_n 0, 1) := by decide +kernel
theorem dX5_office_19 : decode cX5_office 19 = .ok (.invokevirtual 63, 3) := by decide +kernel
theorem dX5_office_22 : decode cX5_office 22 = .ok (.aload_n 0, 1) := by decide +kernel
theorem dX5_office_23 : decode cX5_office 23 = .ok (.getfield 50, 3) := by decide +kernel
theorem dX5_office_26 : decode cX5_office 26 = .ok (.if_icmp .ge 6, 3) := by decide +kernel
theorem dX5_office_29 : decode cX5_office 29 = .ok (.bipush (-103), 2) := by decide +kernel
theorem dX5_office_31 : decode cX5_office 31 = .ok (.ireturn, 1) := by decide +kernel
theorem dX5_office_32 : decode cX5_office 32 = .ok (.aload_n 0, 1) := by decide +kernel
theorem dX5_office_33 : decode cX5_office 33 = .ok (.aload_n 0, 1) := by decide +kernel
theorem dX5_office_34 : decode cX5_office 34 = .ok (.getfield 50, 3) := by decide +kernel
theorem dX5_office_37 : decode cX5_office 37 = .ok (.iconst 1, 1) := by decide +kernel
theorem dX5_office_38 : decode cX5_office 38 = .ok (.iadd, 1) := by decide +kernel
theorem dX5_office_39 : decode cX5_office 39 = .ok (.iconst 3, 1) := by decide +kernel
theorem dX5_office_40 : decode cX5_office 40 = .ok (.idiv, 1) := by decide +kernel
theorem dX5_office_41 : decode cX5_office 41 = .ok (.putfield 67, 3) := by decide +kernel
theorem dX5_office_44 : decode cX5_office 44 = .ok (.iconst 0, 1) := by decide +kernel
theorem dX5_office_45 : decode cX5_office 45 = .ok (.istore_n 1, 1) := by decide +kernel
theorem dX5_office_46 : decode cX5_office 46 = .ok (.iload_n 1, 1) := by decide +kernel
theorem dX5_office_47 : decode cX5_office 47 = .ok (.aload_n 0, 1) := by decide +kernel
theorem dX5_office_48 : decode cX5_office 48 = .ok (.getfield 67, 3) := by decide +kernel
theorem dX5_office_51 : decode cX5_office 51 = .ok (.if_icmp .ge 79, 3) := by decide +kernel
theorem dX5_office_54 : decode cX5_office 54 = .ok (.aload_n 0, 1) := by decide +kernel
theorem dX5_office_55 : decode cX5_office 55 = .ok (.getfield 7, 3) := by decide +kernel
theorem dX5_office_58 : decode cX5_office 58 = .ok (.iconst 3, 1) := by decide +kernel
theorem dX5_office_59 : decode cX5_office 59 = .ok (.iload_n 1, 1) := by decide +kernel
theorem dX5_office_60 : decode cX5_office 60 = .ok (.imul, 1) := by decide +kernel
theorem dX5_office_61 : decode cX5_office 61 = .ok (.iaload, 1) := by decide +kernel
theorem dX5_office_62 : decode cX5_office 62 = .ok (.invokestatic 53, 3) := by decide +kernel
theorem dX5_office_65 : decode cX5_office 65 = .ok (.istore_n 2, 1) := by decide +kernel
theorem dX5_office_66 : decode cX5_office 66 = .ok (.aload_n 0, 1) := by decide +kernel
theorem dX5_office_67 : decode cX5_office 67 = .ok (.getfield 7, 3) := by decide +kernel
theorem dX5_office_70 : decode cX5_office 70 = .ok (.iconst 3, 1) := by decide +kernel
theorem dX5_office_71 : decode cX5_office 71 = .ok (.iload_n 1, 1) := by decide +kernel
theorem dX5_office_72 : decode cX5_office 72 = .ok (.imul, 1) := by decide +kernel
theorem dX5_office_73 : decode cX5_office 73 = .ok (.iconst 1, 1) := by decide +kernel
theorem dX5_office_74 : decode cX5_office 74 = .ok (.iadd, 1) := by decide +kernel
theorem dX5_office_75 : decode cX5_office 75 = .ok (.iaload, 1) := by decide +kernel
theorem dX5_office_76 : decode cX5_office 76 = .ok (.bipush 48, 2) := by decide +kernel
theorem dX5_office_78 : decode cX5_office 78 = .ok (.isub, 1) := by decide +kernel
theorem dX5_office_79 : decode cX5_office 79 = .ok (.istore_n 3, 1) := by decide +kernel
theorem dX5_office_80 : decode cX5_office 80 = .ok (.aload_n 0, 1) := by decide +kernel
theorem dX5_office_81 : decode cX5_office 81 = .ok (.getfield 13, 3) := by decide +kernel
theorem dX5_office_84 : decode cX5_office 84 = .ok (.iconst 3, 1) := by decide +kernel
theorem dX5_office_85 : decode cX5_office 85 = .ok (.iload_n 1, 1) := by decide +kernel
theorem dX5_office_86 : decode cX5_office 86 = .ok (.imul, 1) := by decide +kernel
theorem dX5_office_87 : decode cX5_office 87 = .ok (.iload_n 2, 1) := by decide +kernel
