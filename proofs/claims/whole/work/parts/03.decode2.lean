theorem dX11_feed_61 : decode cX11_feed 61 = .ok (.bipush 8, 2) := by decide +kernel
theorem dX11_feed_63 : decode cX11_feed 63 = .ok (.iload 5, 2) := by decide +kernel
theorem dX11_feed_65 : decode cX11_feed 65 = .ok (.imul, 1) := by decide +kernel
theorem dX11_feed_66 : decode cX11_feed 66 = .ok (.lshr, 1) := by decide +kernel
theorem dX11_feed_67 : decode cX11_feed 67 = .ok (.ldc2_w 270, 3) := by decide +kernel
theorem dX11_feed_70 : decode cX11_feed 70 = .ok (.land, 1) := by decide +kernel
theorem dX11_feed_71 : decode cX11_feed 71 = .ok (.l2i, 1) := by decide +kernel
theorem dX11_feed_72 : decode cX11_feed 72 = .ok (.iastore, 1) := by decide +kernel
theorem dX11_feed_73 : decode cX11_feed 73 = .ok (.aload_n 0, 1) := by decide +kernel
theorem dX11_feed_74 : decode cX11_feed 74 = .ok (.dup, 1) := by decide +kernel
theorem dX11_feed_75 : decode cX11_feed 75 = .ok (.getfield 267, 3) := by decide +kernel
theorem dX11_feed_78 : decode cX11_feed 78 = .ok (.iconst 1, 1) := by decide +kernel
theorem dX11_feed_79 : decode cX11_feed 79 = .ok (.iadd, 1) := by decide +kernel
theorem dX11_feed_80 : decode cX11_feed 80 = .ok (.putfield 267, 3) := by decide +kernel
theorem dX11_feed_83 : decode cX11_feed 83 = .ok (.iinc 5 1, 3) := by decide +kernel
theorem dX11_feed_86 : decode cX11_feed 86 = .ok (.goto (-40), 3) := by decide +kernel
theorem dX11_feed_89 : decode cX11_feed 89 = .ok (.aload_n 0, 1) := by decide +kernel
theorem dX11_feed_90 : decode cX11_feed 90 = .ok (.getfield 267, 3) := by decide +kernel
theorem dX11_feed_93 : decode cX11_feed 93 = .ok (.ireturn, 1) := by decide +kernel
theorem dX11_sign_0 : decode cX11_sign 0 = .ok (.aload_n 0, 1) := by decide +kernel
theorem dX11_sign_1 : decode cX11_sign 1 = .ok (.getfield 272, 3) := by decide +kernel
theorem dX11_sign_4 : decode cX11_sign 4 = .ok (.aload_n 0, 1) := by decide +kernel
theorem dX11_sign_5 : decode cX11_sign 5 = .ok (.getfield 267, 3) := by decide +kernel
theorem dX11_sign_8 : decode cX11_sign 8 = .ok (.if_icmp .ge 15, 3) := by decide +kernel
theorem dX11_sign_11 : decode cX11_sign 11 = .ok (.aload_n 0, 1) := by decide +kernel
theorem dX11_sign_12 : decode cX11_sign 12 = .ok (.getfield 43, 3) := by decide +kernel
theorem dX11_sign_15 : decode cX11_sign 15 = .ok (.aload_n 0, 1) := by decide +kernel
theorem dX11_sign_16 : decode cX11_sign 16 = .ok (.getfield 272, 3) := by decide +kernel
theorem dX11_sign_19 : decode cX11_sign 19 = .ok (.iaload, 1) := by decide +kernel
theorem dX11_sign_20 : decode cX11_sign 20 = .ok (.goto 4, 3) := by decide +kernel
theorem dX11_sign_23 : decode cX11_sign 23 = .ok (.iconst (-1), 1) := by decide +kernel
theorem dX11_sign_24 : decode cX11_sign 24 = .ok (.ireturn, 1) := by decide +kernel
theorem dX11_isDigit_0 : decode cX11_isDigit 0 = .ok (.iload_n 0, 1) := by decide +kernel
theorem dX11_isDigit_1 : decode cX11_isDigit 1 = .ok (.bipush 48, 2) := by decide +kernel
theorem dX11_isDigit_3 : decode cX11_isDigit 3 = .ok (.if_icmp .lt 13, 3) := by decide +kernel
theorem dX11_isDigit_6 : decode cX11_isDigit 6 = .ok (.iload_n 0, 1) := by decide +kernel
theorem dX11_isDigit_7 : decode cX11_isDigit 7 = .ok (.bipush 57, 2) := by decide +kernel
theorem dX11_isDigit_9 : decode cX11_isDigit 9 = .ok (.if_icmp .gt 7, 3) := by decide +kernel
theorem dX11_isDigit_12 : decode cX11_isDigit 12 = .ok (.iconst 1, 1) := by decide +kernel
theorem dX11_isDigit_13 : decode cX11_isDigit 13 = .ok (.goto 4, 3) := by decide +kernel
theorem dX11_isDigit_16 : decode cX11_isDigit 16 = .ok (.iconst 0, 1) := by decide +kernel
theorem dX11_isDigit_17 : decode cX11_isDigit 17 = .ok (.ireturn, 1) := by decide +kernel
theorem dX11_isLetter_0 : decode cX11_isLetter 0 = .ok (.iload_n 0, 1) := by decide +kernel
theorem dX11_isLetter_1 : decode cX11_isLetter 1 = .ok (.bipush 110, 2) := by decide +kernel
theorem dX11_isLetter_3 : decode cX11_isLetter 3 = .ok (.if_icmp .eq 45, 3) := by decide +kernel
theorem dX11_isLetter_6 : decode cX11_isLetter 6 = .ok (.iload_n 0, 1) := by decide +kernel
theorem dX11_isLetter_7 : decode cX11_isLetter 7 = .ok (.bipush 107, 2) := by decide +kernel
theorem dX11_isLetter_9 : decode cX11_isLetter 9 = .ok (.if_icmp .eq 39, 3) := by decide +kernel
theorem dX11_isLetter_12 : decode cX11_isLetter 12 = .ok (.iload_n 0, 1) := by decide +kernel
theorem dX11_isLetter_13 : decode cX11_isLetter 13 = .ok (.bipush 111, 2) := by decide +kernel
theorem dX11_isLetter_15 : decode cX11_isLetter 15 = .ok (.if_icmp .eq 33, 3) := by decide +kernel
theorem dX11_isLetter_18 : decode cX11_isLetter 18 = .ok (.iload_n 0, 1) := by decide +kernel
theorem dX11_isLetter_19 : decode cX11_isLetter 19 = .ok (.bipush 115, 2) := by decide +kernel
theorem dX11_isLetter_21 : decode cX11_isLetter 21 = .ok (.if_icmp .eq 27, 3) := by decide +kernel
theorem dX11_isLetter_24 : decode cX11_isLetter 24 = .ok (.iload_n 0, 1) := by decide +kernel
theorem dX11_isLetter_25 : decode cX11_isLetter 25 = .ok (.bipush 100, 2) := by decide +kernel
theorem dX11_isLetter_27 : decode cX11_isLetter 27 = .ok (.if_icmp .eq 21, 3) := by decide +kernel
theorem dX11_isLetter_30 : decode cX11_isLetter 30 = .ok (.iload_n 0, 1) := by decide +kernel
theorem dX11_isLetter_31 : decode cX11_isLetter 31 = .ok (.bipush 97, 2) := by decide +kernel
theorem dX11_isLetter_33 : decode cX11_isLetter 33 = .ok (.if_icmp .eq 15, 3) := by decide +kernel
theorem dX11_isLetter_36 : decode cX11_isLetter 36 = .ok (.iload_n 0, 1) := by decide +kernel
theorem dX11_isLetter_37 : decode cX11_isLetter 37 = .ok (.bipush 116, 2) := by decide +kernel
theorem dX11_isLetter_39 : decode cX11_isLetter 39 = .ok (.if_icmp .eq 9, 3) := by decide +kernel
theorem dX11_isLetter_42 : decode cX11_isLetter 42 = .ok (.iload_n 0, 1) := by decide +kernel
theorem dX11_isLetter_43 : decode cX11_isLetter 43 = .ok (.bipush 99, 2) := by decide +kernel
theorem dX11_isLetter_45 : decode cX11_isLetter 45 = .ok (.if_icmp .ne 7, 3) := by decide +kernel
theorem dX11_isLetter_48 : decode cX11_isLetter 48 = .ok (.iconst 1, 1) := by decide +kernel
theorem dX11_isLetter_49 : decode cX11_isLetter 49 = .ok (.goto 4, 3) := by decide +kernel
theorem dX11_isLetter_52 : decode cX11_isLetter 52 = .ok (.iconst 0, 1) := by decide +kernel
theorem dX11_isLetter_53 : decode cX11_isLetter 53 = .ok (.ireturn, 1) := by decide +kernel
theorem dX11_isCompare_0 : decode cX11_isCompare 0 = .ok (.iload_n 0, 1) := by decide +kernel
theorem dX11_isCompare_1 : decode cX11_isCompare 1 = .ok (.bipush 60, 2) := by decide +kernel
theorem dX11_isCompare_3 : decode cX11_isCompare 3 = .ok (.if_icmp .eq 15, 3) := by decide +kernel
theorem dX11_isCompare_6 : decode cX11_isCompare 6 = .ok (.iload_n 0, 1) := by decide +kernel
theorem dX11_isCompare_7 : decode cX11_isCompare 7 = .ok (.bipush 61, 2) := by decide +kernel
theorem dX11_isCompare_9 : decode cX11_isCompare 9 = .ok (.if_icmp .eq 9, 3) := by decide +kernel
theorem dX11_isCompare_12 : decode cX11_isCompare 12 = .ok (.iload_n 0, 1) := by decide +kernel
theorem dX11_isCompare_13 : decode cX11_isCompare 13 = .ok (.bipush 62, 2) := by decide +kernel
theorem dX11_isCompare_15 : decode cX11_isCompare 15 = .ok (.if_icmp .ne 7, 3) := by decide +kernel
theorem dX11_isCompare_18 : decode cX11_isCompare 18 = .ok (.iconst 1, 1) := by decide +kernel
theorem dX11_isCompare_19 : decode cX11_isCompare 19 = .ok (.goto 4, 3) := by decide +kernel
theorem dX11_isCompare_22 : decode cX11_isCompare 22 = .ok (.iconst 0, 1) := by decide +kernel
theorem dX11_isCompare_23 : decode cX11_isCompare 23 = .ok (.ireturn, 1) := by decide +kernel
theorem dX11_parses_0 : decode cX11_parses 0 = .ok (.aload_n 0, 1) := by decide +kernel
theorem dX11_parses_1 : decode cX11_parses 1 = .ok (.iconst 0, 1) := by decide +kernel
theorem dX11_parses_2 : decode cX11_parses 2 = .ok (.putfield 272, 3) := by decide +kernel
theorem dX11_parses_5 : decode cX11_parses 5 = .ok (.iconst 0, 1) := by decide +kernel
theorem dX11_parses_6 : decode cX11_parses 6 = .ok (.istore_n 1, 1) := by decide +kernel
theorem dX11_parses_7 : decode cX11_parses 7 = .ok (.iconst 0, 1) := by decide +kernel
theorem dX11_parses_8 : decode cX11_parses 8 = .ok (.istore_n 2, 1) := by decide +kernel
theorem dX11_parses_9 : decode cX11_parses 9 = .ok (.aload_n 0, 1) := by decide +kernel
theorem dX11_parses_10 : decode cX11_parses 10 = .ok (.invokevirtual 275, 3) := by decide +kernel
theorem dX11_parses_13 : decode cX11_parses 13 = .ok (.bipush 40, 2) := by decide +kernel
theorem dX11_parses_15 : decode cX11_parses 15 = .ok (.if_icmp .ne 34, 3) := by decide +kernel
theorem dX11_parses_18 : decode cX11_parses 18 = .ok (.iload_n 1, 1) := by decide +kernel
theorem dX11_parses_19 : decode cX11_parses 19 = .ok (.iconst 5, 1) := by decide +kernel
theorem dX11_parses_20 : decode cX11_parses 20 = .ok (.if_icmp .ne 5, 3) := by decide +kernel
theorem dX11_parses_23 : decode cX11_parses 23 = .ok (.iconst 0, 1) := by decide +kernel
theorem dX11_parses_24 : decode cX11_parses 24 = .ok (.ireturn, 1) := by decide +kernel
theorem dX11_parses_25 : decode cX11_parses 25 = .ok (.iinc 1 1, 3) := by decide +kernel
theorem dX11_parses_28 : decode cX11_parses 28 = .ok (.iload_n 2, 1) := by decide +kernel
theorem dX11_parses_29 : decode cX11_parses 29 = .ok (.iconst 1, 1) := by decide +kernel
theorem dX11_parses_30 : decode cX11_parses 30 = .ok (.iload_n 1, 1) := by decide +kernel
theorem dX11_parses_31 : decode cX11_parses 31 = .ok (.ishl, 1) := by decide +kernel
theorem dX11_parses_32 : decode cX11_parses 32 = .ok (.iconst (-1), 1) := by decide +kernel
theorem dX11_parses_33 : decode cX11_parses 33 = .ok (.ixor, 1) := by decide +kernel
theorem dX11_parses_34 : decode cX11_parses 34 = .ok (.iand, 1) := by decide +kernel
theorem dX11_parses_35 : decode cX11_parses 35 = .ok (.istore_n 2, 1) := by decide +kernel
theorem dX11_parses_36 : decode cX11_parses 36 = .ok (.aload_n 0, 1) := by decide +kernel
theorem dX11_parses_37 : decode cX11_parses 37 = .ok (.dup, 1) := by decide +kernel
theorem dX11_parses_38 : decode cX11_parses 38 = .ok (.getfield 272, 3) := by decide +kernel
theorem dX11_parses_41 : decode cX11_parses 41 = .ok (.iconst 1, 1) := by decide +kernel
theorem dX11_parses_42 : decode cX11_parses 42 = .ok (.iadd, 1) := by decide +kernel
theorem dX11_parses_43 : decode cX11_parses 43 = .ok (.putfield 272, 3) := by decide +kernel
theorem dX11_parses_46 : decode cX11_parses 46 = .ok (.goto (-37), 3) := by decide +kernel
theorem dX11_parses_49 : decode cX11_parses 49 = .ok (.aload_n 0, 1) := by decide +kernel
theorem dX11_parses_50 : decode cX11_parses 50 = .ok (.invokevirtual 275, 3) := by decide +kernel
theorem dX11_parses_53 : decode cX11_parses 53 = .ok (.invokestatic 279, 3) := by decide +kernel
theorem dX11_parses_56 : decode cX11_parses 56 = .ok (.ifCond .eq 16, 3) := by decide +kernel
theorem dX11_parses_59 : decode cX11_parses 59 = .ok (.aload_n 0, 1) := by decide +kernel
theorem dX11_parses_60 : decode cX11_parses 60 = .ok (.dup, 1) := by decide +kernel
theorem dX11_parses_61 : decode cX11_parses 61 = .ok (.getfield 272, 3) := by decide +kernel
theorem dX11_parses_64 : decode cX11_parses 64 = .ok (.iconst 1, 1) := by decide +kernel
theorem dX11_parses_65 : decode cX11_parses 65 = .ok (.iadd, 1) := by decide +kernel
theorem dX11_parses_66 : decode cX11_parses 66 = .ok (.putfield 272, 3) := by decide +kernel
theorem dX11_parses_69 : decode cX11_parses 69 = .ok (.goto 48, 3) := by decide +kernel
theorem dX11_parses_72 : decode cX11_parses 72 = .ok (.aload_n 0, 1) := by decide +kernel
theorem dX11_parses_73 : decode cX11_parses 73 = .ok (.invokevirtual 275, 3) := by decide +kernel
theorem dX11_parses_76 : decode cX11_parses 76 = .ok (.invokestatic 282, 3) := by decide +kernel
theorem dX11_parses_79 : decode cX11_parses 79 = .ok (.ifCond .ne 5, 3) := by decide +kernel
theorem dX11_parses_82 : decode cX11_parses 82 = .ok (.iconst 0, 1) := by decide +kernel
theorem dX11_parses_83 : decode cX11_parses 83 = .ok (.ireturn, 1) := by decide +kernel
theorem dX11_parses_84 : decode cX11_parses 84 = .ok (.iconst 0, 1) := by decide +kernel
theorem dX11_parses_85 : decode cX11_parses 85 = .ok (.istore_n 3, 1) := by decide +kernel
theorem dX11_parses_86 : decode cX11_parses 86 = .ok (.iload_n 3, 1) := by decide +kernel
theorem dX11_parses_87 : decode cX11_parses 87 = .ok (.iconst 4, 1) := by decide +kernel
theorem dX11_parses_88 : decode cX11_parses 88 = .ok (.if_icmp .ge 29, 3) := by decide +kernel
theorem dX11_parses_91 : decode cX11_parses 91 = .ok (.aload_n 0, 1) := by decide +kernel
theorem dX11_parses_92 : decode cX11_parses 92 = .ok (.invokevirtual 275, 3) := by decide +kernel
theorem dX11_parses_95 : decode cX11_parses 95 = .ok (.invokestatic 282, 3) := by decide +kernel
theorem dX11_parses_98 : decode cX11_parses 98 = .ok (.ifCond .eq 19, 3) := by decide +kernel
theorem dX11_parses_101 : decode cX11_parses 101 = .ok (.aload_n 0, 1) := by decide +kernel
theorem dX11_parses_102 : decode cX11_parses 102 = .ok (.dup, 1) := by decide +kernel
theorem dX11_parses_103 : decode cX11_parses 103 = .ok (.getfield 272, 3) := by decide +kernel
theorem dX11_parses_106 : decode cX11_parses 106 = .ok (.iconst 1, 1) := by decide +kernel
theorem dX11_parses_107 : decode cX11_parses 107 = .ok (.iadd, 1) := by decide +kernel
theorem dX11_parses_108 : decode cX11_parses 108 = .ok (.putfield 272, 3) := by decide +kernel
theorem dX11_parses_111 : decode cX11_parses 111 = .ok (.iinc 3 1, 3) := by decide +kernel
theorem dX11_parses_114 : decode cX11_parses 114 = .ok (.goto (-28), 3) := by decide +kernel
theorem dX11_parses_117 : decode cX11_parses 117 = .ok (.aload_n 0, 1) := by decide +kernel
theorem dX11_parses_118 : decode cX11_parses 118 = .ok (.invokevirtual 275, 3) := by decide +kernel
theorem dX11_parses_121 : decode cX11_parses 121 = .ok (.bipush 41, 2) := by decide +kernel
theorem dX11_parses_123 : decode cX11_parses 123 = .ok (.if_icmp .ne 23, 3) := by decide +kernel
theorem dX11_parses_126 : decode cX11_parses 126 = .ok (.iload_n 1, 1) := by decide +kernel
theorem dX11_parses_127 : decode cX11_parses 127 = .ok (.ifCond .le 19, 3) := by decide +kernel
theorem dX11_parses_130 : decode cX11_parses 130 = .ok (.aload_n 0, 1) := by decide +kernel
theorem dX11_parses_131 : decode cX11_parses 131 = .ok (.dup, 1) := by decide +kernel
theorem dX11_parses_132 : decode cX11_parses 132 = .ok (.getfield 272, 3) := by decide +kernel
theorem dX11_parses_135 : decode cX11_parses 135 = .ok (.iconst 1, 1) := by decide +kernel
theorem dX11_parses_136 : decode cX11_parses 136 = .ok (.iadd, 1) := by decide +kernel
theorem dX11_parses_137 : decode cX11_parses 137 = .ok (.putfield 272, 3) := by decide +kernel
theorem dX11_parses_140 : decode cX11_parses 140 = .ok (.iinc 1 (-1), 3) := by decide +kernel
theorem dX11_parses_143 : decode cX11_parses 143 = .ok (.goto (-26), 3) := by decide +kernel
theorem dX11_parses_146 : decode cX11_parses 146 = .ok (.aload_n 0, 1) := by decide +kernel
theorem dX11_parses_147 : decode cX11_parses 147 = .ok (.invokevirtual 275, 3) := by decide +kernel
theorem dX11_parses_150 : decode cX11_parses 150 = .ok (.istore_n 3, 1) := by decide +kernel
theorem dX11_parses_151 : decode cX11_parses 151 = .ok (.iload_n 3, 1) := by decide +kernel
theorem dX11_parses_152 : decode cX11_parses 152 = .ok (.iconst (-1), 1) := by decide +kernel
theorem dX11_parses_153 : decode cX11_parses 153 = .ok (.if_icmp .ne 9, 3) := by decide +kernel
theorem dX11_parses_156 : decode cX11_parses 156 = .ok (.iload_n 1, 1) := by decide +kernel
theorem dX11_parses_157 : decode cX11_parses 157 = .ok (.ifCond .ne 5, 3) := by decide +kernel
theorem dX11_parses_160 : decode cX11_parses 160 = .ok (.iconst 1, 1) := by decide +kernel
theorem dX11_parses_161 : decode cX11_parses 161 = .ok (.ireturn, 1) := by decide +kernel
theorem dX11_parses_162 : decode cX11_parses 162 = .ok (.iload_n 3, 1) := by decide +kernel
theorem dX11_parses_163 : decode cX11_parses 163 = .ok (.invokestatic 285, 3) := by decide +kernel
theorem dX11_parses_166 : decode cX11_parses 166 = .ok (.ifCond .eq 24, 3) := by decide +kernel
theorem dX11_parses_169 : decode cX11_parses 169 = .ok (.iload_n 1, 1) := by decide +kernel
theorem dX11_parses_170 : decode cX11_parses 170 = .ok (.ifCond .le 20, 3) := by decide +kernel
theorem dX11_parses_173 : decode cX11_parses 173 = .ok (.iload_n 2, 1) := by decide +kernel
theorem dX11_parses_174 : decode cX11_parses 174 = .ok (.iload_n 1, 1) := by decide +kernel
theorem dX11_parses_175 : decode cX11_parses 175 = .ok (.ishr, 1) := by decide +kernel
theorem dX11_parses_176 : decode cX11_parses 176 = .ok (.iconst 1, 1) := by decide +kernel
theorem dX11_parses_177 : decode cX11_parses 177 = .ok (.iand, 1) := by decide +kernel
theorem dX11_parses_178 : decode cX11_parses 178 = .ok (.ifCond .ne 12, 3) := by decide +kernel
theorem dX11_parses_181 : decode cX11_parses 181 = .ok (.iload_n 2, 1) := by decide +kernel
theorem dX11_parses_182 : decode cX11_parses 182 = .ok (.iconst 1, 1) := by decide +kernel
theorem dX11_parses_183 : decode cX11_parses 183 = .ok (.iload_n 1, 1) := by decide +kernel
theorem dX11_parses_184 : decode cX11_parses 184 = .ok (.ishl, 1) := by decide +kernel
theorem dX11_parses_185 : decode cX11_parses 185 = .ok (.ior, 1) := by decide +kernel
theorem dX11_parses_186 : decode cX11_parses 186 = .ok (.istore_n 2, 1) := by decide +kernel
theorem dX11_parses_187 : decode cX11_parses 187 = .ok (.goto 29, 3) := by decide +kernel
theorem dX11_parses_190 : decode cX11_parses 190 = .ok (.iload_n 3, 1) := by decide +kernel
theorem dX11_parses_191 : decode cX11_parses 191 = .ok (.bipush 43, 2) := by decide +kernel
theorem dX11_parses_193 : decode cX11_parses 193 = .ok (.if_icmp .eq 23, 3) := by decide +kernel
theorem dX11_parses_196 : decode cX11_parses 196 = .ok (.iload_n 3, 1) := by decide +kernel
theorem dX11_parses_197 : decode cX11_parses 197 = .ok (.bipush 45, 2) := by decide +kernel
theorem dX11_parses_199 : decode cX11_parses 199 = .ok (.if_icmp .eq 17, 3) := by decide +kernel
theorem dX11_parses_202 : decode cX11_parses 202 = .ok (.iload_n 3, 1) := by decide +kernel
theorem dX11_parses_203 : decode cX11_parses 203 = .ok (.bipush 42, 2) := by decide +kernel
theorem dX11_parses_205 : decode cX11_parses 205 = .ok (.if_icmp .eq 11, 3) := by decide +kernel
theorem dX11_parses_208 : decode cX11_parses 208 = .ok (.iload_n 3, 1) := by decide +kernel
theorem dX11_parses_209 : decode cX11_parses 209 = .ok (.bipush 47, 2) := by decide +kernel
theorem dX11_parses_211 : decode cX11_parses 211 = .ok (.if_icmp .eq 5, 3) := by decide +kernel
theorem dX11_parses_214 : decode cX11_parses 214 = .ok (.iconst 0, 1) := by decide +kernel
theorem dX11_parses_215 : decode cX11_parses 215 = .ok (.ireturn, 1) := by decide +kernel
theorem dX11_parses_216 : decode cX11_parses 216 = .ok (.aload_n 0, 1) := by decide +kernel
theorem dX11_parses_217 : decode cX11_parses 217 = .ok (.dup, 1) := by decide +kernel
theorem dX11_parses_218 : decode cX11_parses 218 = .ok (.getfield 272, 3) := by decide +kernel
theorem dX11_parses_221 : decode cX11_parses 221 = .ok (.iconst 1, 1) := by decide +kernel
theorem dX11_parses_222 : decode cX11_parses 222 = .ok (.iadd, 1) := by decide +kernel
theorem dX11_parses_223 : decode cX11_parses 223 = .ok (.putfield 272, 3) := by decide +kernel
theorem dX11_parses_226 : decode cX11_parses 226 = .ok (.goto (-217), 3) := by decide +kernel
theorem dX11_rule_0 : decode cX11_rule 0 = .ok (.iload_n 1, 1) := by decide +kernel
theorem dX11_rule_1 : decode cX11_rule 1 = .ok (.i2l, 1) := by decide +kernel
theorem dX11_rule_2 : decode cX11_rule 2 = .ok (.lconst 0, 1) := by decide +kernel
theorem dX11_rule_3 : decode cX11_rule 3 = .ok (.lconst 1, 1) := by decide +kernel
theorem dX11_rule_4 : decode cX11_rule 4 = .ok (.invokestatic 226, 3) := by decide +kernel
theorem dX11_rule_7 : decode cX11_rule 7 = .ok (.ifCond .ne 10, 3) := by decide +kernel
theorem dX11_rule_10 : decode cX11_rule 10 = .ok (.aload_n 0, 1) := by decide +kernel
theorem dX11_rule_11 : decode cX11_rule 11 = .ok (.bipush (-2), 2) := by decide +kernel
theorem dX11_rule_13 : decode cX11_rule 13 = .ok (.invokevirtual 207, 3) := by decide +kernel
theorem dX11_rule_16 : decode cX11_rule 16 = .ok (.ireturn, 1) := by decide +kernel
theorem dX11_rule_17 : decode cX11_rule 17 = .ok (.iload_n 2, 1) := by decide +kernel
theorem dX11_rule_18 : decode cX11_rule 18 = .ok (.aload_n 0, 1) := by decide +kernel
theorem dX11_rule_19 : decode cX11_rule 19 = .ok (.getfield 200, 3) := by decide +kernel
theorem dX11_rule_22 : decode cX11_rule 22 = .ok (.if_icmp .ge 8, 3) := by decide +kernel
theorem dX11_rule_25 : decode cX11_rule 25 = .ok (.bipush (-4), 2) := by decide +kernel
theorem dX11_rule_27 : decode cX11_rule 27 = .ok (.goto 25, 3) := by decide +kernel
theorem dX11_rule_30 : decode cX11_rule 30 = .ok (.iload_n 2, 1) := by decide +kernel
theorem dX11_rule_31 : decode cX11_rule 31 = .ok (.sipush 999, 3) := by decide +kernel
theorem dX11_rule_34 : decode cX11_rule 34 = .ok (.if_icmp .gt 12, 3) := by decide +kernel
theorem dX11_rule_37 : decode cX11_rule 37 = .ok (.aload_n 0, 1) := by decide +kernel
theorem dX11_rule_38 : decode cX11_rule 38 = .ok (.getfield 288, 3) := by decide +kernel
theorem dX11_rule_41 : decode cX11_rule 41 = .ok (.bipush 30, 2) := by decide +kernel
theorem dX11_rule_43 : decode cX11_rule 43 = .ok (.if_icmp .ne 8, 3) := by decide +kernel
theorem dX11_rule_46 : decode cX11_rule 46 = .ok (.bipush (-6), 2) := by decide +kernel
theorem dX11_rule_48 : decode cX11_rule 48 = .ok (.goto 4, 3) := by decide +kernel
theorem dX11_rule_51 : decode cX11_rule 51 = .ok (.iconst 0, 1) := by decide +kernel
theorem dX11_rule_52 : decode cX11_rule 52 = .ok (.istore_n 3, 1) := by decide +kernel
theorem dX11_rule_53 : decode cX11_rule 53 = .ok (.iload_n 3, 1) := by decide +kernel
theorem dX11_rule_54 : decode cX11_rule 54 = .ok (.ifCond .eq 9, 3) := by decide +kernel
theorem dX11_rule_57 : decode cX11_rule 57 = .ok (.aload_n 0, 1) := by decide +kernel
theorem dX11_rule_58 : decode cX11_rule 58 = .ok (.iload_n 3, 1) := by decide +kernel
theorem dX11_rule_59 : decode cX11_rule 59 = .ok (.invokevirtual 207, 3) := by decide +kernel
theorem dX11_rule_62 : decode cX11_rule 62 = .ok (.ireturn, 1) := by decide +kernel
theorem dX11_rule_63 : decode cX11_rule 63 = .ok (.aload_n 0, 1) := by decide +kernel
theorem dX11_rule_64 : decode cX11_rule 64 = .ok (.invokevirtual 291, 3) := by decide +kernel
theorem dX11_rule_67 : decode cX11_rule 67 = .ok (.istore 4, 2) := by decide +kernel
theorem dX11_rule_69 : decode cX11_rule 69 = .ok (.aload_n 0, 1) := by decide +kernel
theorem dX11_rule_70 : decode cX11_rule 70 = .ok (.getfield 267, 3) := by decide +kernel
theorem dX11_rule_73 : decode cX11_rule 73 = .ok (.istore 5, 2) := by decide +kernel
theorem dX11_rule_75 : decode cX11_rule 75 = .ok (.aload_n 0, 1) := by decide +kernel
theorem dX11_rule_76 : decode cX11_rule 76 = .ok (.iconst 0, 1) := by decide +kernel
theorem dX11_rule_77 : decode cX11_rule 77 = .ok (.putfield 267, 3) := by decide +kernel
theorem dX11_rule_80 : decode cX11_rule 80 = .ok (.iload 4, 2) := by decide +kernel
theorem dX11_rule_82 : decode cX11_rule 82 = .ok (.ifCond .ne 11, 3) := by decide +kernel
theorem dX11_rule_85 : decode cX11_rule 85 = .ok (.bipush (-20), 2) := by decide +kernel
theorem dX11_rule_87 : decode cX11_rule 87 = .ok (.aload_n 0, 1) := by decide +kernel
theorem dX11_rule_88 : decode cX11_rule 88 = .ok (.getfield 272, 3) := by decide +kernel
theorem dX11_rule_91 : decode cX11_rule 91 = .ok (.isub, 1) := by decide +kernel
theorem dX11_rule_92 : decode cX11_rule 92 = .ok (.ireturn, 1) := by decide +kernel
theorem dX11_rule_93 : decode cX11_rule 93 = .ok (.iconst 0, 1) := by decide +kernel
theorem dX11_rule_94 : decode cX11_rule 94 = .ok (.istore 6, 2) := by decide +kernel
theorem dX11_rule_96 : decode cX11_rule 96 = .ok (.iload 6, 2) := by decide +kernel
theorem dX11_rule_98 : decode cX11_rule 98 = .ok (.iload 5, 2) := by decide +kernel
theorem dX11_rule_100 : decode cX11_rule 100 = .ok (.if_icmp .ge 31, 3) := by decide +kernel
theorem dX11_rule_103 : decode cX11_rule 103 = .ok (.aload_n 0, 1) := by decide +kernel
theorem dX11_rule_104 : decode cX11_rule 104 = .ok (.getfield 46, 3) := by decide +kernel
theorem dX11_rule_107 : decode cX11_rule 107 = .ok (.bipush 60, 2) := by decide +kernel
theorem dX11_rule_109 : decode cX11_rule 109 = .ok (.aload_n 0, 1) := by decide +kernel
theorem dX11_rule_110 : decode cX11_rule 110 = .ok (.getfield 288, 3) := by decide +kernel
theorem dX11_rule_113 : decode cX11_rule 113 = .ok (.imul, 1) := by decide +kernel
theorem dX11_rule_114 : decode cX11_rule 114 = .ok (.iload 6, 2) := by decide +kernel
theorem dX11_rule_116 : decode cX11_rule 116 = .ok (.iadd, 1) := by decide +kernel
theorem dX11_rule_117 : decode cX11_rule 117 = .ok (.aload_n 0, 1) := by decide +kernel
theorem dX11_rule_118 : decode cX11_rule 118 = .ok (.getfield 43, 3) := by decide +kernel
theorem dX11_rule_121 : decode cX11_rule 121 = .ok (.iload 6, 2) := by decide +kernel
theorem dX11_rule_123 : decode cX11_rule 123 = .ok (.iaload, 1) := by decide +kernel
theorem dX11_rule_124 : decode cX11_rule 124 = .ok (.iastore, 1) := by decide +kernel
theorem dX11_rule_125 : decode cX11_rule 125 = .ok (.iinc 6 1, 3) := by decide +kernel
theorem dX11_rule_128 : decode cX11_rule 128 = .ok (.goto (-32), 3) := by decide +kernel
theorem dX11_rule_131 : decode cX11_rule 131 = .ok (.aload_n 0, 1) := by decide +kernel
theorem dX11_rule_132 : decode cX11_rule 132 = .ok (.getfield 49, 3) := by decide +kernel
theorem dX11_rule_135 : decode cX11_rule 135 = .ok (.aload_n 0, 1) := by decide +kernel
theorem dX11_rule_136 : decode cX11_rule 136 = .ok (.getfield 288, 3) := by decide +kernel
theorem dX11_rule_139 : decode cX11_rule 139 = .ok (.iload 5, 2) := by decide +kernel
theorem dX11_rule_141 : decode cX11_rule 141 = .ok (.iastore, 1) := by decide +kernel
theorem dX11_rule_142 : decode cX11_rule 142 = .ok (.aload_n 0, 1) := by decide +kernel
theorem dX11_rule_143 : decode cX11_rule 143 = .ok (.getfield 52, 3) := by decide +kernel
theorem dX11_rule_146 : decode cX11_rule 146 = .ok (.aload_n 0, 1) := by decide +kernel
theorem dX11_rule_147 : decode cX11_rule 147 = .ok (.getfield 288, 3) := by decide +kernel
theorem dX11_rule_150 : decode cX11_rule 150 = .ok (.iload_n 1, 1) := by decide +kernel
theorem dX11_rule_151 : decode cX11_rule 151 = .ok (.iastore, 1) := by decide +kernel
theorem dX11_rule_152 : decode cX11_rule 152 = .ok (.aload_n 0, 1) := by decide +kernel
theorem dX11_rule_153 : decode cX11_rule 153 = .ok (.getfield 55, 3) := by decide +kernel
theorem dX11_rule_156 : decode cX11_rule 156 = .ok (.aload_n 0, 1) := by decide +kernel
theorem dX11_rule_157 : decode cX11_rule 157 = .ok (.getfield 288, 3) := by decide +kernel
theorem dX11_rule_160 : decode cX11_rule 160 = .ok (.iload_n 2, 1) := by decide +kernel
theorem dX11_rule_161 : decode cX11_rule 161 = .ok (.iastore, 1) := by decide +kernel
theorem dX11_rule_162 : decode cX11_rule 162 = .ok (.aload_n 0, 1) := by decide +kernel
theorem dX11_rule_163 : decode cX11_rule 163 = .ok (.dup, 1) := by decide +kernel
theorem dX11_rule_164 : decode cX11_rule 164 = .ok (.getfield 288, 3) := by decide +kernel
theorem dX11_rule_167 : decode cX11_rule 167 = .ok (.iconst 1, 1) := by decide +kernel
theorem dX11_rule_168 : decode cX11_rule 168 = .ok (.iadd, 1) := by decide +kernel
theorem dX11_rule_169 : decode cX11_rule 169 = .ok (.putfield 288, 3) := by decide +kernel
theorem dX11_rule_172 : decode cX11_rule 172 = .ok (.aload_n 0, 1) := by decide +kernel
theorem dX11_rule_173 : decode cX11_rule 173 = .ok (.getfield 288, 3) := by decide +kernel
theorem dX11_rule_176 : decode cX11_rule 176 = .ok (.ireturn, 1) := by decide +kernel
theorem dX11_held_0 : decode cX11_held 0 = .ok (.lload_n 0, 1) := by decide +kernel
theorem dX11_held_1 : decode cX11_held 1 = .ok (.ldc2_w 295, 3) := by decide +kernel
theorem dX11_held_4 : decode cX11_held 4 = .ok (.lcmp, 1) := by decide +kernel
theorem dX11_held_5 : decode cX11_held 5 = .ok (.ifCond .ge 9, 3) := by decide +kernel
theorem dX11_held_8 : decode cX11_held 8 = .ok (.ldc2_w 295, 3) := by decide +kernel
theorem dX11_held_11 : decode cX11_held 11 = .ok (.goto 18, 3) := by decide +kernel
theorem dX11_held_14 : decode cX11_held 14 = .ok (.lload_n 0, 1) := by decide +kernel
theorem dX11_held_15 : decode cX11_held 15 = .ok (.ldc2_w 297, 3) := by decide +kernel
theorem dX11_held_18 : decode cX11_held 18 = .ok (.lcmp, 1) := by decide +kernel
theorem dX11_held_19 : decode cX11_held 19 = .ok (.ifCond .le 9, 3) := by decide +kernel
theorem dX11_held_22 : decode cX11_held 22 = .ok (.ldc2_w 297, 3) := by decide +kernel
theorem dX11_held_25 : decode cX11_held 25 = .ok (.goto 4, 3) := by decide +kernel
theorem dX11_held_28 : decode cX11_held 28 = .ok (.lload_n 0, 1) := by decide +kernel
theorem dX11_held_29 : decode cX11_held 29 = .ok (.lreturn, 1) := by decide +kernel
theorem dX11_rank_0 : decode cX11_rank 0 = .ok (.iload_n 0, 1) := by decide +kernel
theorem dX11_rank_1 : decode cX11_rank 1 = .ok (.bipush 40, 2) := by decide +kernel
theorem dX11_rank_3 : decode cX11_rank 3 = .ok (.if_icmp .ne 7, 3) := by decide +kernel
theorem dX11_rank_6 : decode cX11_rank 6 = .ok (.iconst 0, 1) := by decide +kernel
theorem dX11_rank_7 : decode cX11_rank 7 = .ok (.goto 36, 3) := by decide +kernel
theorem dX11_rank_10 : decode cX11_rank 10 = .ok (.iload_n 0, 1) := by decide +kernel
theorem dX11_rank_11 : decode cX11_rank 11 = .ok (.bipush 42, 2) := by decide +kernel
theorem dX11_rank_13 : decode cX11_rank 13 = .ok (.if_icmp .eq 9, 3) := by decide +kernel
theorem dX11_rank_16 : decode cX11_rank 16 = .ok (.iload_n 0, 1) := by decide +kernel
theorem dX11_rank_17 : decode cX11_rank 17 = .ok (.bipush 47, 2) := by decide +kernel
theorem dX11_rank_19 : decode cX11_rank 19 = .ok (.if_icmp .ne 7, 3) := by decide +kernel
theorem dX11_rank_22 : decode cX11_rank 22 = .ok (.iconst 3, 1) := by decide +kernel
theorem dX11_rank_23 : decode cX11_rank 23 = .ok (.goto 20, 3) := by decide +kernel
theorem dX11_rank_26 : decode cX11_rank 26 = .ok (.iload_n 0, 1) := by decide +kernel
theorem dX11_rank_27 : decode cX11_rank 27 = .ok (.bipush 43, 2) := by decide +kernel
theorem dX11_rank_29 : decode cX11_rank 29 = .ok (.if_icmp .eq 9, 3) := by decide +kernel
theorem dX11_rank_32 : decode cX11_rank 32 = .ok (.iload_n 0, 1) := by decide +kernel
theorem dX11_rank_33 : decode cX11_rank 33 = .ok (.bipush 45, 2) := by decide +kernel
theorem dX11_rank_35 : decode cX11_rank 35 = .ok (.if_icmp .ne 7, 3) := by decide +kernel
theorem dX11_rank_38 : decode cX11_rank 38 = .ok (.iconst 2, 1) := by decide +kernel
theorem dX11_rank_39 : decode cX11_rank 39 = .ok (.goto 4, 3) := by decide +kernel
theorem dX11_rank_42 : decode cX11_rank 42 = .ok (.iconst 1, 1) := by decide +kernel
theorem dX11_rank_43 : decode cX11_rank 43 = .ok (.ireturn, 1) := by decide +kernel
theorem dX11_works_0 : decode cX11_works 0 = .ok (.aload_n 0, 1) := by decide +kernel
theorem dX11_works_1 : decode cX11_works 1 = .ok (.getfield 299, 3) := by decide +kernel
theorem dX11_works_4 : decode cX11_works 4 = .ok (.ifCond .le 202, 3) := by decide +kernel
theorem dX11_works_7 : decode cX11_works 7 = .ok (.aload_n 0, 1) := by decide +kernel
theorem dX11_works_8 : decode cX11_works 8 = .ok (.getfield 61, 3) := by decide +kernel
theorem dX11_works_11 : decode cX11_works 11 = .ok (.aload_n 0, 1) := by decide +kernel
theorem dX11_works_12 : decode cX11_works 12 = .ok (.getfield 299, 3) := by decide +kernel
theorem dX11_works_15 : decode cX11_works 15 = .ok (.iconst 1, 1) := by decide +kernel
theorem dX11_works_16 : decode cX11_works 16 = .ok (.isub, 1) := by decide +kernel
theorem dX11_works_17 : decode cX11_works 17 = .ok (.iaload, 1) := by decide +kernel
theorem dX11_works_18 : decode cX11_works 18 = .ok (.invokestatic 302, 3) := by decide +kernel
theorem dX11_works_21 : decode cX11_works 21 = .ok (.iload_n 1, 1) := by decide +kernel
theorem dX11_works_22 : decode cX11_works 22 = .ok (.if_icmp .lt 184, 3) := by decide +kernel
theorem dX11_works_25 : decode cX11_works 25 = .ok (.aload_n 0, 1) := by decide +kernel
theorem dX11_works_26 : decode cX11_works 26 = .ok (.dup, 1) := by decide +kernel
theorem dX11_works_27 : decode cX11_works 27 = .ok (.getfield 299, 3) := by decide +kernel
theorem dX11_works_30 : decode cX11_works 30 = .ok (.iconst 1, 1) := by decide +kernel
theorem dX11_works_31 : decode cX11_works 31 = .ok (.isub, 1) := by decide +kernel
theorem dX11_works_32 : decode cX11_works 32 = .ok (.putfield 299, 3) := by decide +kernel
theorem dX11_works_35 : decode cX11_works 35 = .ok (.aload_n 0, 1) := by decide +kernel
theorem dX11_works_36 : decode cX11_works 36 = .ok (.getfield 61, 3) := by decide +kernel
theorem dX11_works_39 : decode cX11_works 39 = .ok (.aload_n 0, 1) := by decide +kernel
theorem dX11_works_40 : decode cX11_works 40 = .ok (.getfield 299, 3) := by decide +kernel
theorem dX11_works_43 : decode cX11_works 43 = .ok (.iaload, 1) := by decide +kernel
theorem dX11_works_44 : decode cX11_works 44 = .ok (.istore_n 2, 1) := by decide +kernel
theorem dX11_works_45 : decode cX11_works 45 = .ok (.aload_n 0, 1) := by decide +kernel
theorem dX11_works_46 : decode cX11_works 46 = .ok (.dup, 1) := by decide +kernel
theorem dX11_works_47 : decode cX11_works 47 = .ok (.getfield 305, 3) := by decide +kernel
theorem dX11_works_50 : decode cX11_works 50 = .ok (.iconst 1, 1) := by decide +kernel
theorem dX11_works_51 : decode cX11_works 51 = .ok (.isub, 1) := by decide +kernel
theorem dX11_works_52 : decode cX11_works 52 = .ok (.putfield 305, 3) := by decide +kernel
theorem dX11_works_55 : decode cX11_works 55 = .ok (.aload_n 0, 1) := by decide +kernel
theorem dX11_works_56 : decode cX11_works 56 = .ok (.getfield 64, 3) := by decide +kernel
theorem dX11_works_59 : decode cX11_works 59 = .ok (.aload_n 0, 1) := by decide +kernel
theorem dX11_works_60 : decode cX11_works 60 = .ok (.getfield 305, 3) := by decide +kernel
theorem dX11_works_63 : decode cX11_works 63 = .ok (.iconst 1, 1) := by decide +kernel
theorem dX11_works_64 : decode cX11_works 64 = .ok (.isub, 1) := by decide +kernel
theorem dX11_works_65 : decode cX11_works 65 = .ok (.laload, 1) := by decide +kernel
theorem dX11_works_66 : decode cX11_works 66 = .ok (.lstore_n 3, 1) := by decide +kernel
theorem dX11_works_67 : decode cX11_works 67 = .ok (.aload_n 0, 1) := by decide +kernel
theorem dX11_works_68 : decode cX11_works 68 = .ok (.getfield 64, 3) := by decide +kernel
theorem dX11_works_71 : decode cX11_works 71 = .ok (.aload_n 0, 1) := by decide +kernel
theorem dX11_works_72 : decode cX11_works 72 = .ok (.getfield 305, 3) := by decide +kernel
theorem dX11_works_75 : decode cX11_works 75 = .ok (.laload, 1) := by decide +kernel
theorem dX11_works_76 : decode cX11_works 76 = .ok (.lstore 5, 2) := by decide +kernel
theorem dX11_works_78 : decode cX11_works 78 = .ok (.iload_n 2, 1) := by decide +kernel
theorem dX11_works_79 : decode cX11_works 79 = .ok (.bipush 43, 2) := by decide +kernel
theorem dX11_works_81 : decode cX11_works 81 = .ok (.if_icmp .ne 10, 3) := by decide +kernel
theorem dX11_works_84 : decode cX11_works 84 = .ok (.lload_n 3, 1) := by decide +kernel
theorem dX11_works_85 : decode cX11_works 85 = .ok (.lload 5, 2) := by decide +kernel
theorem dX11_works_87 : decode cX11_works 87 = .ok (.ladd, 1) := by decide +kernel
theorem dX11_works_88 : decode cX11_works 88 = .ok (.goto 97, 3) := by decide +kernel
theorem dX11_works_91 : decode cX11_works 91 = .ok (.iload_n 2, 1) := by decide +kernel
theorem dX11_works_92 : decode cX11_works 92 = .ok (.bipush 45, 2) := by decide +kernel
theorem dX11_works_94 : decode cX11_works 94 = .ok (.if_icmp .ne 10, 3) := by decide +kernel
theorem dX11_works_97 : decode cX11_works 97 = .ok (.lload_n 3, 1) := by decide +kernel
theorem dX11_works_98 : decode cX11_works 98 = .ok (.lload 5, 2) := by decide +kernel
theorem dX11_works_100 : decode cX11_works 100 = .ok (.lsub, 1) := by decide +kernel
theorem dX11_works_101 : decode cX11_works 101 = .ok (.goto 84, 3) := by decide +kernel
theorem dX11_works_104 : decode cX11_works 104 = .ok (.iload_n 2, 1) := by decide +kernel
theorem dX11_works_105 : decode cX11_works 105 = .ok (.bipush 42, 2) := by decide +kernel
theorem dX11_works_107 : decode cX11_works 107 = .ok (.if_icmp .ne 10, 3) := by decide +kernel
theorem dX11_works_110 : decode cX11_works 110 = .ok (.lload_n 3, 1) := by decide +kernel
theorem dX11_works_111 : decode cX11_works 111 = .ok (.lload 5, 2) := by decide +kernel
theorem dX11_works_113 : decode cX11_works 113 = .ok (.lmul, 1) := by decide +kernel
theorem dX11_works_114 : decode cX11_works 114 = .ok (.goto 71, 3) := by decide +kernel
theorem dX11_works_117 : decode cX11_works 117 = .ok (.iload_n 2, 1) := by decide +kernel
theorem dX11_works_118 : decode cX11_works 118 = .ok (.bipush 47, 2) := by decide +kernel
theorem dX11_works_120 : decode cX11_works 120 = .ok (.if_icmp .ne 21, 3) := by decide +kernel
theorem dX11_works_123 : decode cX11_works 123 = .ok (.lload 5, 2) := by decide +kernel
theorem dX11_works_125 : decode cX11_works 125 = .ok (.lconst 0, 1) := by decide +kernel
theorem dX11_works_126 : decode cX11_works 126 = .ok (.lcmp, 1) := by decide +kernel
theorem dX11_works_127 : decode cX11_works 127 = .ok (.ifCond .ne 7, 3) := by decide +kernel
theorem dX11_works_130 : decode cX11_works 130 = .ok (.lconst 0, 1) := by decide +kernel
theorem dX11_works_131 : decode cX11_works 131 = .ok (.goto 54, 3) := by decide +kernel
theorem dX11_works_134 : decode cX11_works 134 = .ok (.lload_n 3, 1) := by decide +kernel
theorem dX11_works_135 : decode cX11_works 135 = .ok (.lload 5, 2) := by decide +kernel
theorem dX11_works_137 : decode cX11_works 137 = .ok (.ldiv, 1) := by decide +kernel
theorem dX11_works_138 : decode cX11_works 138 = .ok (.goto 47, 3) := by decide +kernel
theorem dX11_works_141 : decode cX11_works 141 = .ok (.iload_n 2, 1) := by decide +kernel
theorem dX11_works_142 : decode cX11_works 142 = .ok (.bipush 60, 2) := by decide +kernel
theorem dX11_works_144 : decode cX11_works 144 = .ok (.if_icmp .ne 13, 3) := by decide +kernel
theorem dX11_works_147 : decode cX11_works 147 = .ok (.lload_n 3, 1) := by decide +kernel
theorem dX11_works_148 : decode cX11_works 148 = .ok (.lload 5, 2) := by decide +kernel
theorem dX11_works_150 : decode cX11_works 150 = .ok (.lcmp, 1) := by decide +kernel
theorem dX11_works_151 : decode cX11_works 151 = .ok (.ifCond .ge 33, 3) := by decide +kernel
theorem dX11_works_154 : decode cX11_works 154 = .ok (.goto 26, 3) := by decide +kernel
theorem dX11_works_157 : decode cX11_works 157 = .ok (.iload_n 2, 1) := by decide +kernel
theorem dX11_works_158 : decode cX11_works 158 = .ok (.bipush 62, 2) := by decide +kernel
theorem dX11_works_160 : decode cX11_works 160 = .ok (.if_icmp .ne 13, 3) := by decide +kernel
theorem dX11_works_163 : decode cX11_works 163 = .ok (.lload_n 3, 1) := by decide +kernel
theorem dX11_works_164 : decode cX11_works 164 = .ok (.lload 5, 2) := by decide +kernel
theorem dX11_works_166 : decode cX11_works 166 = .ok (.lcmp, 1) := by decide +kernel
theorem dX11_works_167 : decode cX11_works 167 = .ok (.ifCond .le 17, 3) := by decide +kernel
theorem dX11_works_170 : decode cX11_works 170 = .ok (.goto 10, 3) := by decide +kernel
theorem dX11_works_173 : decode cX11_works 173 = .ok (.lload_n 3, 1) := by decide +kernel
theorem dX11_works_174 : decode cX11_works 174 = .ok (.lload 5, 2) := by decide +kernel
theorem dX11_works_176 : decode cX11_works 176 = .ok (.lcmp, 1) := by decide +kernel
theorem dX11_works_177 : decode cX11_works 177 = .ok (.ifCond .ne 7, 3) := by decide +kernel
theorem dX11_works_180 : decode cX11_works 180 = .ok (.lconst 1, 1) := by decide +kernel
theorem dX11_works_181 : decode cX11_works 181 = .ok (.goto 4, 3) := by decide +kernel
theorem dX11_works_184 : decode cX11_works 184 = .ok (.lconst 0, 1) := by decide +kernel
theorem dX11_works_185 : decode cX11_works 185 = .ok (.lstore 7, 2) := by decide +kernel
theorem dX11_works_187 : decode cX11_works 187 = .ok (.aload_n 0, 1) := by decide +kernel
theorem dX11_works_188 : decode cX11_works 188 = .ok (.getfield 64, 3) := by decide +kernel
theorem dX11_works_191 : decode cX11_works 191 = .ok (.aload_n 0, 1) := by decide +kernel
theorem dX11_works_192 : decode cX11_works 192 = .ok (.getfield 305, 3) := by decide +kernel
theorem dX11_works_195 : decode cX11_works 195 = .ok (.iconst 1, 1) := by decide +kernel
theorem dX11_works_196 : decode cX11_works 196 = .ok (.isub, 1) := by decide +kernel
theorem dX11_works_197 : decode cX11_works 197 = .ok (.lload 7, 2) := by decide +kernel
theorem dX11_works_199 : decode cX11_works 199 = .ok (.invokestatic 308, 3) := by decide +kernel
theorem dX11_works_202 : decode cX11_works 202 = .ok (.lastore, 1) := by decide +kernel
theorem dX11_works_203 : decode cX11_works 203 = .ok (.goto (-203), 3) := by decide +kernel
theorem dX11_works_206 : decode cX11_works 206 = .ok (.return_, 1) := by decide +kernel
theorem dX11_worth_0 : decode cX11_worth 0 = .ok (.aload_n 0, 1) := by decide +kernel
theorem dX11_worth_1 : decode cX11_worth 1 = .ok (.iconst 0, 1) := by decide +kernel
theorem dX11_worth_2 : decode cX11_worth 2 = .ok (.putfield 299, 3) := by decide +kernel
theorem dX11_worth_5 : decode cX11_worth 5 = .ok (.aload_n 0, 1) := by decide +kernel
theorem dX11_worth_6 : decode cX11_worth 6 = .ok (.iconst 0, 1) := by decide +kernel
theorem dX11_worth_7 : decode cX11_worth 7 = .ok (.putfield 305, 3) := by decide +kernel
theorem dX11_worth_10 : decode cX11_worth 10 = .ok (.iconst 0, 1) := by decide +kernel
theorem dX11_worth_11 : decode cX11_worth 11 = .ok (.istore_n 2, 1) := by decide +kernel
theorem dX11_worth_12 : decode cX11_worth 12 = .ok (.iload_n 2, 1) := by decide +kernel
theorem dX11_worth_13 : decode cX11_worth 13 = .ok (.aload_n 0, 1) := by decide +kernel
theorem dX11_worth_14 : decode cX11_worth 14 = .ok (.getfield 49, 3) := by decide +kernel
theorem dX11_worth_17 : decode cX11_worth 17 = .ok (.iload_n 1, 1) := by decide +kernel
theorem dX11_worth_18 : decode cX11_worth 18 = .ok (.iaload, 1) := by decide +kernel
theorem dX11_worth_19 : decode cX11_worth 19 = .ok (.if_icmp .ge 211, 3) := by decide +kernel
theorem dX11_worth_22 : decode cX11_worth 22 = .ok (.aload_n 0, 1) := by decide +kernel
theorem dX11_worth_23 : decode cX11_worth 23 = .ok (.getfield 46, 3) := by decide +kernel
theorem dX11_worth_26 : decode cX11_worth 26 = .ok (.bipush 60, 2) := by decide +kernel
theorem dX11_worth_28 : decode cX11_worth 28 = .ok (.iload_n 1, 1) := by decide +kernel
theorem dX11_worth_29 : decode cX11_worth 29 = .ok (.imul, 1) := by decide +kernel
theorem dX11_worth_30 : decode cX11_worth 30 = .ok (.iload_n 2, 1) := by decide +kernel
theorem dX11_worth_31 : decode cX11_worth 31 = .ok (.iadd, 1) := by decide +kernel
theorem dX11_worth_32 : decode cX11_worth 32 = .ok (.iaload, 1) := by decide +kernel
theorem dX11_worth_33 : decode cX11_worth 33 = .ok (.istore_n 3, 1) := by decide +kernel
theorem dX11_worth_34 : decode cX11_worth 34 = .ok (.iinc 2 1, 3) := by decide +kernel
theorem dX11_worth_37 : decode cX11_worth 37 = .ok (.iload_n 3, 1) := by decide +kernel
theorem dX11_worth_38 : decode cX11_worth 38 = .ok (.invokestatic 279, 3) := by decide +kernel
theorem dX11_worth_41 : decode cX11_worth 41 = .ok (.ifCond .eq 32, 3) := by decide +kernel
theorem dX11_worth_44 : decode cX11_worth 44 = .ok (.aload_n 0, 1) := by decide +kernel
theorem dX11_worth_45 : decode cX11_worth 45 = .ok (.getfield 64, 3) := by decide +kernel
theorem dX11_worth_48 : decode cX11_worth 48 = .ok (.aload_n 0, 1) := by decide +kernel
theorem dX11_worth_49 : decode cX11_worth 49 = .ok (.getfield 305, 3) := by decide +kernel
theorem dX11_worth_52 : decode cX11_worth 52 = .ok (.aload_n 0, 1) := by decide +kernel
theorem dX11_worth_53 : decode cX11_worth 53 = .ok (.getfield 58, 3) := by decide +kernel
theorem dX11_worth_56 : decode cX11_worth 56 = .ok (.iload_n 3, 1) := by decide +kernel
theorem dX11_worth_57 : decode cX11_worth 57 = .ok (.iaload, 1) := by decide +kernel
theorem dX11_worth_58 : decode cX11_worth 58 = .ok (.i2l, 1) := by decide +kernel
theorem dX11_worth_59 : decode cX11_worth 59 = .ok (.lastore, 1) := by decide +kernel
theorem dX11_worth_60 : decode cX11_worth 60 = .ok (.aload_n 0, 1) := by decide +kernel
theorem dX11_worth_61 : decode cX11_worth 61 = .ok (.dup, 1) := by decide +kernel
theorem dX11_worth_62 : decode cX11_worth 62 = .ok (.getfield 305, 3) := by decide +kernel
theorem dX11_worth_65 : decode cX11_worth 65 = .ok (.iconst 1, 1) := by decide +kernel
theorem dX11_worth_66 : decode cX11_worth 66 = .ok (.iadd, 1) := by decide +kernel
theorem dX11_worth_67 : decode cX11_worth 67 = .ok (.putfield 305, 3) := by decide +kernel
theorem dX11_worth_70 : decode cX11_worth 70 = .ok (.goto 157, 3) := by decide +kernel
theorem dX11_worth_73 : decode cX11_worth 73 = .ok (.iload_n 3, 1) := by decide +kernel
theorem dX11_worth_74 : decode cX11_worth 74 = .ok (.invokestatic 282, 3) := by decide +kernel
theorem dX11_worth_77 : decode cX11_worth 77 = .ok (.ifCond .eq 92, 3) := by decide +kernel
theorem dX11_worth_80 : decode cX11_worth 80 = .ok (.iload_n 3, 1) := by decide +kernel
theorem dX11_worth_81 : decode cX11_worth 81 = .ok (.bipush 48, 2) := by decide +kernel
theorem dX11_worth_83 : decode cX11_worth 83 = .ok (.isub, 1) := by decide +kernel
theorem dX11_worth_84 : decode cX11_worth 84 = .ok (.i2l, 1) := by decide +kernel
theorem dX11_worth_85 : decode cX11_worth 85 = .ok (.lstore 4, 2) := by decide +kernel
theorem dX11_worth_87 : decode cX11_worth 87 = .ok (.iload_n 2, 1) := by decide +kernel
theorem dX11_worth_88 : decode cX11_worth 88 = .ok (.aload_n 0, 1) := by decide +kernel
theorem dX11_worth_89 : decode cX11_worth 89 = .ok (.getfield 49, 3) := by decide +kernel
theorem dX11_worth_92 : decode cX11_worth 92 = .ok (.iload_n 1, 1) := by decide +kernel
theorem dX11_worth_93 : decode cX11_worth 93 = .ok (.iaload, 1) := by decide +kernel
theorem dX11_worth_94 : decode cX11_worth 94 = .ok (.if_icmp .ge 51, 3) := by decide +kernel
theorem dX11_worth_97 : decode cX11_worth 97 = .ok (.aload_n 0, 1) := by decide +kernel
theorem dX11_worth_98 : decode cX11_worth 98 = .ok (.getfield 46, 3) := by decide +kernel
theorem dX11_worth_101 : decode cX11_worth 101 = .ok (.bipush 60, 2) := by decide +kernel
theorem dX11_worth_103 : decode cX11_worth 103 = .ok (.iload_n 1, 1) := by decide +kernel
theorem dX11_worth_104 : decode cX11_worth 104 = .ok (.imul, 1) := by decide +kernel
theorem dX11_worth_105 : decode cX11_worth 105 = .ok (.iload_n 2, 1) := by decide +kernel
theorem dX11_worth_106 : decode cX11_worth 106 = .ok (.iadd, 1) := by decide +kernel
theorem dX11_worth_107 : decode cX11_worth 107 = .ok (.iaload, 1) := by decide +kernel
theorem dX11_worth_108 : decode cX11_worth 108 = .ok (.invokestatic 282, 3) := by decide +kernel
theorem dX11_worth_111 : decode cX11_worth 111 = .ok (.ifCond .eq 34, 3) := by decide +kernel
theorem dX11_worth_114 : decode cX11_worth 114 = .ok (.ldc2_w 312, 3) := by decide +kernel
theorem dX11_worth_117 : decode cX11_worth 117 = .ok (.lload 4, 2) := by decide +kernel
theorem dX11_worth_119 : decode cX11_worth 119 = .ok (.lmul, 1) := by decide +kernel
theorem dX11_worth_120 : decode cX11_worth 120 = .ok (.aload_n 0, 1) := by decide +kernel
theorem dX11_worth_121 : decode cX11_worth 121 = .ok (.getfield 46, 3) := by decide +kernel
theorem dX11_worth_124 : decode cX11_worth 124 = .ok (.bipush 60, 2) := by decide +kernel
theorem dX11_worth_126 : decode cX11_worth 126 = .ok (.iload_n 1, 1) := by decide +kernel
theorem dX11_worth_127 : decode cX11_worth 127 = .ok (.imul, 1) := by decide +kernel
theorem dX11_worth_128 : decode cX11_worth 128 = .ok (.iload_n 2, 1) := by decide +kernel
theorem dX11_worth_129 : decode cX11_worth 129 = .ok (.iadd, 1) := by decide +kernel
theorem dX11_worth_130 : decode cX11_worth 130 = .ok (.iaload, 1) := by decide +kernel
theorem dX11_worth_131 : decode cX11_worth 131 = .ok (.i2l, 1) := by decide +kernel
theorem dX11_worth_132 : decode cX11_worth 132 = .ok (.ladd, 1) := by decide +kernel
theorem dX11_worth_133 : decode cX11_worth 133 = .ok (.ldc2_w 314, 3) := by decide +kernel
theorem dX11_worth_136 : decode cX11_worth 136 = .ok (.lsub, 1) := by decide +kernel
theorem dX11_worth_137 : decode cX11_worth 137 = .ok (.lstore 4, 2) := by decide +kernel
theorem dX11_worth_139 : decode cX11_worth 139 = .ok (.iinc 2 1, 3) := by decide +kernel
theorem dX11_worth_142 : decode cX11_worth 142 = .ok (.goto (-55), 3) := by decide +kernel
theorem dX11_worth_145 : decode cX11_worth 145 = .ok (.aload_n 0, 1) := by decide +kernel
theorem dX11_worth_146 : decode cX11_worth 146 = .ok (.getfield 64, 3) := by decide +kernel
theorem dX11_worth_149 : decode cX11_worth 149 = .ok (.aload_n 0, 1) := by decide +kernel
theorem dX11_worth_150 : decode cX11_worth 150 = .ok (.getfield 305, 3) := by decide +kernel
theorem dX11_worth_153 : decode cX11_worth 153 = .ok (.lload 4, 2) := by decide +kernel
theorem dX11_worth_155 : decode cX11_worth 155 = .ok (.lastore, 1) := by decide +kernel
theorem dX11_worth_156 : decode cX11_worth 156 = .ok (.aload_n 0, 1) := by decide +kernel
theorem dX11_worth_157 : decode cX11_worth 157 = .ok (.dup, 1) := by decide +kernel
theorem dX11_worth_158 : decode cX11_worth 158 = .ok (.getfield 305, 3) := by decide +kernel
theorem dX11_worth_161 : decode cX11_worth 161 = .ok (.iconst 1, 1) := by decide +kernel
theorem dX11_worth_162 : decode cX11_worth 162 = .ok (.iadd, 1) := by decide +kernel
theorem dX11_worth_163 : decode cX11_worth 163 = .ok (.putfield 305, 3) := by decide +kernel
theorem dX11_worth_166 : decode cX11_worth 166 = .ok (.goto 61, 3) := by decide +kernel
theorem dX11_worth_169 : decode cX11_worth 169 = .ok (.iload_n 3, 1) := by decide +kernel
theorem dX11_worth_170 : decode cX11_worth 170 = .ok (.bipush 41, 2) := by decide +kernel
theorem dX11_worth_172 : decode cX11_worth 172 = .ok (.if_icmp .ne 21, 3) := by decide +kernel
theorem dX11_worth_175 : decode cX11_worth 175 = .ok (.aload_n 0, 1) := by decide +kernel
theorem dX11_worth_176 : decode cX11_worth 176 = .ok (.iconst 1, 1) := by decide +kernel
theorem dX11_worth_177 : decode cX11_worth 177 = .ok (.invokevirtual 316, 3) := by decide +kernel
theorem dX11_worth_180 : decode cX11_worth 180 = .ok (.aload_n 0, 1) := by decide +kernel
theorem dX11_worth_181 : decode cX11_worth 181 = .ok (.dup, 1) := by decide +kernel
theorem dX11_worth_182 : decode cX11_worth 182 = .ok (.getfield 299, 3) := by decide +kernel
theorem dX11_worth_185 : decode cX11_worth 185 = .ok (.iconst 1, 1) := by decide +kernel
theorem dX11_worth_186 : decode cX11_worth 186 = .ok (.isub, 1) := by decide +kernel
theorem dX11_worth_187 : decode cX11_worth 187 = .ok (.putfield 299, 3) := by decide +kernel
theorem dX11_worth_190 : decode cX11_worth 190 = .ok (.goto 37, 3) := by decide +kernel
theorem dX11_worth_193 : decode cX11_worth 193 = .ok (.iload_n 3, 1) := by decide +kernel
theorem dX11_worth_194 : decode cX11_worth 194 = .ok (.bipush 40, 2) := by decide +kernel
theorem dX11_worth_196 : decode cX11_worth 196 = .ok (.if_icmp .eq 11, 3) := by decide +kernel
theorem dX11_worth_199 : decode cX11_worth 199 = .ok (.aload_n 0, 1) := by decide +kernel
theorem dX11_worth_200 : decode cX11_worth 200 = .ok (.iload_n 3, 1) := by decide +kernel
theorem dX11_worth_201 : decode cX11_worth 201 = .ok (.invokestatic 302, 3) := by decide +kernel
theorem dX11_worth_204 : decode cX11_worth 204 = .ok (.invokevirtual 316, 3) := by decide +kernel
theorem dX11_worth_207 : decode cX11_worth 207 = .ok (.aload_n 0, 1) := by decide +kernel
theorem dX11_worth_208 : decode cX11_worth 208 = .ok (.getfield 61, 3) := by decide +kernel
theorem dX11_worth_211 : decode cX11_worth 211 = .ok (.aload_n 0, 1) := by decide +kernel
theorem dX11_worth_212 : decode cX11_worth 212 = .ok (.getfield 299, 3) := by decide +kernel
theorem dX11_worth_215 : decode cX11_worth 215 = .ok (.iload_n 3, 1) := by decide +kernel
theorem dX11_worth_216 : decode cX11_worth 216 = .ok (.iastore, 1) := by decide +kernel
theorem dX11_worth_217 : decode cX11_worth 217 = .ok (.aload_n 0, 1) := by decide +kernel
theorem dX11_worth_218 : decode cX11_worth 218 = .ok (.dup, 1) := by decide +kernel
theorem dX11_worth_219 : decode cX11_worth 219 = .ok (.getfield 299, 3) := by decide +kernel
theorem dX11_worth_222 : decode cX11_worth 222 = .ok (.iconst 1, 1) := by decide +kernel
theorem dX11_worth_223 : decode cX11_worth 223 = .ok (.iadd, 1) := by decide +kernel
theorem dX11_worth_224 : decode cX11_worth 224 = .ok (.putfield 299, 3) := by decide +kernel
theorem dX11_worth_227 : decode cX11_worth 227 = .ok (.goto (-215), 3) := by decide +kernel
theorem dX11_worth_230 : decode cX11_worth 230 = .ok (.aload_n 0, 1) := by decide +kernel
theorem dX11_worth_231 : decode cX11_worth 231 = .ok (.iconst 1, 1) := by decide +kernel
theorem dX11_worth_232 : decode cX11_worth 232 = .ok (.invokevirtual 316, 3) := by decide +kernel
theorem dX11_worth_235 : decode cX11_worth 235 = .ok (.aload_n 0, 1) := by decide +kernel
theorem dX11_worth_236 : decode cX11_worth 236 = .ok (.getfield 64, 3) := by decide +kernel
theorem dX11_worth_239 : decode cX11_worth 239 = .ok (.iconst 0, 1) := by decide +kernel
theorem dX11_worth_240 : decode cX11_worth 240 = .ok (.laload, 1) := by decide +kernel
theorem dX11_worth_241 : decode cX11_worth 241 = .ok (.l2i, 1) := by decide +kernel
theorem dX11_worth_242 : decode cX11_worth 242 = .ok (.ireturn, 1) := by decide +kernel
theorem dX11_forceOf_0 : decode cX11_forceOf 0 = .ok (.bipush (-9), 2) := by decide +kernel
theorem dX11_forceOf_2 : decode cX11_forceOf 2 = .ok (.istore_n 3, 1) := by decide +kernel
theorem dX11_forceOf_3 : decode cX11_forceOf 3 = .ok (.iconst 0, 1) := by decide +kernel
theorem dX11_forceOf_4 : decode cX11_forceOf 4 = .ok (.istore 4, 2) := by decide +kernel
theorem dX11_forceOf_6 : decode cX11_forceOf 6 = .ok (.iload 4, 2) := by decide +kernel
theorem dX11_forceOf_8 : decode cX11_forceOf 8 = .ok (.aload_n 0, 1) := by decide +kernel
theorem dX11_forceOf_9 : decode cX11_forceOf 9 = .ok (.getfield 288, 3) := by decide +kernel
theorem dX11_forceOf_12 : decode cX11_forceOf 12 = .ok (.if_icmp .ge 54, 3) := by decide +kernel
theorem dX11_forceOf_15 : decode cX11_forceOf 15 = .ok (.aload_n 0, 1) := by decide +kernel
theorem dX11_forceOf_16 : decode cX11_forceOf 16 = .ok (.getfield 52, 3) := by decide +kernel
theorem dX11_forceOf_19 : decode cX11_forceOf 19 = .ok (.iload 4, 2) := by decide +kernel
theorem dX11_forceOf_21 : decode cX11_forceOf 21 = .ok (.iaload, 1) := by decide +kernel
theorem dX11_forceOf_22 : decode cX11_forceOf 22 = .ok (.iload_n 1, 1) := by decide +kernel
theorem dX11_forceOf_23 : decode cX11_forceOf 23 = .ok (.if_icmp .ne 37, 3) := by decide +kernel
theorem dX11_forceOf_26 : decode cX11_forceOf 26 = .ok (.aload_n 0, 1) := by decide +kernel
theorem dX11_forceOf_27 : decode cX11_forceOf 27 = .ok (.getfield 55, 3) := by decide +kernel
theorem dX11_forceOf_30 : decode cX11_forceOf 30 = .ok (.iload 4, 2) := by decide +kernel
theorem dX11_forceOf_32 : decode cX11_forceOf 32 = .ok (.iaload, 1) := by decide +kernel
theorem dX11_forceOf_33 : decode cX11_forceOf 33 = .ok (.iload_n 2, 1) := by decide +kernel
theorem dX11_forceOf_34 : decode cX11_forceOf 34 = .ok (.if_icmp .gt 26, 3) := by decide +kernel
theorem dX11_forceOf_37 : decode cX11_forceOf 37 = .ok (.iload_n 3, 1) := by decide +kernel
theorem dX11_forceOf_38 : decode cX11_forceOf 38 = .ok (.ifCond .lt 19, 3) := by decide +kernel
theorem dX11_forceOf_41 : decode cX11_forceOf 41 = .ok (.aload_n 0, 1) := by decide +kernel
theorem dX11_forceOf_42 : decode cX11_forceOf 42 = .ok (.getfield 55, 3) := by decide +kernel
theorem dX11_forceOf_45 : decode cX11_forceOf 45 = .ok (.iload 4, 2) := by decide +kernel
theorem dX11_forceOf_47 : decode cX11_forceOf 47 = .ok (.iaload, 1) := by decide +kernel
theorem dX11_forceOf_48 : decode cX11_forceOf 48 = .ok (.aload_n 0, 1) := by decide +kernel
theorem dX11_forceOf_49 : decode cX11_forceOf 49 = .ok (.getfield 55, 3) := by decide +kernel
theorem dX11_forceOf_52 : decode cX11_forceOf 52 = .ok (.iload_n 3, 1) := by decide +kernel
theorem dX11_forceOf_53 : decode cX11_forceOf 53 = .ok (.iaload, 1) := by decide +kernel
theorem dX11_forceOf_54 : decode cX11_forceOf 54 = .ok (.if_icmp .lt 6, 3) := by decide +kernel
theorem dX11_forceOf_57 : decode cX11_forceOf 57 = .ok (.iload 4, 2) := by decide +kernel
theorem dX11_forceOf_59 : decode cX11_forceOf 59 = .ok (.istore_n 3, 1) := by decide +kernel
theorem dX11_forceOf_60 : decode cX11_forceOf 60 = .ok (.iinc 4 1, 3) := by decide +kernel
theorem dX11_forceOf_63 : decode cX11_forceOf 63 = .ok (.goto (-57), 3) := by decide +kernel
theorem dX11_forceOf_66 : decode cX11_forceOf 66 = .ok (.iload_n 3, 1) := by decide +kernel
theorem dX11_forceOf_67 : decode cX11_forceOf 67 = .ok (.ireturn, 1) := by decide +kernel
theorem dX11_noFacts_0 : decode cX11_noFacts 0 = .ok (.iconst 0, 1) := by decide +kernel
theorem dX11_noFacts_1 : decode cX11_noFacts 1 = .ok (.istore_n 1, 1) := by decide +kernel
theorem dX11_noFacts_2 : decode cX11_noFacts 2 = .ok (.iload_n 1, 1) := by decide +kernel
theorem dX11_noFacts_3 : decode cX11_noFacts 3 = .ok (.sipush 128, 3) := by decide +kernel
theorem dX11_noFacts_6 : decode cX11_noFacts 6 = .ok (.if_icmp .ge 16, 3) := by decide +kernel
theorem dX11_noFacts_9 : decode cX11_noFacts 9 = .ok (.aload_n 0, 1) := by decide +kernel
theorem dX11_noFacts_10 : decode cX11_noFacts 10 = .ok (.getfield 58, 3) := by decide +kernel
theorem dX11_noFacts_13 : decode cX11_noFacts 13 = .ok (.iload_n 1, 1) := by decide +kernel
theorem dX11_noFacts_14 : decode cX11_noFacts 14 = .ok (.iconst 0, 1) := by decide +kernel
theorem dX11_noFacts_15 : decode cX11_noFacts 15 = .ok (.iastore, 1) := by decide +kernel
theorem dX11_noFacts_16 : decode cX11_noFacts 16 = .ok (.iinc 1 1, 3) := by decide +kernel
theorem dX11_noFacts_19 : decode cX11_noFacts 19 = .ok (.goto (-17), 3) := by decide +kernel
theorem dX11_noFacts_22 : decode cX11_noFacts 22 = .ok (.return_, 1) := by decide +kernel
theorem dX11_isCard_0 : decode cX11_isCard 0 = .ok (.iload_n 1, 1) := by decide +kernel
theorem dX11_isCard_1 : decode cX11_isCard 1 = .ok (.ifCond .lt 15, 3) := by decide +kernel
theorem dX11_isCard_4 : decode cX11_isCard 4 = .ok (.iload_n 1, 1) := by decide +kernel
theorem dX11_isCard_5 : decode cX11_isCard 5 = .ok (.aload_n 0, 1) := by decide +kernel
theorem dX11_isCard_6 : decode cX11_isCard 6 = .ok (.getfield 320, 3) := by decide +kernel
theorem dX11_isCard_9 : decode cX11_isCard 9 = .ok (.if_icmp .ge 7, 3) := by decide +kernel
theorem dX11_isCard_12 : decode cX11_isCard 12 = .ok (.iconst 1, 1) := by decide +kernel
theorem dX11_isCard_13 : decode cX11_isCard 13 = .ok (.goto 4, 3) := by decide +kernel
theorem dX11_isCard_16 : decode cX11_isCard 16 = .ok (.iconst 0, 1) := by decide +kernel
theorem dX11_isCard_17 : decode cX11_isCard 17 = .ok (.ireturn, 1) := by decide +kernel
theorem dX11_card_0 : decode cX11_card 0 = .ok (.aload_n 0, 1) := by decide +kernel
theorem dX11_card_1 : decode cX11_card 1 = .ok (.iload_n 1, 1) := by decide +kernel
theorem dX11_card_2 : decode cX11_card 2 = .ok (.invokevirtual 233, 3) := by decide +kernel
theorem dX11_card_5 : decode cX11_card 5 = .ok (.ifCond .ne 9, 3) := by decide +kernel
theorem dX11_card_8 : decode cX11_card 8 = .ok (.aload_n 0, 1) := by decide +kernel
theorem dX11_card_9 : decode cX11_card 9 = .ok (.iconst (-1), 1) := by decide +kernel
theorem dX11_card_10 : decode cX11_card 10 = .ok (.invokevirtual 207, 3) := by decide +kernel
theorem dX11_card_13 : decode cX11_card 13 = .ok (.ireturn, 1) := by decide +kernel
theorem dX11_card_14 : decode cX11_card 14 = .ok (.aload_n 0, 1) := by decide +kernel
theorem dX11_card_15 : decode cX11_card 15 = .ok (.getfield 320, 3) := by decide +kernel
theorem dX11_card_18 : decode cX11_card 18 = .ok (.bipush 40, 2) := by decide +kernel
theorem dX11_card_20 : decode cX11_card 20 = .ok (.if_icmp .ne 10, 3) := by decide +kernel
theorem dX11_card_23 : decode cX11_card 23 = .ok (.aload_n 0, 1) := by decide +kernel
theorem dX11_card_24 : decode cX11_card 24 = .ok (.bipush (-6), 2) := by decide +kernel
theorem dX11_card_26 : decode cX11_card 26 = .ok (.invokevirtual 207, 3) := by decide +kernel
theorem dX11_card_29 : decode cX11_card 29 = .ok (.ireturn, 1) := by decide +kernel
theorem dX11_card_30 : decode cX11_card 30 = .ok (.aload_n 0, 1) := by decide +kernel
theorem dX11_card_31 : decode cX11_card 31 = .ok (.getfield 68, 3) := by decide +kernel
theorem dX11_card_34 : decode cX11_card 34 = .ok (.aload_n 0, 1) := by decide +kernel
theorem dX11_card_35 : decode cX11_card 35 = .ok (.getfield 320, 3) := by decide +kernel
theorem dX11_card_38 : decode cX11_card 38 = .ok (.iload_n 1, 1) := by decide +kernel
theorem dX11_card_39 : decode cX11_card 39 = .ok (.iastore, 1) := by decide +kernel
theorem dX11_card_40 : decode cX11_card 40 = .ok (.aload_n 0, 1) := by decide +kernel
theorem dX11_card_41 : decode cX11_card 41 = .ok (.getfield 71, 3) := by decide +kernel
theorem dX11_card_44 : decode cX11_card 44 = .ok (.aload_n 0, 1) := by decide +kernel
theorem dX11_card_45 : decode cX11_card 45 = .ok (.getfield 320, 3) := by decide +kernel
theorem dX11_card_48 : decode cX11_card 48 = .ok (.aload_n 0, 1) := by decide +kernel
theorem dX11_card_49 : decode cX11_card 49 = .ok (.getfield 200, 3) := by decide +kernel
theorem dX11_card_52 : decode cX11_card 52 = .ok (.iastore, 1) := by decide +kernel
theorem dX11_card_53 : decode cX11_card 53 = .ok (.aload_n 0, 1) := by decide +kernel
theorem dX11_card_54 : decode cX11_card 54 = .ok (.getfield 74, 3) := by decide +kernel
theorem dX11_card_57 : decode cX11_card 57 = .ok (.aload_n 0, 1) := by decide +kernel
theorem dX11_card_58 : decode cX11_card 58 = .ok (.getfield 320, 3) := by decide +kernel
theorem dX11_card_61 : decode cX11_card 61 = .ok (.iconst (-1), 1) := by decide +kernel
theorem dX11_card_62 : decode cX11_card 62 = .ok (.iastore, 1) := by decide +kernel
theorem dX11_card_63 : decode cX11_card 63 = .ok (.aload_n 0, 1) := by decide +kernel
theorem dX11_card_64 : decode cX11_card 64 = .ok (.dup, 1) := by decide +kernel
theorem dX11_card_65 : decode cX11_card 65 = .ok (.getfield 320, 3) := by decide +kernel
theorem dX11_card_68 : decode cX11_card 68 = .ok (.iconst 1, 1) := by decide +kernel
theorem dX11_card_69 : decode cX11_card 69 = .ok (.iadd, 1) := by decide +kernel
theorem dX11_card_70 : decode cX11_card 70 = .ok (.putfield 320, 3) := by decide +kernel
theorem dX11_card_73 : decode cX11_card 73 = .ok (.aload_n 0, 1) := by decide +kernel
theorem dX11_card_74 : decode cX11_card 74 = .ok (.getfield 320, 3) := by decide +kernel
theorem dX11_card_77 : decode cX11_card 77 = .ok (.iconst 1, 1) := by decide +kernel
theorem dX11_card_78 : decode cX11_card 78 = .ok (.isub, 1) := by decide +kernel
theorem dX11_card_79 : decode cX11_card 79 = .ok (.ireturn, 1) := by decide +kernel
theorem dX11_end_0 : decode cX11_end 0 = .ok (.aload_n 0, 1) := by decide +kernel
theorem dX11_end_1 : decode cX11_end 1 = .ok (.iload_n 1, 1) := by decide +kernel
theorem dX11_end_2 : decode cX11_end 2 = .ok (.invokevirtual 323, 3) := by decide +kernel
theorem dX11_end_5 : decode cX11_end 5 = .ok (.ifCond .ne 9, 3) := by decide +kernel
theorem dX11_end_8 : decode cX11_end 8 = .ok (.aload_n 0, 1) := by decide +kernel
theorem dX11_end_9 : decode cX11_end 9 = .ok (.iconst (-1), 1) := by decide +kernel
theorem dX11_end_10 : decode cX11_end 10 = .ok (.invokevirtual 207, 3) := by decide +kernel
theorem dX11_end_13 : decode cX11_end 13 = .ok (.ireturn, 1) := by decide +kernel
theorem dX11_end_14 : decode cX11_end 14 = .ok (.aload_n 0, 1) := by decide +kernel
theorem dX11_end_15 : decode cX11_end 15 = .ok (.getfield 74, 3) := by decide +kernel
theorem dX11_end_18 : decode cX11_end 18 = .ok (.iload_n 1, 1) := by decide +kernel
theorem dX11_end_19 : decode cX11_end 19 = .ok (.iaload, 1) := by decide +kernel
theorem dX11_end_20 : decode cX11_end 20 = .ok (.ifCond .lt 10, 3) := by decide +kernel
theorem dX11_end_23 : decode cX11_end 23 = .ok (.aload_n 0, 1) := by decide +kernel
theorem dX11_end_24 : decode cX11_end 24 = .ok (.bipush (-3), 2) := by decide +kernel
theorem dX11_end_26 : decode cX11_end 26 = .ok (.invokevirtual 207, 3) := by decide +kernel
theorem dX11_end_29 : decode cX11_end 29 = .ok (.ireturn, 1) := by decide +kernel
theorem dX11_end_30 : decode cX11_end 30 = .ok (.aload_n 0, 1) := by decide +kernel
theorem dX11_end_31 : decode cX11_end 31 = .ok (.getfield 74, 3) := by decide +kernel
theorem dX11_end_34 : decode cX11_end 34 = .ok (.iload_n 1, 1) := by decide +kernel
theorem dX11_end_35 : decode cX11_end 35 = .ok (.aload_n 0, 1) := by decide +kernel
theorem dX11_end_36 : decode cX11_end 36 = .ok (.getfield 200, 3) := by decide +kernel
theorem dX11_end_39 : decode cX11_end 39 = .ok (.iastore, 1) := by decide +kernel
theorem dX11_end_40 : decode cX11_end 40 = .ok (.iconst 1, 1) := by decide +kernel
theorem dX11_end_41 : decode cX11_end 41 = .ok (.ireturn, 1) := by decide +kernel
theorem dX11_drawOf_0 : decode cX11_drawOf 0 = .ok (.iload_n 2, 1) := by decide +kernel
theorem dX11_drawOf_1 : decode cX11_drawOf 1 = .ok (.aload_n 0, 1) := by decide +kernel
theorem dX11_drawOf_2 : decode cX11_drawOf 2 = .ok (.getfield 71, 3) := by decide +kernel
theorem dX11_drawOf_5 : decode cX11_drawOf 5 = .ok (.iload_n 1, 1) := by decide +kernel
theorem dX11_drawOf_6 : decode cX11_drawOf 6 = .ok (.iaload, 1) := by decide +kernel
theorem dX11_drawOf_7 : decode cX11_drawOf 7 = .ok (.if_icmp .lt 22, 3) := by decide +kernel
theorem dX11_drawOf_10 : decode cX11_drawOf 10 = .ok (.aload_n 0, 1) := by decide +kernel
theorem dX11_drawOf_11 : decode cX11_drawOf 11 = .ok (.getfield 74, 3) := by decide +kernel
theorem dX11_drawOf_14 : decode cX11_drawOf 14 = .ok (.iload_n 1, 1) := by decide +kernel
theorem dX11_drawOf_15 : decode cX11_drawOf 15 = .ok (.iaload, 1) := by decide +kernel
theorem dX11_drawOf_16 : decode cX11_drawOf 16 = .ok (.ifCond .lt 15, 3) := by decide +kernel
theorem dX11_drawOf_19 : decode cX11_drawOf 19 = .ok (.iload_n 2, 1) := by decide +kernel
theorem dX11_drawOf_20 : decode cX11_drawOf 20 = .ok (.aload_n 0, 1) := by decide +kernel
theorem dX11_drawOf_21 : decode cX11_drawOf 21 = .ok (.getfield 74, 3) := by decide +kernel
theorem dX11_drawOf_24 : decode cX11_drawOf 24 = .ok (.iload_n 1, 1) := by decide +kernel
theorem dX11_drawOf_25 : decode cX11_drawOf 25 = .ok (.iaload, 1) := by decide +kernel
theorem dX11_drawOf_26 : decode cX11_drawOf 26 = .ok (.if_icmp .lt 5, 3) := by decide +kernel
theorem dX11_drawOf_29 : decode cX11_drawOf 29 = .ok (.iconst 0, 1) := by decide +kernel
theorem dX11_drawOf_30 : decode cX11_drawOf 30 = .ok (.ireturn, 1) := by decide +kernel
theorem dX11_drawOf_31 : decode cX11_drawOf 31 = .ok (.aload_n 0, 1) := by decide +kernel
theorem dX11_drawOf_32 : decode cX11_drawOf 32 = .ok (.iconst 0, 1) := by decide +kernel
theorem dX11_drawOf_33 : decode cX11_drawOf 33 = .ok (.iload_n 2, 1) := by decide +kernel
theorem dX11_drawOf_34 : decode cX11_drawOf 34 = .ok (.invokevirtual 326, 3) := by decide +kernel
theorem dX11_drawOf_37 : decode cX11_drawOf 37 = .ok (.istore_n 3, 1) := by decide +kernel
theorem dX11_drawOf_38 : decode cX11_drawOf 38 = .ok (.iload_n 3, 1) := by decide +kernel
theorem dX11_drawOf_39 : decode cX11_drawOf 39 = .ok (.ifCond .ge 5, 3) := by decide +kernel
theorem dX11_drawOf_42 : decode cX11_drawOf 42 = .ok (.iconst 0, 1) := by decide +kernel
theorem dX11_drawOf_43 : decode cX11_drawOf 43 = .ok (.ireturn, 1) := by decide +kernel
theorem dX11_drawOf_44 : decode cX11_drawOf 44 = .ok (.aload_n 0, 1) := by decide +kernel
theorem dX11_drawOf_45 : decode cX11_drawOf 45 = .ok (.invokevirtual 329, 3) := by decide +kernel
theorem dX11_drawOf_48 : decode cX11_drawOf 48 = .ok (.iconst 0, 1) := by decide +kernel
theorem dX11_drawOf_49 : decode cX11_drawOf 49 = .ok (.istore 4, 2) := by decide +kernel
theorem dX11_drawOf_51 : decode cX11_drawOf 51 = .ok (.iload 4, 2) := by decide +kernel
theorem dX11_drawOf_53 : decode cX11_drawOf 53 = .ok (.aload_n 0, 1) := by decide +kernel
theorem dX11_drawOf_54 : decode cX11_drawOf 54 = .ok (.getfield 197, 3) := by decide +kernel
theorem dX11_drawOf_57 : decode cX11_drawOf 57 = .ok (.if_icmp .ge 135, 3) := by decide +kernel
theorem dX11_drawOf_60 : decode cX11_drawOf 60 = .ok (.aload_n 0, 1) := by decide +kernel
theorem dX11_drawOf_61 : decode cX11_drawOf 61 = .ok (.getfield 22, 3) := by decide +kernel
theorem dX11_drawOf_64 : decode cX11_drawOf 64 = .ok (.iload 4, 2) := by decide +kernel
theorem dX11_drawOf_66 : decode cX11_drawOf 66 = .ok (.iaload, 1) := by decide +kernel
theorem dX11_drawOf_67 : decode cX11_drawOf 67 = .ok (.aload_n 0, 1) := by decide +kernel
theorem dX11_drawOf_68 : decode cX11_drawOf 68 = .ok (.getfield 68, 3) := by decide +kernel
theorem dX11_drawOf_71 : decode cX11_drawOf 71 = .ok (.iload_n 1, 1) := by decide +kernel
theorem dX11_drawOf_72 : decode cX11_drawOf 72 = .ok (.iaload, 1) := by decide +kernel
theorem dX11_drawOf_73 : decode cX11_drawOf 73 = .ok (.if_icmp .ne 113, 3) := by decide +kernel
theorem dX11_drawOf_76 : decode cX11_drawOf 76 = .ok (.aload_n 0, 1) := by decide +kernel
theorem dX11_drawOf_77 : decode cX11_drawOf 77 = .ok (.iload 4, 2) := by decide +kernel
theorem dX11_drawOf_79 : decode cX11_drawOf 79 = .ok (.iload_n 2, 1) := by decide +kernel
theorem dX11_drawOf_80 : decode cX11_drawOf 80 = .ok (.invokevirtual 258, 3) := by decide +kernel
theorem dX11_drawOf_83 : decode cX11_drawOf 83 = .ok (.ifCond .ne 6, 3) := by decide +kernel
theorem dX11_drawOf_86 : decode cX11_drawOf 86 = .ok (.goto 100, 3) := by decide +kernel
theorem dX11_drawOf_89 : decode cX11_drawOf 89 = .ok (.aload_n 0, 1) := by decide +kernel
theorem dX11_drawOf_90 : decode cX11_drawOf 90 = .ok (.getfield 58, 3) := by decide +kernel
theorem dX11_drawOf_93 : decode cX11_drawOf 93 = .ok (.bipush 110, 2) := by decide +kernel
theorem dX11_drawOf_95 : decode cX11_drawOf 95 = .ok (.dup2, 1) := by decide +kernel
theorem dX11_drawOf_96 : decode cX11_drawOf 96 = .ok (.iaload, 1) := by decide +kernel
theorem dX11_drawOf_97 : decode cX11_drawOf 97 = .ok (.iconst 1, 1) := by decide +kernel
theorem dX11_drawOf_98 : decode cX11_drawOf 98 = .ok (.iadd, 1) := by decide +kernel
theorem dX11_drawOf_99 : decode cX11_drawOf 99 = .ok (.iastore, 1) := by decide +kernel
theorem dX11_drawOf_100 : decode cX11_drawOf 100 = .ok (.aload_n 0, 1) := by decide +kernel
theorem dX11_drawOf_101 : decode cX11_drawOf 101 = .ok (.getfield 58, 3) := by decide +kernel
theorem dX11_drawOf_104 : decode cX11_drawOf 104 = .ok (.bipush 107, 2) := by decide +kernel
theorem dX11_drawOf_106 : decode cX11_drawOf 106 = .ok (.dup2, 1) := by decide +kernel
theorem dX11_drawOf_107 : decode cX11_drawOf 107 = .ok (.iaload, 1) := by decide +kernel
theorem dX11_drawOf_108 : decode cX11_drawOf 108 = .ok (.iload_n 2, 1) := by decide +kernel
theorem dX11_drawOf_109 : decode cX11_drawOf 109 = .ok (.aload_n 0, 1) := by decide +kernel
theorem dX11_drawOf_110 : decode cX11_drawOf 110 = .ok (.getfield 25, 3) := by decide +kernel
theorem dX11_drawOf_113 : decode cX11_drawOf 113 = .ok (.iload 4, 2) := by decide +kernel
theorem dX11_drawOf_115 : decode cX11_drawOf 115 = .ok (.iaload, 1) := by decide +kernel
theorem dX11_drawOf_116 : decode cX11_drawOf 116 = .ok (.isub, 1) := by decide +kernel
theorem dX11_drawOf_117 : decode cX11_drawOf 117 = .ok (.sipush 1825, 3) := by decide +kernel
theorem dX11_drawOf_120 : decode cX11_drawOf 120 = .ok (.if_icmp .ge 7, 3) := by decide +kernel
theorem dX11_drawOf_123 : decode cX11_drawOf 123 = .ok (.iconst 1, 1) := by decide +kernel
theorem dX11_drawOf_124 : decode cX11_drawOf 124 = .ok (.goto 4, 3) := by decide +kernel
theorem dX11_drawOf_127 : decode cX11_drawOf 127 = .ok (.iconst 0, 1) := by decide +kernel
theorem dX11_drawOf_128 : decode cX11_drawOf 128 = .ok (.iadd, 1) := by decide +kernel
theorem dX11_drawOf_129 : decode cX11_drawOf 129 = .ok (.iastore, 1) := by decide +kernel
theorem dX11_drawOf_130 : decode cX11_drawOf 130 = .ok (.aload_n 0, 1) := by decide +kernel
theorem dX11_drawOf_131 : decode cX11_drawOf 131 = .ok (.getfield 58, 3) := by decide +kernel
theorem dX11_drawOf_134 : decode cX11_drawOf 134 = .ok (.bipush 111, 2) := by decide +kernel
theorem dX11_drawOf_136 : decode cX11_drawOf 136 = .ok (.dup2, 1) := by decide +kernel
theorem dX11_drawOf_137 : decode cX11_drawOf 137 = .ok (.iaload, 1) := by decide +kernel
theorem dX11_drawOf_138 : decode cX11_drawOf 138 = .ok (.iload_n 2, 1) := by decide +kernel
theorem dX11_drawOf_139 : decode cX11_drawOf 139 = .ok (.aload_n 0, 1) := by decide +kernel
theorem dX11_drawOf_140 : decode cX11_drawOf 140 = .ok (.getfield 25, 3) := by decide +kernel
theorem dX11_drawOf_143 : decode cX11_drawOf 143 = .ok (.iload 4, 2) := by decide +kernel
theorem dX11_drawOf_145 : decode cX11_drawOf 145 = .ok (.iaload, 1) := by decide +kernel
theorem dX11_drawOf_146 : decode cX11_drawOf 146 = .ok (.isub, 1) := by decide +kernel
theorem dX11_drawOf_147 : decode cX11_drawOf 147 = .ok (.sipush 21900, 3) := by decide +kernel
theorem dX11_drawOf_150 : decode cX11_drawOf 150 = .ok (.if_icmp .le 7, 3) := by decide +kernel
theorem dX11_drawOf_153 : decode cX11_drawOf 153 = .ok (.iconst 1, 1) := by decide +kernel
theorem dX11_drawOf_154 : decode cX11_drawOf 154 = .ok (.goto 4, 3) := by decide +kernel
theorem dX11_drawOf_157 : decode cX11_drawOf 157 = .ok (.iconst 0, 1) := by decide +kernel
theorem dX11_drawOf_158 : decode cX11_drawOf 158 = .ok (.iadd, 1) := by decide +kernel
theorem dX11_drawOf_159 : decode cX11_drawOf 159 = .ok (.iastore, 1) := by decide +kernel
theorem dX11_drawOf_160 : decode cX11_drawOf 160 = .ok (.aload_n 0, 1) := by decide +kernel
theorem dX11_drawOf_161 : decode cX11_drawOf 161 = .ok (.getfield 58, 3) := by decide +kernel
theorem dX11_drawOf_164 : decode cX11_drawOf 164 = .ok (.bipush 115, 2) := by decide +kernel
theorem dX11_drawOf_166 : decode cX11_drawOf 166 = .ok (.dup2, 1) := by decide +kernel
theorem dX11_drawOf_167 : decode cX11_drawOf 167 = .ok (.iaload, 1) := by decide +kernel
theorem dX11_drawOf_168 : decode cX11_drawOf 168 = .ok (.aload_n 0, 1) := by decide +kernel
theorem dX11_drawOf_169 : decode cX11_drawOf 169 = .ok (.iload 4, 2) := by decide +kernel
theorem dX11_drawOf_171 : decode cX11_drawOf 171 = .ok (.iload_n 2, 1) := by decide +kernel
theorem dX11_drawOf_172 : decode cX11_drawOf 172 = .ok (.invokevirtual 252, 3) := by decide +kernel
theorem dX11_drawOf_175 : decode cX11_drawOf 175 = .ok (.iconst 2, 1) := by decide +kernel
theorem dX11_drawOf_176 : decode cX11_drawOf 176 = .ok (.if_icmp .ne 7, 3) := by decide +kernel
theorem dX11_drawOf_179 : decode cX11_drawOf 179 = .ok (.iconst 1, 1) := by decide +kernel
theorem dX11_drawOf_180 : decode cX11_drawOf 180 = .ok (.goto 4, 3) := by decide +kernel
theorem dX11_drawOf_183 : decode cX11_drawOf 183 = .ok (.iconst 0, 1) := by decide +kernel
theorem dX11_drawOf_184 : decode cX11_drawOf 184 = .ok (.iadd, 1) := by decide +kernel
theorem dX11_drawOf_185 : decode cX11_drawOf 185 = .ok (.iastore, 1) := by decide +kernel
theorem dX11_drawOf_186 : decode cX11_drawOf 186 = .ok (.iinc 4 1, 3) := by decide +kernel
theorem dX11_drawOf_189 : decode cX11_drawOf 189 = .ok (.goto (-138), 3) := by decide +kernel
theorem dX11_drawOf_192 : decode cX11_drawOf 192 = .ok (.aload_n 0, 1) := by decide +kernel
theorem dX11_drawOf_193 : decode cX11_drawOf 193 = .ok (.getfield 58, 3) := by decide +kernel
theorem dX11_drawOf_196 : decode cX11_drawOf 196 = .ok (.bipush 100, 2) := by decide +kernel
theorem dX11_drawOf_198 : decode cX11_drawOf 198 = .ok (.iload_n 2, 1) := by decide +kernel
theorem dX11_drawOf_199 : decode cX11_drawOf 199 = .ok (.aload_n 0, 1) := by decide +kernel
theorem dX11_drawOf_200 : decode cX11_drawOf 200 = .ok (.getfield 71, 3) := by decide +kernel
theorem dX11_drawOf_203 : decode cX11_drawOf 203 = .ok (.iload_n 1, 1) := by decide +kernel
theorem dX11_drawOf_204 : decode cX11_drawOf 204 = .ok (.iaload, 1) := by decide +kernel
theorem dX11_drawOf_205 : decode cX11_drawOf 205 = .ok (.isub, 1) := by decide +kernel
theorem dX11_drawOf_206 : decode cX11_drawOf 206 = .ok (.iastore, 1) := by decide +kernel
theorem dX11_drawOf_207 : decode cX11_drawOf 207 = .ok (.aload_n 0, 1) := by decide +kernel
theorem dX11_drawOf_208 : decode cX11_drawOf 208 = .ok (.iload_n 3, 1) := by decide +kernel
theorem dX11_drawOf_209 : decode cX11_drawOf 209 = .ok (.invokevirtual 332, 3) := by decide +kernel
theorem dX11_drawOf_212 : decode cX11_drawOf 212 = .ok (.istore 4, 2) := by decide +kernel
theorem dX11_drawOf_214 : decode cX11_drawOf 214 = .ok (.iload 4, 2) := by decide +kernel
theorem dX11_drawOf_216 : decode cX11_drawOf 216 = .ok (.ifCond .ge 7, 3) := by decide +kernel
theorem dX11_drawOf_219 : decode cX11_drawOf 219 = .ok (.iconst 0, 1) := by decide +kernel
theorem dX11_drawOf_220 : decode cX11_drawOf 220 = .ok (.goto 19, 3) := by decide +kernel
theorem dX11_drawOf_223 : decode cX11_drawOf 223 = .ok (.iload 4, 2) := by decide +kernel
theorem dX11_drawOf_225 : decode cX11_drawOf 225 = .ok (.sipush 9999, 3) := by decide +kernel
theorem dX11_drawOf_228 : decode cX11_drawOf 228 = .ok (.if_icmp .le 9, 3) := by decide +kernel
theorem dX11_drawOf_231 : decode cX11_drawOf 231 = .ok (.sipush 9999, 3) := by decide +kernel
theorem dX11_drawOf_234 : decode cX11_drawOf 234 = .ok (.goto 5, 3) := by decide +kernel
theorem dX11_drawOf_237 : decode cX11_drawOf 237 = .ok (.iload 4, 2) := by decide +kernel
theorem dX11_drawOf_239 : decode cX11_drawOf 239 = .ok (.ireturn, 1) := by decide +kernel
theorem dX11_draw_0 : decode cX11_draw 0 = .ok (.aload_n 0, 1) := by decide +kernel
theorem dX11_draw_1 : decode cX11_draw 1 = .ok (.iload_n 1, 1) := by decide +kernel
theorem dX11_draw_2 : decode cX11_draw 2 = .ok (.invokevirtual 323, 3) := by decide +kernel
theorem dX11_draw_5 : decode cX11_draw 5 = .ok (.ifCond .ne 9, 3) := by decide +kernel
theorem dX11_draw_8 : decode cX11_draw 8 = .ok (.aload_n 0, 1) := by decide +kernel
theorem dX11_draw_9 : decode cX11_draw 9 = .ok (.iconst (-1), 1) := by decide +kernel
theorem dX11_draw_10 : decode cX11_draw 10 = .ok (.invokevirtual 207, 3) := by decide +kernel
theorem dX11_draw_13 : decode cX11_draw 13 = .ok (.ireturn, 1) := by decide +kernel
theorem dX11_draw_14 : decode cX11_draw 14 = .ok (.iload_n 2, 1) := by decide +kernel
theorem dX11_draw_15 : decode cX11_draw 15 = .ok (.i2l, 1) := by decide +kernel
theorem dX11_draw_16 : decode cX11_draw 16 = .ok (.lconst 0, 1) := by decide +kernel
theorem dX11_draw_17 : decode cX11_draw 17 = .ok (.ldc2_w 256, 3) := by decide +kernel
theorem dX11_draw_20 : decode cX11_draw 20 = .ok (.invokestatic 203, 3) := by decide +kernel
theorem dX11_draw_23 : decode cX11_draw 23 = .ok (.istore_n 3, 1) := by decide +kernel
theorem dX11_draw_24 : decode cX11_draw 24 = .ok (.iload_n 3, 1) := by decide +kernel
theorem dX11_draw_25 : decode cX11_draw 25 = .ok (.ifCond .eq 11, 3) := by decide +kernel
theorem dX11_draw_28 : decode cX11_draw 28 = .ok (.aload_n 0, 1) := by decide +kernel
theorem dX11_draw_29 : decode cX11_draw 29 = .ok (.iload_n 3, 1) := by decide +kernel
theorem dX11_draw_30 : decode cX11_draw 30 = .ok (.invokevirtual 207, 3) := by decide +kernel
theorem dX11_draw_33 : decode cX11_draw 33 = .ok (.goto 9, 3) := by decide +kernel
theorem dX11_draw_36 : decode cX11_draw 36 = .ok (.aload_n 0, 1) := by decide +kernel
theorem dX11_draw_37 : decode cX11_draw 37 = .ok (.iload_n 1, 1) := by decide +kernel
theorem dX11_draw_38 : decode cX11_draw 38 = .ok (.iload_n 2, 1) := by decide +kernel
theorem dX11_draw_39 : decode cX11_draw 39 = .ok (.invokevirtual 335, 3) := by decide +kernel
theorem dX11_draw_42 : decode cX11_draw 42 = .ok (.ireturn, 1) := by decide +kernel
theorem dX11_pointsOf_0 : decode cX11_pointsOf 0 = .ok (.aload_n 0, 1) := by decide +kernel
theorem dX11_pointsOf_1 : decode cX11_pointsOf 1 = .ok (.iconst 1, 1) := by decide +kernel
theorem dX11_pointsOf_2 : decode cX11_pointsOf 2 = .ok (.iload_n 2, 1) := by decide +kernel
theorem dX11_pointsOf_3 : decode cX11_pointsOf 3 = .ok (.invokevirtual 326, 3) := by decide +kernel
theorem dX11_pointsOf_6 : decode cX11_pointsOf 6 = .ok (.istore_n 3, 1) := by decide +kernel
theorem dX11_pointsOf_7 : decode cX11_pointsOf 7 = .ok (.iload_n 3, 1) := by decide +kernel
theorem dX11_pointsOf_8 : decode cX11_pointsOf 8 = .ok (.ifCond .ge 5, 3) := by decide +kernel
theorem dX11_pointsOf_11 : decode cX11_pointsOf 11 = .ok (.iconst 0, 1) := by decide +kernel
theorem dX11_pointsOf_12 : decode cX11_pointsOf 12 = .ok (.ireturn, 1) := by decide +kernel
theorem dX11_pointsOf_13 : decode cX11_pointsOf 13 = .ok (.aload_n 0, 1) := by decide +kernel
theorem dX11_pointsOf_14 : decode cX11_pointsOf 14 = .ok (.invokevirtual 329, 3) := by decide +kernel
theorem dX11_pointsOf_17 : decode cX11_pointsOf 17 = .ok (.aload_n 0, 1) := by decide +kernel
theorem dX11_pointsOf_18 : decode cX11_pointsOf 18 = .ok (.getfield 58, 3) := by decide +kernel
theorem dX11_pointsOf_21 : decode cX11_pointsOf 21 = .ok (.bipush 97, 2) := by decide +kernel
theorem dX11_pointsOf_23 : decode cX11_pointsOf 23 = .ok (.iload_n 2, 1) := by decide +kernel
theorem dX11_pointsOf_24 : decode cX11_pointsOf 24 = .ok (.aload_n 0, 1) := by decide +kernel
theorem dX11_pointsOf_25 : decode cX11_pointsOf 25 = .ok (.getfield 25, 3) := by decide +kernel
theorem dX11_pointsOf_28 : decode cX11_pointsOf 28 = .ok (.iload_n 1, 1) := by decide +kernel
theorem dX11_pointsOf_29 : decode cX11_pointsOf 29 = .ok (.iaload, 1) := by decide +kernel
theorem dX11_pointsOf_30 : decode cX11_pointsOf 30 = .ok (.isub, 1) := by decide +kernel
theorem dX11_pointsOf_31 : decode cX11_pointsOf 31 = .ok (.sipush 365, 3) := by decide +kernel
theorem dX11_pointsOf_34 : decode cX11_pointsOf 34 = .ok (.idiv, 1) := by decide +kernel
theorem dX11_pointsOf_35 : decode cX11_pointsOf 35 = .ok (.iastore, 1) := by decide +kernel
theorem dX11_pointsOf_36 : decode cX11_pointsOf 36 = .ok (.aload_n 0, 1) := by decide +kernel
theorem dX11_pointsOf_37 : decode cX11_pointsOf 37 = .ok (.getfield 58, 3) := by decide +kernel
theorem dX11_pointsOf_40 : decode cX11_pointsOf 40 = .ok (.bipush 116, 2) := by decide +kernel
theorem dX11_pointsOf_42 : decode cX11_pointsOf 42 = .ok (.aload_n 0, 1) := by decide +kernel
theorem dX11_pointsOf_43 : decode cX11_pointsOf 43 = .ok (.getfield 28, 3) := by decide +kernel
theorem dX11_pointsOf_46 : decode cX11_pointsOf 46 = .ok (.iload_n 1, 1) := by decide +kernel
theorem dX11_pointsOf_47 : decode cX11_pointsOf 47 = .ok (.iaload, 1) := by decide +kernel
theorem dX11_pointsOf_48 : decode cX11_pointsOf 48 = .ok (.iastore, 1) := by decide +kernel
theorem dX11_pointsOf_49 : decode cX11_pointsOf 49 = .ok (.aload_n 0, 1) := by decide +kernel
theorem dX11_pointsOf_50 : decode cX11_pointsOf 50 = .ok (.getfield 58, 3) := by decide +kernel
theorem dX11_pointsOf_53 : decode cX11_pointsOf 53 = .ok (.bipush 99, 2) := by decide +kernel
theorem dX11_pointsOf_55 : decode cX11_pointsOf 55 = .ok (.iload_n 2, 1) := by decide +kernel
theorem dX11_pointsOf_56 : decode cX11_pointsOf 56 = .ok (.aload_n 0, 1) := by decide +kernel
theorem dX11_pointsOf_57 : decode cX11_pointsOf 57 = .ok (.getfield 31, 3) := by decide +kernel
theorem dX11_pointsOf_60 : decode cX11_pointsOf 60 = .ok (.iload_n 1, 1) := by decide +kernel
theorem dX11_pointsOf_61 : decode cX11_pointsOf 61 = .ok (.iaload, 1) := by decide +kernel
theorem dX11_pointsOf_62 : decode cX11_pointsOf 62 = .ok (.isub, 1) := by decide +kernel
theorem dX11_pointsOf_63 : decode cX11_pointsOf 63 = .ok (.iastore, 1) := by decide +kernel
theorem dX11_pointsOf_64 : decode cX11_pointsOf 64 = .ok (.aload_n 0, 1) := by decide +kernel
theorem dX11_pointsOf_65 : decode cX11_pointsOf 65 = .ok (.getfield 58, 3) := by decide +kernel
theorem dX11_pointsOf_68 : decode cX11_pointsOf 68 = .ok (.bipush 115, 2) := by decide +kernel
theorem dX11_pointsOf_70 : decode cX11_pointsOf 70 = .ok (.aload_n 0, 1) := by decide +kernel
theorem dX11_pointsOf_71 : decode cX11_pointsOf 71 = .ok (.iload_n 1, 1) := by decide +kernel
theorem dX11_pointsOf_72 : decode cX11_pointsOf 72 = .ok (.iload_n 2, 1) := by decide +kernel
theorem dX11_pointsOf_73 : decode cX11_pointsOf 73 = .ok (.invokevirtual 252, 3) := by decide +kernel
theorem dX11_pointsOf_76 : decode cX11_pointsOf 76 = .ok (.iconst 2, 1) := by decide +kernel
theorem dX11_pointsOf_77 : decode cX11_pointsOf 77 = .ok (.if_icmp .ne 7, 3) := by decide +kernel
theorem dX11_pointsOf_80 : decode cX11_pointsOf 80 = .ok (.iconst 1, 1) := by decide +kernel
theorem dX11_pointsOf_81 : decode cX11_pointsOf 81 = .ok (.goto 4, 3) := by decide +kernel
theorem dX11_pointsOf_84 : decode cX11_pointsOf 84 = .ok (.iconst 0, 1) := by decide +kernel
theorem dX11_pointsOf_85 : decode cX11_pointsOf 85 = .ok (.iastore, 1) := by decide +kernel
theorem dX11_pointsOf_86 : decode cX11_pointsOf 86 = .ok (.aload_n 0, 1) := by decide +kernel
theorem dX11_pointsOf_87 : decode cX11_pointsOf 87 = .ok (.getfield 58, 3) := by decide +kernel
theorem dX11_pointsOf_90 : decode cX11_pointsOf 90 = .ok (.bipush 110, 2) := by decide +kernel
theorem dX11_pointsOf_92 : decode cX11_pointsOf 92 = .ok (.aload_n 0, 1) := by decide +kernel
theorem dX11_pointsOf_93 : decode cX11_pointsOf 93 = .ok (.aload_n 0, 1) := by decide +kernel
theorem dX11_pointsOf_94 : decode cX11_pointsOf 94 = .ok (.getfield 22, 3) := by decide +kernel
theorem dX11_pointsOf_97 : decode cX11_pointsOf 97 = .ok (.iload_n 1, 1) := by decide +kernel
theorem dX11_pointsOf_98 : decode cX11_pointsOf 98 = .ok (.iaload, 1) := by decide +kernel
theorem dX11_pointsOf_99 : decode cX11_pointsOf 99 = .ok (.iload_n 2, 1) := by decide +kernel
theorem dX11_pointsOf_100 : decode cX11_pointsOf 100 = .ok (.invokevirtual 262, 3) := by decide +kernel
theorem dX11_pointsOf_103 : decode cX11_pointsOf 103 = .ok (.iastore, 1) := by decide +kernel
theorem dX11_pointsOf_104 : decode cX11_pointsOf 104 = .ok (.aload_n 0, 1) := by decide +kernel
theorem dX11_pointsOf_105 : decode cX11_pointsOf 105 = .ok (.iload_n 3, 1) := by decide +kernel
theorem dX11_pointsOf_106 : decode cX11_pointsOf 106 = .ok (.invokevirtual 332, 3) := by decide +kernel
theorem dX11_pointsOf_109 : decode cX11_pointsOf 109 = .ok (.ireturn, 1) := by decide +kernel
theorem dX11_points_0 : decode cX11_points 0 = .ok (.aload_n 0, 1) := by decide +kernel
theorem dX11_points_1 : decode cX11_points 1 = .ok (.iload_n 1, 1) := by decide +kernel
theorem dX11_points_2 : decode cX11_points 2 = .ok (.invokevirtual 243, 3) := by decide +kernel
theorem dX11_points_5 : decode cX11_points 5 = .ok (.ifCond .ne 9, 3) := by decide +kernel
theorem dX11_points_8 : decode cX11_points 8 = .ok (.aload_n 0, 1) := by decide +kernel
theorem dX11_points_9 : decode cX11_points 9 = .ok (.iconst (-1), 1) := by decide +kernel
theorem dX11_points_10 : decode cX11_points 10 = .ok (.invokevirtual 338, 3) := by decide +kernel
theorem dX11_points_13 : decode cX11_points 13 = .ok (.ireturn, 1) := by decide +kernel
theorem dX11_points_14 : decode cX11_points 14 = .ok (.iload_n 2, 1) := by decide +kernel
theorem dX11_points_15 : decode cX11_points 15 = .ok (.i2l, 1) := by decide +kernel
theorem dX11_points_16 : decode cX11_points 16 = .ok (.lconst 0, 1) := by decide +kernel
theorem dX11_points_17 : decode cX11_points 17 = .ok (.ldc2_w 256, 3) := by decide +kernel
theorem dX11_points_20 : decode cX11_points 20 = .ok (.invokestatic 203, 3) := by decide +kernel
theorem dX11_points_23 : decode cX11_points 23 = .ok (.istore_n 3, 1) := by decide +kernel
theorem dX11_points_24 : decode cX11_points 24 = .ok (.iload_n 3, 1) := by decide +kernel
theorem dX11_points_25 : decode cX11_points 25 = .ok (.ifCond .eq 11, 3) := by decide +kernel
theorem dX11_points_28 : decode cX11_points 28 = .ok (.aload_n 0, 1) := by decide +kernel
theorem dX11_points_29 : decode cX11_points 29 = .ok (.iload_n 3, 1) := by decide +kernel
theorem dX11_points_30 : decode cX11_points 30 = .ok (.invokevirtual 338, 3) := by decide +kernel
theorem dX11_points_33 : decode cX11_points 33 = .ok (.goto 9, 3) := by decide +kernel
theorem dX11_points_36 : decode cX11_points 36 = .ok (.aload_n 0, 1) := by decide +kernel
theorem dX11_points_37 : decode cX11_points 37 = .ok (.iload_n 1, 1) := by decide +kernel
theorem dX11_points_38 : decode cX11_points 38 = .ok (.iload_n 2, 1) := by decide +kernel
theorem dX11_points_39 : decode cX11_points 39 = .ok (.invokevirtual 341, 3) := by decide +kernel
theorem dX11_points_42 : decode cX11_points 42 = .ok (.ireturn, 1) := by decide +kernel
theorem dX11_handed_0 : decode cX11_handed 0 = .ok (.aload_n 0, 1) := by decide +kernel
theorem dX11_handed_1 : decode cX11_handed 1 = .ok (.iload_n 1, 1) := by decide +kernel
theorem dX11_handed_2 : decode cX11_handed 2 = .ok (.invokevirtual 323, 3) := by decide +kernel
theorem dX11_handed_5 : decode cX11_handed 5 = .ok (.ifCond .ne 9, 3) := by decide +kernel
theorem dX11_handed_8 : decode cX11_handed 8 = .ok (.aload_n 0, 1) := by decide +kernel
theorem dX11_handed_9 : decode cX11_handed 9 = .ok (.iconst (-1), 1) := by decide +kernel
theorem dX11_handed_10 : decode cX11_handed 10 = .ok (.invokevirtual 207, 3) := by decide +kernel
theorem dX11_handed_13 : decode cX11_handed 13 = .ok (.ireturn, 1) := by decide +kernel
theorem dX11_handed_14 : decode cX11_handed 14 = .ok (.aload_n 0, 1) := by decide +kernel
theorem dX11_handed_15 : decode cX11_handed 15 = .ok (.getfield 74, 3) := by decide +kernel
theorem dX11_handed_18 : decode cX11_handed 18 = .ok (.iload_n 1, 1) := by decide +kernel
theorem dX11_handed_19 : decode cX11_handed 19 = .ok (.iaload, 1) := by decide +kernel
theorem dX11_handed_20 : decode cX11_handed 20 = .ok (.ifCond .lt 10, 3) := by decide +kernel
theorem dX11_handed_23 : decode cX11_handed 23 = .ok (.aload_n 0, 1) := by decide +kernel
theorem dX11_handed_24 : decode cX11_handed 24 = .ok (.bipush (-3), 2) := by decide +kernel
theorem dX11_handed_26 : decode cX11_handed 26 = .ok (.invokevirtual 207, 3) := by decide +kernel
theorem dX11_handed_29 : decode cX11_handed 29 = .ok (.ireturn, 1) := by decide +kernel
theorem dX11_handed_30 : decode cX11_handed 30 = .ok (.iload_n 2, 1) := by decide +kernel
theorem dX11_handed_31 : decode cX11_handed 31 = .ok (.iconst 1, 1) := by decide +kernel
theorem dX11_handed_32 : decode cX11_handed 32 = .ok (.if_icmp .lt 7, 3) := by decide +kernel
theorem dX11_handed_35 : decode cX11_handed 35 = .ok (.iload_n 3, 1) := by decide +kernel
theorem dX11_handed_36 : decode cX11_handed 36 = .ok (.ifCond .ge 8, 3) := by decide +kernel
theorem dX11_handed_39 : decode cX11_handed 39 = .ok (.bipush (-4), 2) := by decide +kernel
theorem dX11_handed_41 : decode cX11_handed 41 = .ok (.goto 32, 3) := by decide +kernel
theorem dX11_handed_44 : decode cX11_handed 44 = .ok (.iload_n 2, 1) := by decide +kernel
theorem dX11_handed_45 : decode cX11_handed 45 = .ok (.sipush 9999, 3) := by decide +kernel
theorem dX11_handed_48 : decode cX11_handed 48 = .ok (.if_icmp .gt 19, 3) := by decide +kernel
theorem dX11_handed_51 : decode cX11_handed 51 = .ok (.iload_n 3, 1) := by decide +kernel
theorem dX11_handed_52 : decode cX11_handed 52 = .ok (.sipush 9999, 3) := by decide +kernel
theorem dX11_handed_55 : decode cX11_handed 55 = .ok (.if_icmp .gt 12, 3) := by decide +kernel
theorem dX11_handed_58 : decode cX11_handed 58 = .ok (.aload_n 0, 1) := by decide +kernel
theorem dX11_handed_59 : decode cX11_handed 59 = .ok (.getfield 344, 3) := by decide +kernel
theorem dX11_handed_62 : decode cX11_handed 62 = .ok (.bipush 60, 2) := by decide +kernel
theorem dX11_handed_64 : decode cX11_handed 64 = .ok (.if_icmp .ne 8, 3) := by decide +kernel
theorem dX11_handed_67 : decode cX11_handed 67 = .ok (.bipush (-6), 2) := by decide +kernel
theorem dX11_handed_69 : decode cX11_handed 69 = .ok (.goto 4, 3) := by decide +kernel
theorem dX11_handed_72 : decode cX11_handed 72 = .ok (.iconst 0, 1) := by decide +kernel
theorem dX11_handed_73 : decode cX11_handed 73 = .ok (.istore 4, 2) := by decide +kernel
theorem dX11_handed_75 : decode cX11_handed 75 = .ok (.iload 4, 2) := by decide +kernel
theorem dX11_handed_77 : decode cX11_handed 77 = .ok (.ifCond .eq 10, 3) := by decide +kernel
theorem dX11_handed_80 : decode cX11_handed 80 = .ok (.aload_n 0, 1) := by decide +kernel
theorem dX11_handed_81 : decode cX11_handed 81 = .ok (.iload 4, 2) := by decide +kernel
theorem dX11_handed_83 : decode cX11_handed 83 = .ok (.invokevirtual 207, 3) := by decide +kernel
theorem dX11_handed_86 : decode cX11_handed 86 = .ok (.ireturn, 1) := by decide +kernel
theorem dX11_handed_87 : decode cX11_handed 87 = .ok (.aload_n 0, 1) := by decide +kernel
theorem dX11_handed_88 : decode cX11_handed 88 = .ok (.getfield 77, 3) := by decide +kernel
theorem dX11_handed_91 : decode cX11_handed 91 = .ok (.aload_n 0, 1) := by decide +kernel
theorem dX11_handed_92 : decode cX11_handed 92 = .ok (.getfield 344, 3) := by decide +kernel
theorem dX11_handed_95 : decode cX11_handed 95 = .ok (.aload_n 0, 1) := by decide +kernel
theorem dX11_handed_96 : decode cX11_handed 96 = .ok (.getfield 200, 3) := by decide +kernel
theorem dX11_handed_99 : decode cX11_handed 99 = .ok (.iastore, 1) := by decide +kernel
theorem dX11_handed_100 : decode cX11_handed 100 = .ok (.aload_n 0, 1) := by decide +kernel
theorem dX11_handed_101 : decode cX11_handed 101 = .ok (.getfield 80, 3) := by decide +kernel
theorem dX11_handed_104 : decode cX11_handed 104 = .ok (.aload_n 0, 1) := by decide +kernel
theorem dX11_handed_105 : decode cX11_handed 105 = .ok (.getfield 344, 3) := by decide +kernel
theorem dX11_handed_108 : decode cX11_handed 108 = .ok (.iload_n 2, 1) := by decide +kernel
theorem dX11_handed_109 : decode cX11_handed 109 = .ok (.iastore, 1) := by decide +kernel
theorem dX11_handed_110 : decode cX11_handed 110 = .ok (.aload_n 0, 1) := by decide +kernel
theorem dX11_handed_111 : decode cX11_handed 111 = .ok (.getfield 83, 3) := by decide +kernel
theorem dX11_handed_114 : decode cX11_handed 114 = .ok (.aload_n 0, 1) := by decide +kernel
theorem dX11_handed_115 : decode cX11_handed 115 = .ok (.getfield 344, 3) := by decide +kernel
theorem dX11_handed_118 : decode cX11_handed 118 = .ok (.iload_n 3, 1) := by decide +kernel
theorem dX11_handed_119 : decode cX11_handed 119 = .ok (.iastore, 1) := by decide +kernel
theorem dX11_handed_120 : decode cX11_handed 120 = .ok (.aload_n 0, 1) := by decide +kernel
theorem dX11_handed_121 : decode cX11_handed 121 = .ok (.dup, 1) := by decide +kernel
theorem dX11_handed_122 : decode cX11_handed 122 = .ok (.getfield 344, 3) := by decide +kernel
theorem dX11_handed_125 : decode cX11_handed 125 = .ok (.iconst 1, 1) := by decide +kernel
theorem dX11_handed_126 : decode cX11_handed 126 = .ok (.iadd, 1) := by decide +kernel
theorem dX11_handed_127 : decode cX11_handed 127 = .ok (.putfield 344, 3) := by decide +kernel
theorem dX11_handed_130 : decode cX11_handed 130 = .ok (.aload_n 0, 1) := by decide +kernel
theorem dX11_handed_131 : decode cX11_handed 131 = .ok (.getfield 344, 3) := by decide +kernel
theorem dX11_handed_134 : decode cX11_handed 134 = .ok (.ireturn, 1) := by decide +kernel
theorem dX11_lets_0 : decode cX11_lets 0 = .ok (.aload_n 0, 1) := by decide +kernel
theorem dX11_lets_1 : decode cX11_lets 1 = .ok (.getfield 80, 3) := by decide +kernel
theorem dX11_lets_4 : decode cX11_lets 4 = .ok (.iload_n 1, 1) := by decide +kernel
theorem dX11_lets_5 : decode cX11_lets 5 = .ok (.iaload, 1) := by decide +kernel
theorem dX11_lets_6 : decode cX11_lets 6 = .ok (.sipush 1000, 3) := by decide +kernel
theorem dX11_lets_9 : decode cX11_lets 9 = .ok (.iload_n 2, 1) := by decide +kernel
theorem dX11_lets_10 : decode cX11_lets 10 = .ok (.isub, 1) := by decide +kernel
theorem dX11_lets_11 : decode cX11_lets 11 = .ok (.imul, 1) := by decide +kernel
theorem dX11_lets_12 : decode cX11_lets 12 = .ok (.sipush 1000, 3) := by decide +kernel
theorem dX11_lets_15 : decode cX11_lets 15 = .ok (.idiv, 1) := by decide +kernel
theorem dX11_lets_16 : decode cX11_lets 16 = .ok (.aload_n 0, 1) := by decide +kernel
theorem dX11_lets_17 : decode cX11_lets 17 = .ok (.getfield 83, 3) := by decide +kernel
theorem dX11_lets_20 : decode cX11_lets 20 = .ok (.iload_n 1, 1) := by decide +kernel
theorem dX11_lets_21 : decode cX11_lets 21 = .ok (.iaload, 1) := by decide +kernel
theorem dX11_lets_22 : decode cX11_lets 22 = .ok (.isub, 1) := by decide +kernel
theorem dX11_lets_23 : decode cX11_lets 23 = .ok (.i2l, 1) := by decide +kernel
theorem dX11_lets_24 : decode cX11_lets 24 = .ok (.ldc2_w 347, 3) := by decide +kernel
theorem dX11_lets_27 : decode cX11_lets 27 = .ok (.lconst 1, 1) := by decide +kernel
theorem dX11_lets_28 : decode cX11_lets 28 = .ok (.invokestatic 226, 3) := by decide +kernel
theorem dX11_lets_31 : decode cX11_lets 31 = .ok (.ireturn, 1) := by decide +kernel
theorem dX11_leaned_0 : decode cX11_leaned 0 = .ok (.iconst 0, 1) := by decide +kernel
theorem dX11_leaned_1 : decode cX11_leaned 1 = .ok (.istore_n 2, 1) := by decide +kernel
theorem dX11_leaned_2 : decode cX11_leaned 2 = .ok (.iload_n 2, 1) := by decide +kernel
theorem dX11_leaned_3 : decode cX11_leaned 3 = .ok (.aload_n 0, 1) := by decide +kernel
theorem dX11_leaned_4 : decode cX11_leaned 4 = .ok (.getfield 344, 3) := by decide +kernel
theorem dX11_leaned_7 : decode cX11_leaned 7 = .ok (.if_icmp .ge 31, 3) := by decide +kernel
theorem dX11_leaned_10 : decode cX11_leaned 10 = .ok (.aload_n 0, 1) := by decide +kernel
theorem dX11_leaned_11 : decode cX11_leaned 11 = .ok (.getfield 77, 3) := by decide +kernel
theorem dX11_leaned_14 : decode cX11_leaned 14 = .ok (.iload_n 2, 1) := by decide +kernel
theorem dX11_leaned_15 : decode cX11_leaned 15 = .ok (.iaload, 1) := by decide +kernel
theorem dX11_leaned_16 : decode cX11_leaned 16 = .ok (.iload_n 1, 1) := by decide +kernel
theorem dX11_leaned_17 : decode cX11_leaned 17 = .ok (.if_icmp .ge 15, 3) := by decide +kernel
theorem dX11_leaned_20 : decode cX11_leaned 20 = .ok (.aload_n 0, 1) := by decide +kernel
theorem dX11_leaned_21 : decode cX11_leaned 21 = .ok (.iload_n 2, 1) := by decide +kernel
theorem dX11_leaned_22 : decode cX11_leaned 22 = .ok (.iconst 0, 1) := by decide +kernel
theorem dX11_leaned_23 : decode cX11_leaned 23 = .ok (.invokevirtual 349, 3) := by decide +kernel
theorem dX11_leaned_26 : decode cX11_leaned 26 = .ok (.ifCond .ne 6, 3) := by decide +kernel
theorem dX11_leaned_29 : decode cX11_leaned 29 = .ok (.bipush (-9), 2) := by decide +kernel
theorem dX11_leaned_31 : decode cX11_leaned 31 = .ok (.ireturn, 1) := by decide +kernel
theorem dX11_leaned_32 : decode cX11_leaned 32 = .ok (.iinc 2 1, 3) := by decide +kernel
theorem dX11_leaned_35 : decode cX11_leaned 35 = .ok (.goto (-33), 3) := by decide +kernel
theorem dX11_leaned_38 : decode cX11_leaned 38 = .ok (.iconst 0, 1) := by decide +kernel
theorem dX11_leaned_39 : decode cX11_leaned 39 = .ok (.istore_n 2, 1) := by decide +kernel
theorem dX11_leaned_40 : decode cX11_leaned 40 = .ok (.iload_n 2, 1) := by decide +kernel
theorem dX11_leaned_41 : decode cX11_leaned 41 = .ok (.sipush 300, 3) := by decide +kernel
theorem dX11_leaned_44 : decode cX11_leaned 44 = .ok (.if_icmp .gt 66, 3) := by decide +kernel
theorem dX11_leaned_47 : decode cX11_leaned 47 = .ok (.iconst 1, 1) := by decide +kernel
theorem dX11_leaned_48 : decode cX11_leaned 48 = .ok (.istore_n 3, 1) := by decide +kernel
theorem dX11_leaned_49 : decode cX11_leaned 49 = .ok (.iconst 0, 1) := by decide +kernel
theorem dX11_leaned_50 : decode cX11_leaned 50 = .ok (.istore 4, 2) := by decide +kernel
theorem dX11_leaned_52 : decode cX11_leaned 52 = .ok (.iload 4, 2) := by decide +kernel
theorem dX11_leaned_54 : decode cX11_leaned 54 = .ok (.aload_n 0, 1) := by decide +kernel
theorem dX11_leaned_55 : decode cX11_leaned 55 = .ok (.getfield 344, 3) := by decide +kernel
theorem dX11_leaned_58 : decode cX11_leaned 58 = .ok (.if_icmp .ge 40, 3) := by decide +kernel
theorem dX11_leaned_61 : decode cX11_leaned 61 = .ok (.iload_n 3, 1) := by decide +kernel
theorem dX11_leaned_62 : decode cX11_leaned 62 = .ok (.ifCond .eq 28, 3) := by decide +kernel
theorem dX11_leaned_65 : decode cX11_leaned 65 = .ok (.aload_n 0, 1) := by decide +kernel
theorem dX11_leaned_66 : decode cX11_leaned 66 = .ok (.getfield 77, 3) := by decide +kernel
theorem dX11_leaned_69 : decode cX11_leaned 69 = .ok (.iload 4, 2) := by decide +kernel
theorem dX11_leaned_71 : decode cX11_leaned 71 = .ok (.iaload, 1) := by decide +kernel
theorem dX11_leaned_72 : decode cX11_leaned 72 = .ok (.iload_n 1, 1) := by decide +kernel
theorem dX11_leaned_73 : decode cX11_leaned 73 = .ok (.if_icmp .lt 13, 3) := by decide +kernel
theorem dX11_leaned_76 : decode cX11_leaned 76 = .ok (.aload_n 0, 1) := by decide +kernel
theorem dX11_leaned_77 : decode cX11_leaned 77 = .ok (.iload 4, 2) := by decide +kernel
theorem dX11_leaned_79 : decode cX11_leaned 79 = .ok (.iload_n 2, 1) := by decide +kernel
theorem dX11_leaned_80 : decode cX11_leaned 80 = .ok (.invokevirtual 349, 3) := by decide +kernel
theorem dX11_leaned_83 : decode cX11_leaned 83 = .ok (.ifCond .eq 7, 3) := by decide +kernel
theorem dX11_leaned_86 : decode cX11_leaned 86 = .ok (.iconst 1, 1) := by decide +kernel
theorem dX11_leaned_87 : decode cX11_leaned 87 = .ok (.goto 4, 3) := by decide +kernel
theorem dX11_leaned_90 : decode cX11_leaned 90 = .ok (.iconst 0, 1) := by decide +kernel
theorem dX11_leaned_91 : decode cX11_leaned 91 = .ok (.istore_n 3, 1) := by decide +kernel
theorem dX11_leaned_92 : decode cX11_leaned 92 = .ok (.iinc 4 1, 3) := by decide +kernel
theorem dX11_leaned_95 : decode cX11_leaned 95 = .ok (.goto (-43), 3) := by decide +kernel
theorem dX11_leaned_98 : decode cX11_leaned 98 = .ok (.iload_n 3, 1) := by decide +kernel
theorem dX11_leaned_99 : decode cX11_leaned 99 = .ok (.ifCond .eq 5, 3) := by decide +kernel
theorem dX11_leaned_102 : decode cX11_leaned 102 = .ok (.iload_n 2, 1) := by decide +kernel
theorem dX11_leaned_103 : decode cX11_leaned 103 = .ok (.ireturn, 1) := by decide +kernel
theorem dX11_leaned_104 : decode cX11_leaned 104 = .ok (.iinc 2 1, 3) := by decide +kernel
theorem dX11_leaned_107 : decode cX11_leaned 107 = .ok (.goto (-67), 3) := by decide +kernel
theorem dX11_leaned_110 : decode cX11_leaned 110 = .ok (.bipush (-9), 2) := by decide +kernel
theorem dX11_leaned_112 : decode cX11_leaned 112 = .ok (.ireturn, 1) := by decide +kernel
theorem dX11_since_0 : decode cX11_since 0 = .ok (.iload_n 1, 1) := by decide +kernel
theorem dX11_since_1 : decode cX11_since 1 = .ok (.i2l, 1) := by decide +kernel
theorem dX11_since_2 : decode cX11_since 2 = .ok (.lconst 0, 1) := by decide +kernel
theorem dX11_since_3 : decode cX11_since 3 = .ok (.lconst 1, 1) := by decide +kernel
theorem dX11_since_4 : decode cX11_since 4 = .ok (.invokestatic 226, 3) := by decide +kernel
theorem dX11_since_7 : decode cX11_since 7 = .ok (.ifCond .ne 10, 3) := by decide +kernel
theorem dX11_since_10 : decode cX11_since 10 = .ok (.aload_n 0, 1) := by decide +kernel
theorem dX11_since_11 : decode cX11_since 11 = .ok (.bipush (-2), 2) := by decide +kernel
theorem dX11_since_13 : decode cX11_since 13 = .ok (.invokevirtual 207, 3) := by decide +kernel
theorem dX11_since_16 : decode cX11_since 16 = .ok (.ireturn, 1) := by decide +kernel
theorem dX11_since_17 : decode cX11_since 17 = .ok (.aload_n 0, 1) := by decide +kernel
theorem dX11_since_18 : decode cX11_since 18 = .ok (.getfield 200, 3) := by decide +kernel
theorem dX11_since_21 : decode cX11_since 21 = .ok (.iconst 1, 1) := by decide +kernel
theorem dX11_since_22 : decode cX11_since 22 = .ok (.iadd, 1) := by decide +kernel
theorem dX11_since_23 : decode cX11_since 23 = .ok (.istore_n 2, 1) := by decide +kernel
theorem dX11_since_24 : decode cX11_since 24 = .ok (.iload_n 2, 1) := by decide +kernel
theorem dX11_since_25 : decode cX11_since 25 = .ok (.ifCond .lt 29, 3) := by decide +kernel
theorem dX11_since_28 : decode cX11_since 28 = .ok (.aload_n 0, 1) := by decide +kernel
theorem dX11_since_29 : decode cX11_since 29 = .ok (.iload_n 2, 1) := by decide +kernel
theorem dX11_since_30 : decode cX11_since 30 = .ok (.invokevirtual 352, 3) := by decide +kernel
theorem dX11_since_33 : decode cX11_since 33 = .ok (.istore_n 3, 1) := by decide +kernel
theorem dX11_since_34 : decode cX11_since 34 = .ok (.iload_n 3, 1) := by decide +kernel
theorem dX11_since_35 : decode cX11_since 35 = .ok (.ifCond .lt 13, 3) := by decide +kernel
theorem dX11_since_38 : decode cX11_since 38 = .ok (.iload_n 1, 1) := by decide +kernel
theorem dX11_since_39 : decode cX11_since 39 = .ok (.ifCond .ne 7, 3) := by decide +kernel
theorem dX11_since_42 : decode cX11_since 42 = .ok (.iload_n 2, 1) := by decide +kernel
theorem dX11_since_43 : decode cX11_since 43 = .ok (.goto 4, 3) := by decide +kernel
theorem dX11_since_46 : decode cX11_since 46 = .ok (.iload_n 3, 1) := by decide +kernel
theorem dX11_since_47 : decode cX11_since 47 = .ok (.ireturn, 1) := by decide +kernel
theorem dX11_since_48 : decode cX11_since 48 = .ok (.iinc 2 (-1), 3) := by decide +kernel
theorem dX11_since_51 : decode cX11_since 51 = .ok (.goto (-27), 3) := by decide +kernel
theorem dX11_since_54 : decode cX11_since 54 = .ok (.bipush (-9), 2) := by decide +kernel
theorem dX11_since_56 : decode cX11_since 56 = .ok (.ireturn, 1) := by decide +kernel
theorem dX11_pairsOf_0 : decode cX11_pairsOf 0 = .ok (.iconst 0, 1) := by decide +kernel
theorem dX11_pairsOf_1 : decode cX11_pairsOf 1 = .ok (.istore_n 3, 1) := by decide +kernel
theorem dX11_pairsOf_2 : decode cX11_pairsOf 2 = .ok (.iconst 0, 1) := by decide +kernel
theorem dX11_pairsOf_3 : decode cX11_pairsOf 3 = .ok (.istore 4, 2) := by decide +kernel
theorem dX11_pairsOf_5 : decode cX11_pairsOf 5 = .ok (.iload 4, 2) := by decide +kernel
theorem dX11_pairsOf_7 : decode cX11_pairsOf 7 = .ok (.aload_n 0, 1) := by decide +kernel
theorem dX11_pairsOf_8 : decode cX11_pairsOf 8 = .ok (.getfield 197, 3) := by decide +kernel
theorem dX11_pairsOf_11 : decode cX11_pairsOf 11 = .ok (.if_icmp .ge 17, 3) := by decide +kernel
theorem dX11_pairsOf_14 : decode cX11_pairsOf 14 = .ok (.aload_n 0, 1) := by decide +kernel
theorem dX11_pairsOf_15 : decode cX11_pairsOf 15 = .ok (.getfield 86, 3) := by decide +kernel
theorem dX11_pairsOf_18 : decode cX11_pairsOf 18 = .ok (.iload 4, 2) := by decide +kernel
theorem dX11_pairsOf_20 : decode cX11_pairsOf 20 = .ok (.iconst 1, 1) := by decide +kernel
theorem dX11_pairsOf_21 : decode cX11_pairsOf 21 = .ok (.bastore, 1) := by decide +kernel
theorem dX11_pairsOf_22 : decode cX11_pairsOf 22 = .ok (.iinc 4 1, 3) := by decide +kernel
theorem dX11_pairsOf_25 : decode cX11_pairsOf 25 = .ok (.goto (-20), 3) := by decide +kernel
theorem dX11_pairsOf_28 : decode cX11_pairsOf 28 = .ok (.iconst 0, 1) := by decide +kernel
theorem dX11_pairsOf_29 : decode cX11_pairsOf 29 = .ok (.istore 4, 2) := by decide +kernel
theorem dX11_pairsOf_31 : decode cX11_pairsOf 31 = .ok (.iload 4, 2) := by decide +kernel
theorem dX11_pairsOf_33 : decode cX11_pairsOf 33 = .ok (.aload_n 0, 1) := by decide +kernel
theorem dX11_pairsOf_34 : decode cX11_pairsOf 34 = .ok (.getfield 197, 3) := by decide +kernel
theorem dX11_pairsOf_37 : decode cX11_pairsOf 37 = .ok (.if_icmp .ge 168, 3) := by decide +kernel
theorem dX11_pairsOf_40 : decode cX11_pairsOf 40 = .ok (.aload_n 0, 1) := by decide +kernel
theorem dX11_pairsOf_41 : decode cX11_pairsOf 41 = .ok (.getfield 22, 3) := by decide +kernel
theorem dX11_pairsOf_44 : decode cX11_pairsOf 44 = .ok (.iload 4, 2) := by decide +kernel
theorem dX11_pairsOf_46 : decode cX11_pairsOf 46 = .ok (.iaload, 1) := by decide +kernel
theorem dX11_pairsOf_47 : decode cX11_pairsOf 47 = .ok (.aload_n 0, 1) := by decide +kernel
theorem dX11_pairsOf_48 : decode cX11_pairsOf 48 = .ok (.getfield 68, 3) := by decide +kernel
theorem dX11_pairsOf_51 : decode cX11_pairsOf 51 = .ok (.iload_n 1, 1) := by decide +kernel
theorem dX11_pairsOf_52 : decode cX11_pairsOf 52 = .ok (.iaload, 1) := by decide +kernel
theorem dX11_pairsOf_53 : decode cX11_pairsOf 53 = .ok (.if_icmp .ne 146, 3) := by decide +kernel
theorem dX11_pairsOf_56 : decode cX11_pairsOf 56 = .ok (.aload_n 0, 1) := by decide +kernel
theorem dX11_pairsOf_57 : decode cX11_pairsOf 57 = .ok (.iload 4, 2) := by decide +kernel
theorem dX11_pairsOf_59 : decode cX11_pairsOf 59 = .ok (.aload_n 0, 1) := by decide +kernel
theorem dX11_pairsOf_60 : decode cX11_pairsOf 60 = .ok (.getfield 200, 3) := by decide +kernel
theorem dX11_pairsOf_63 : decode cX11_pairsOf 63 = .ok (.invokevirtual 258, 3) := by decide +kernel
theorem dX11_pairsOf_66 : decode cX11_pairsOf 66 = .ok (.ifCond .ne 6, 3) := by decide +kernel
theorem dX11_pairsOf_69 : decode cX11_pairsOf 69 = .ok (.goto 130, 3) := by decide +kernel
theorem dX11_pairsOf_72 : decode cX11_pairsOf 72 = .ok (.iconst 0, 1) := by decide +kernel
theorem dX11_pairsOf_73 : decode cX11_pairsOf 73 = .ok (.istore 5, 2) := by decide +kernel
theorem dX11_pairsOf_75 : decode cX11_pairsOf 75 = .ok (.iconst 0, 1) := by decide +kernel
theorem dX11_pairsOf_76 : decode cX11_pairsOf 76 = .ok (.istore 6, 2) := by decide +kernel
theorem dX11_pairsOf_78 : decode cX11_pairsOf 78 = .ok (.iload 6, 2) := by decide +kernel
theorem dX11_pairsOf_80 : decode cX11_pairsOf 80 = .ok (.aload_n 0, 1) := by decide +kernel
theorem dX11_pairsOf_81 : decode cX11_pairsOf 81 = .ok (.getfield 197, 3) := by decide +kernel
theorem dX11_pairsOf_84 : decode cX11_pairsOf 84 = .ok (.if_icmp .ge 115, 3) := by decide +kernel
theorem dX11_pairsOf_87 : decode cX11_pairsOf 87 = .ok (.iload 5, 2) := by decide +kernel
theorem dX11_pairsOf_89 : decode cX11_pairsOf 89 = .ok (.ifCond .ne 110, 3) := by decide +kernel
theorem dX11_pairsOf_92 : decode cX11_pairsOf 92 = .ok (.aload_n 0, 1) := by decide +kernel
theorem dX11_pairsOf_93 : decode cX11_pairsOf 93 = .ok (.getfield 22, 3) := by decide +kernel
theorem dX11_pairsOf_96 : decode cX11_pairsOf 96 = .ok (.iload 6, 2) := by decide +kernel
theorem dX11_pairsOf_98 : decode cX11_pairsOf 98 = .ok (.iaload, 1) := by decide +kernel
theorem dX11_pairsOf_99 : decode cX11_pairsOf 99 = .ok (.aload_n 0, 1) := by decide +kernel
theorem dX11_pairsOf_100 : decode cX11_pairsOf 100 = .ok (.getfield 68, 3) := by decide +kernel
theorem dX11_pairsOf_103 : decode cX11_pairsOf 103 = .ok (.iload_n 2, 1) := by decide +kernel
theorem dX11_pairsOf_104 : decode cX11_pairsOf 104 = .ok (.iaload, 1) := by decide +kernel
theorem dX11_pairsOf_105 : decode cX11_pairsOf 105 = .ok (.if_icmp .ne 88, 3) := by decide +kernel
theorem dX11_pairsOf_108 : decode cX11_pairsOf 108 = .ok (.aload_n 0, 1) := by decide +kernel
theorem dX11_pairsOf_109 : decode cX11_pairsOf 109 = .ok (.iload 6, 2) := by decide +kernel
theorem dX11_pairsOf_111 : decode cX11_pairsOf 111 = .ok (.aload_n 0, 1) := by decide +kernel
theorem dX11_pairsOf_112 : decode cX11_pairsOf 112 = .ok (.getfield 200, 3) := by decide +kernel
theorem dX11_pairsOf_115 : decode cX11_pairsOf 115 = .ok (.invokevirtual 258, 3) := by decide +kernel
theorem dX11_pairsOf_118 : decode cX11_pairsOf 118 = .ok (.ifCond .eq 75, 3) := by decide +kernel
theorem dX11_pairsOf_121 : decode cX11_pairsOf 121 = .ok (.aload_n 0, 1) := by decide +kernel
theorem dX11_pairsOf_122 : decode cX11_pairsOf 122 = .ok (.getfield 86, 3) := by decide +kernel
theorem dX11_pairsOf_125 : decode cX11_pairsOf 125 = .ok (.iload 6, 2) := by decide +kernel
theorem dX11_pairsOf_127 : decode cX11_pairsOf 127 = .ok (.baload, 1) := by decide +kernel
theorem dX11_pairsOf_128 : decode cX11_pairsOf 128 = .ok (.ifCond .eq 65, 3) := by decide +kernel
theorem dX11_pairsOf_131 : decode cX11_pairsOf 131 = .ok (.aload_n 0, 1) := by decide +kernel
theorem dX11_pairsOf_132 : decode cX11_pairsOf 132 = .ok (.getfield 25, 3) := by decide +kernel
theorem dX11_pairsOf_135 : decode cX11_pairsOf 135 = .ok (.iload 4, 2) := by decide +kernel
theorem dX11_pairsOf_137 : decode cX11_pairsOf 137 = .ok (.iaload, 1) := by decide +kernel
theorem dX11_pairsOf_138 : decode cX11_pairsOf 138 = .ok (.aload_n 0, 1) := by decide +kernel
theorem dX11_pairsOf_139 : decode cX11_pairsOf 139 = .ok (.getfield 25, 3) := by decide +kernel
theorem dX11_pairsOf_142 : decode cX11_pairsOf 142 = .ok (.iload 6, 2) := by decide +kernel
theorem dX11_pairsOf_144 : decode cX11_pairsOf 144 = .ok (.iaload, 1) := by decide +kernel
theorem dX11_pairsOf_145 : decode cX11_pairsOf 145 = .ok (.isub, 1) := by decide +kernel
theorem dX11_pairsOf_146 : decode cX11_pairsOf 146 = .ok (.i2l, 1) := by decide +kernel
theorem dX11_pairsOf_147 : decode cX11_pairsOf 147 = .ok (.ldc2_w 355, 3) := by decide +kernel
theorem dX11_pairsOf_150 : decode cX11_pairsOf 150 = .ok (.ldc2_w 224, 3) := by decide +kernel
theorem dX11_pairsOf_153 : decode cX11_pairsOf 153 = .ok (.invokestatic 226, 3) := by decide +kernel
theorem dX11_pairsOf_156 : decode cX11_pairsOf 156 = .ok (.ifCond .eq 37, 3) := by decide +kernel
theorem dX11_pairsOf_159 : decode cX11_pairsOf 159 = .ok (.aload_n 0, 1) := by decide +kernel
theorem dX11_pairsOf_160 : decode cX11_pairsOf 160 = .ok (.getfield 28, 3) := by decide +kernel
theorem dX11_pairsOf_163 : decode cX11_pairsOf 163 = .ok (.iload 4, 2) := by decide +kernel
theorem dX11_pairsOf_165 : decode cX11_pairsOf 165 = .ok (.iaload, 1) := by decide +kernel
theorem dX11_pairsOf_166 : decode cX11_pairsOf 166 = .ok (.aload_n 0, 1) := by decide +kernel
theorem dX11_pairsOf_167 : decode cX11_pairsOf 167 = .ok (.getfield 28, 3) := by decide +kernel
theorem dX11_pairsOf_170 : decode cX11_pairsOf 170 = .ok (.iload 6, 2) := by decide +kernel
theorem dX11_pairsOf_172 : decode cX11_pairsOf 172 = .ok (.iaload, 1) := by decide +kernel
theorem dX11_pairsOf_173 : decode cX11_pairsOf 173 = .ok (.if_icmp .eq 6, 3) := by decide +kernel
theorem dX11_pairsOf_176 : decode cX11_pairsOf 176 = .ok (.goto 17, 3) := by decide +kernel
theorem dX11_pairsOf_179 : decode cX11_pairsOf 179 = .ok (.aload_n 0, 1) := by decide +kernel
theorem dX11_pairsOf_180 : decode cX11_pairsOf 180 = .ok (.getfield 86, 3) := by decide +kernel
theorem dX11_pairsOf_183 : decode cX11_pairsOf 183 = .ok (.iload 6, 2) := by decide +kernel
theorem dX11_pairsOf_185 : decode cX11_pairsOf 185 = .ok (.iconst 0, 1) := by decide +kernel
theorem dX11_pairsOf_186 : decode cX11_pairsOf 186 = .ok (.bastore, 1) := by decide +kernel
theorem dX11_pairsOf_187 : decode cX11_pairsOf 187 = .ok (.iconst 1, 1) := by decide +kernel
theorem dX11_pairsOf_188 : decode cX11_pairsOf 188 = .ok (.istore 5, 2) := by decide +kernel
theorem dX11_pairsOf_190 : decode cX11_pairsOf 190 = .ok (.iinc 3 1, 3) := by decide +kernel
theorem dX11_pairsOf_193 : decode cX11_pairsOf 193 = .ok (.iinc 6 1, 3) := by decide +kernel
theorem dX11_pairsOf_196 : decode cX11_pairsOf 196 = .ok (.goto (-118), 3) := by decide +kernel
theorem dX11_pairsOf_199 : decode cX11_pairsOf 199 = .ok (.iinc 4 1, 3) := by decide +kernel
theorem dX11_pairsOf_202 : decode cX11_pairsOf 202 = .ok (.goto (-171), 3) := by decide +kernel
theorem dX11_pairsOf_205 : decode cX11_pairsOf 205 = .ok (.iload_n 3, 1) := by decide +kernel
theorem dX11_pairsOf_206 : decode cX11_pairsOf 206 = .ok (.ireturn, 1) := by decide +kernel
theorem dX11_notTwo_0 : decode cX11_notTwo 0 = .ok (.aload_n 0, 1) := by decide +kernel
theorem dX11_notTwo_1 : decode cX11_notTwo 1 = .ok (.iload_n 1, 1) := by decide +kernel
theorem dX11_notTwo_2 : decode cX11_notTwo 2 = .ok (.invokevirtual 323, 3) := by decide +kernel
theorem dX11_notTwo_5 : decode cX11_notTwo 5 = .ok (.ifCond .eq 16, 3) := by decide +kernel
theorem dX11_notTwo_8 : decode cX11_notTwo 8 = .ok (.aload_n 0, 1) := by decide +kernel
theorem dX11_notTwo_9 : decode cX11_notTwo 9 = .ok (.iload_n 2, 1) := by decide +kernel
theorem dX11_notTwo_10 : decode cX11_notTwo 10 = .ok (.invokevirtual 323, 3) := by decide +kernel
theorem dX11_notTwo_13 : decode cX11_notTwo 13 = .ok (.ifCond .eq 8, 3) := by decide +kernel
theorem dX11_notTwo_16 : decode cX11_notTwo 16 = .ok (.iload_n 1, 1) := by decide +kernel
theorem dX11_notTwo_17 : decode cX11_notTwo 17 = .ok (.iload_n 2, 1) := by decide +kernel
theorem dX11_notTwo_18 : decode cX11_notTwo 18 = .ok (.if_icmp .ne 7, 3) := by decide +kernel
theorem dX11_notTwo_21 : decode cX11_notTwo 21 = .ok (.iconst (-1), 1) := by decide +kernel
theorem dX11_notTwo_22 : decode cX11_notTwo 22 = .ok (.goto 27, 3) := by decide +kernel
theorem dX11_notTwo_25 : decode cX11_notTwo 25 = .ok (.aload_n 0, 1) := by decide +kernel
theorem dX11_notTwo_26 : decode cX11_notTwo 26 = .ok (.getfield 74, 3) := by decide +kernel
theorem dX11_notTwo_29 : decode cX11_notTwo 29 = .ok (.iload_n 1, 1) := by decide +kernel
theorem dX11_notTwo_30 : decode cX11_notTwo 30 = .ok (.iaload, 1) := by decide +kernel
theorem dX11_notTwo_31 : decode cX11_notTwo 31 = .ok (.ifCond .ge 12, 3) := by decide +kernel
theorem dX11_notTwo_34 : decode cX11_notTwo 34 = .ok (.aload_n 0, 1) := by decide +kernel
theorem dX11_notTwo_35 : decode cX11_notTwo 35 = .ok (.getfield 74, 3) := by decide +kernel
theorem dX11_notTwo_38 : decode cX11_notTwo 38 = .ok (.iload_n 2, 1) := by decide +kernel
theorem dX11_notTwo_39 : decode cX11_notTwo 39 = .ok (.iaload, 1) := by decide +kernel
theorem dX11_notTwo_40 : decode cX11_notTwo 40 = .ok (.ifCond .lt 8, 3) := by decide +kernel
theorem dX11_notTwo_43 : decode cX11_notTwo 43 = .ok (.bipush (-3), 2) := by decide +kernel
theorem dX11_notTwo_45 : decode cX11_notTwo 45 = .ok (.goto 4, 3) := by decide +kernel
theorem dX11_notTwo_48 : decode cX11_notTwo 48 = .ok (.iconst 0, 1) := by decide +kernel
theorem dX11_notTwo_49 : decode cX11_notTwo 49 = .ok (.ireturn, 1) := by decide +kernel
theorem dX11_pairs_0 : decode cX11_pairs 0 = .ok (.aload_n 0, 1) := by decide +kernel
theorem dX11_pairs_1 : decode cX11_pairs 1 = .ok (.iload_n 1, 1) := by decide +kernel
theorem dX11_pairs_2 : decode cX11_pairs 2 = .ok (.iload_n 2, 1) := by decide +kernel
theorem dX11_pairs_3 : decode cX11_pairs 3 = .ok (.invokevirtual 357, 3) := by decide +kernel
theorem dX11_pairs_6 : decode cX11_pairs 6 = .ok (.istore_n 3, 1) := by decide +kernel
theorem dX11_pairs_7 : decode cX11_pairs 7 = .ok (.iload_n 3, 1) := by decide +kernel
theorem dX11_pairs_8 : decode cX11_pairs 8 = .ok (.ifCond .eq 11, 3) := by decide +kernel
theorem dX11_pairs_11 : decode cX11_pairs 11 = .ok (.aload_n 0, 1) := by decide +kernel
theorem dX11_pairs_12 : decode cX11_pairs 12 = .ok (.iload_n 3, 1) := by decide +kernel
theorem dX11_pairs_13 : decode cX11_pairs 13 = .ok (.invokevirtual 207, 3) := by decide +kernel
theorem dX11_pairs_16 : decode cX11_pairs 16 = .ok (.goto 9, 3) := by decide +kernel
theorem dX11_pairs_19 : decode cX11_pairs 19 = .ok (.aload_n 0, 1) := by decide +kernel
theorem dX11_pairs_20 : decode cX11_pairs 20 = .ok (.iload_n 1, 1) := by decide +kernel
theorem dX11_pairs_21 : decode cX11_pairs 21 = .ok (.iload_n 2, 1) := by decide +kernel
theorem dX11_pairs_22 : decode cX11_pairs 22 = .ok (.invokevirtual 360, 3) := by decide +kernel
theorem dX11_pairs_25 : decode cX11_pairs 25 = .ok (.ireturn, 1) := by decide +kernel
theorem dX11_away_0 : decode cX11_away 0 = .ok (.iload_n 0, 1) := by decide +kernel
theorem dX11_away_1 : decode cX11_away 1 = .ok (.ifCond .ge 8, 3) := by decide +kernel
theorem dX11_away_4 : decode cX11_away 4 = .ok (.iload_n 0, 1) := by decide +kernel
theorem dX11_away_5 : decode cX11_away 5 = .ok (.ineg, 1) := by decide +kernel
theorem dX11_away_6 : decode cX11_away 6 = .ok (.goto 4, 3) := by decide +kernel
theorem dX11_away_9 : decode cX11_away 9 = .ok (.iload_n 0, 1) := by decide +kernel
theorem dX11_away_10 : decode cX11_away 10 = .ok (.ireturn, 1) := by decide +kernel
theorem dX11_far_0 : decode cX11_far 0 = .ok (.iload_n 0, 1) := by decide +kernel
theorem dX11_far_1 : decode cX11_far 1 = .ok (.bipush 12, 2) := by decide +kernel
theorem dX11_far_3 : decode cX11_far 3 = .ok (.irem, 1) := by decide +kernel
theorem dX11_far_4 : decode cX11_far 4 = .ok (.iload_n 1, 1) := by decide +kernel
theorem dX11_far_5 : decode cX11_far 5 = .ok (.bipush 12, 2) := by decide +kernel
theorem dX11_far_7 : decode cX11_far 7 = .ok (.irem, 1) := by decide +kernel
theorem dX11_far_8 : decode cX11_far 8 = .ok (.isub, 1) := by decide +kernel
theorem dX11_far_9 : decode cX11_far 9 = .ok (.invokestatic 363, 3) := by decide +kernel
theorem dX11_far_12 : decode cX11_far 12 = .ok (.iload_n 0, 1) := by decide +kernel
theorem dX11_far_13 : decode cX11_far 13 = .ok (.bipush 12, 2) := by decide +kernel
theorem dX11_far_15 : decode cX11_far 15 = .ok (.idiv, 1) := by decide +kernel
theorem dX11_far_16 : decode cX11_far 16 = .ok (.iload_n 1, 1) := by decide +kernel
theorem dX11_far_17 : decode cX11_far 17 = .ok (.bipush 12, 2) := by decide +kernel
theorem dX11_far_19 : decode cX11_far 19 = .ok (.idiv, 1) := by decide +kernel
theorem dX11_far_20 : decode cX11_far 20 = .ok (.isub, 1) := by decide +kernel
theorem dX11_far_21 : decode cX11_far 21 = .ok (.invokestatic 363, 3) := by decide +kernel
theorem dX11_far_24 : decode cX11_far 24 = .ok (.iadd, 1) := by decide +kernel
theorem dX11_far_25 : decode cX11_far 25 = .ok (.ireturn, 1) := by decide +kernel
theorem dX11_alike_0 : decode cX11_alike 0 = .ok (.aload_n 0, 1) := by decide +kernel
theorem dX11_alike_1 : decode cX11_alike 1 = .ok (.iload_n 1, 1) := by decide +kernel
theorem dX11_alike_2 : decode cX11_alike 2 = .ok (.iload_n 2, 1) := by decide +kernel
theorem dX11_alike_3 : decode cX11_alike 3 = .ok (.invokevirtual 357, 3) := by decide +kernel
theorem dX11_alike_6 : decode cX11_alike 6 = .ok (.istore_n 3, 1) := by decide +kernel
theorem dX11_alike_7 : decode cX11_alike 7 = .ok (.iload_n 3, 1) := by decide +kernel
theorem dX11_alike_8 : decode cX11_alike 8 = .ok (.ifCond .eq 9, 3) := by decide +kernel
theorem dX11_alike_11 : decode cX11_alike 11 = .ok (.aload_n 0, 1) := by decide +kernel
theorem dX11_alike_12 : decode cX11_alike 12 = .ok (.iload_n 3, 1) := by decide +kernel
theorem dX11_alike_13 : decode cX11_alike 13 = .ok (.invokevirtual 207, 3) := by decide +kernel
theorem dX11_alike_16 : decode cX11_alike 16 = .ok (.ireturn, 1) := by decide +kernel
theorem dX11_alike_17 : decode cX11_alike 17 = .ok (.aload_n 0, 1) := by decide +kernel
theorem dX11_alike_18 : decode cX11_alike 18 = .ok (.getfield 68, 3) := by decide +kernel
theorem dX11_alike_21 : decode cX11_alike 21 = .ok (.iload_n 1, 1) := by decide +kernel
theorem dX11_alike_22 : decode cX11_alike 22 = .ok (.iaload, 1) := by decide +kernel
theorem dX11_alike_23 : decode cX11_alike 23 = .ok (.istore 4, 2) := by decide +kernel
theorem dX11_alike_25 : decode cX11_alike 25 = .ok (.aload_n 0, 1) := by decide +kernel
theorem dX11_alike_26 : decode cX11_alike 26 = .ok (.getfield 68, 3) := by decide +kernel
theorem dX11_alike_29 : decode cX11_alike 29 = .ok (.iload_n 2, 1) := by decide +kernel
theorem dX11_alike_30 : decode cX11_alike 30 = .ok (.iaload, 1) := by decide +kernel
theorem dX11_alike_31 : decode cX11_alike 31 = .ok (.istore 5, 2) := by decide +kernel
theorem dX11_alike_33 : decode cX11_alike 33 = .ok (.iload 4, 2) := by decide +kernel
theorem dX11_alike_35 : decode cX11_alike 35 = .ok (.iload 5, 2) := by decide +kernel
theorem dX11_alike_37 : decode cX11_alike 37 = .ok (.if_icmp .ne 5, 3) := by decide +kernel
theorem dX11_alike_40 : decode cX11_alike 40 = .ok (.iconst 2, 1) := by decide +kernel
theorem dX11_alike_41 : decode cX11_alike 41 = .ok (.ireturn, 1) := by decide +kernel
theorem dX11_alike_42 : decode cX11_alike 42 = .ok (.aload_n 0, 1) := by decide +kernel
theorem dX11_alike_43 : decode cX11_alike 43 = .ok (.iload_n 1, 1) := by decide +kernel
theorem dX11_alike_44 : decode cX11_alike 44 = .ok (.iload_n 2, 1) := by decide +kernel
theorem dX11_alike_45 : decode cX11_alike 45 = .ok (.invokevirtual 360, 3) := by decide +kernel
theorem dX11_alike_48 : decode cX11_alike 48 = .ok (.istore 6, 2) := by decide +kernel
theorem dX11_alike_50 : decode cX11_alike 50 = .ok (.aload_n 0, 1) := by decide +kernel
theorem dX11_alike_51 : decode cX11_alike 51 = .ok (.iload 4, 2) := by decide +kernel
theorem dX11_alike_53 : decode cX11_alike 53 = .ok (.aload_n 0, 1) := by decide +kernel
theorem dX11_alike_54 : decode cX11_alike 54 = .ok (.getfield 200, 3) := by decide +kernel
theorem dX11_alike_57 : decode cX11_alike 57 = .ok (.invokevirtual 262, 3) := by decide +kernel
theorem dX11_alike_60 : decode cX11_alike 60 = .ok (.istore 7, 2) := by decide +kernel
theorem dX11_alike_62 : decode cX11_alike 62 = .ok (.aload_n 0, 1) := by decide +kernel
theorem dX11_alike_63 : decode cX11_alike 63 = .ok (.iload 5, 2) := by decide +kernel
theorem dX11_alike_65 : decode cX11_alike 65 = .ok (.aload_n 0, 1) := by decide +kernel
theorem dX11_alike_66 : decode cX11_alike 66 = .ok (.getfield 200, 3) := by decide +kernel
theorem dX11_alike_69 : decode cX11_alike 69 = .ok (.invokevirtual 262, 3) := by decide +kernel
theorem dX11_alike_72 : decode cX11_alike 72 = .ok (.istore 8, 2) := by decide +kernel
theorem dX11_alike_74 : decode cX11_alike 74 = .ok (.iload 6, 2) := by decide +kernel
theorem dX11_alike_76 : decode cX11_alike 76 = .ok (.iconst 2, 1) := by decide +kernel
theorem dX11_alike_77 : decode cX11_alike 77 = .ok (.if_icmp .lt 47, 3) := by decide +kernel
theorem dX11_alike_80 : decode cX11_alike 80 = .ok (.iload 6, 2) := by decide +kernel
theorem dX11_alike_82 : decode cX11_alike 82 = .ok (.iload 7, 2) := by decide +kernel
theorem dX11_alike_84 : decode cX11_alike 84 = .ok (.iload 8, 2) := by decide +kernel
theorem dX11_alike_86 : decode cX11_alike 86 = .ok (.if_icmp .ge 8, 3) := by decide +kernel
theorem dX11_alike_89 : decode cX11_alike 89 = .ok (.iload 7, 2) := by decide +kernel
theorem dX11_alike_91 : decode cX11_alike 91 = .ok (.goto 5, 3) := by decide +kernel
theorem dX11_alike_94 : decode cX11_alike 94 = .ok (.iload 8, 2) := by decide +kernel
theorem dX11_alike_96 : decode cX11_alike 96 = .ok (.if_icmp .ne 28, 3) := by decide +kernel
theorem dX11_alike_99 : decode cX11_alike 99 = .ok (.aload_n 0, 1) := by decide +kernel
theorem dX11_alike_100 : decode cX11_alike 100 = .ok (.getfield 16, 3) := by decide +kernel
theorem dX11_alike_103 : decode cX11_alike 103 = .ok (.iload 4, 2) := by decide +kernel
theorem dX11_alike_105 : decode cX11_alike 105 = .ok (.iaload, 1) := by decide +kernel
theorem dX11_alike_106 : decode cX11_alike 106 = .ok (.aload_n 0, 1) := by decide +kernel
theorem dX11_alike_107 : decode cX11_alike 107 = .ok (.getfield 16, 3) := by decide +kernel
theorem dX11_alike_110 : decode cX11_alike 110 = .ok (.iload 5, 2) := by decide +kernel
theorem dX11_alike_112 : decode cX11_alike 112 = .ok (.iaload, 1) := by decide +kernel
theorem dX11_alike_113 : decode cX11_alike 113 = .ok (.invokestatic 366, 3) := by decide +kernel
theorem dX11_alike_116 : decode cX11_alike 116 = .ok (.iconst 3, 1) := by decide +kernel
theorem dX11_alike_117 : decode cX11_alike 117 = .ok (.if_icmp .gt 7, 3) := by decide +kernel
theorem dX11_alike_120 : decode cX11_alike 120 = .ok (.iconst 2, 1) := by decide +kernel
theorem dX11_alike_121 : decode cX11_alike 121 = .ok (.goto 13, 3) := by decide +kernel
theorem dX11_alike_124 : decode cX11_alike 124 = .ok (.iload 6, 2) := by decide +kernel
theorem dX11_alike_126 : decode cX11_alike 126 = .ok (.ifCond .le 7, 3) := by decide +kernel
theorem dX11_alike_129 : decode cX11_alike 129 = .ok (.iconst 1, 1) := by decide +kernel
theorem dX11_alike_130 : decode cX11_alike 130 = .ok (.goto 4, 3) := by decide +kernel
theorem dX11_alike_133 : decode cX11_alike 133 = .ok (.iconst 0, 1) := by decide +kernel
theorem dX11_alike_134 : decode cX11_alike 134 = .ok (.ireturn, 1) := by decide +kernel
theorem dX11_well_0 : decode cX11_well 0 = .ok (.iload_n 1, 1) := by decide +kernel
theorem dX11_well_1 : decode cX11_well 1 = .ok (.invokestatic 211, 3) := by decide +kernel
theorem dX11_well_4 : decode cX11_well 4 = .ok (.ifCond .ne 9, 3) := by decide +kernel
theorem dX11_well_7 : decode cX11_well 7 = .ok (.aload_n 0, 1) := by decide +kernel
theorem dX11_well_8 : decode cX11_well 8 = .ok (.iconst (-1), 1) := by decide +kernel
theorem dX11_well_9 : decode cX11_well 9 = .ok (.invokevirtual 207, 3) := by decide +kernel
theorem dX11_well_12 : decode cX11_well 12 = .ok (.ireturn, 1) := by decide +kernel
theorem dX11_well_13 : decode cX11_well 13 = .ok (.iload_n 2, 1) := by decide +kernel
theorem dX11_well_14 : decode cX11_well 14 = .ok (.iconst 1, 1) := by decide +kernel
theorem dX11_well_15 : decode cX11_well 15 = .ok (.if_icmp .lt 8, 3) := by decide +kernel
theorem dX11_well_18 : decode cX11_well 18 = .ok (.iload_n 3, 1) := by decide +kernel
theorem dX11_well_19 : decode cX11_well 19 = .ok (.iconst 1, 1) := by decide +kernel
theorem dX11_well_20 : decode cX11_well 20 = .ok (.if_icmp .ge 8, 3) := by decide +kernel
theorem dX11_well_23 : decode cX11_well 23 = .ok (.bipush (-4), 2) := by decide +kernel
theorem dX11_well_25 : decode cX11_well 25 = .ok (.goto 31, 3) := by decide +kernel
theorem dX11_well_28 : decode cX11_well 28 = .ok (.iload_n 2, 1) := by decide +kernel
theorem dX11_well_29 : decode cX11_well 29 = .ok (.bipush 99, 2) := by decide +kernel
theorem dX11_well_31 : decode cX11_well 31 = .ok (.if_icmp .gt 19, 3) := by decide +kernel
theorem dX11_well_34 : decode cX11_well 34 = .ok (.iload_n 3, 1) := by decide +kernel
theorem dX11_well_35 : decode cX11_well 35 = .ok (.sipush 9999, 3) := by decide +kernel
theorem dX11_well_38 : decode cX11_well 38 = .ok (.if_icmp .gt 12, 3) := by decide +kernel
theorem dX11_well_41 : decode cX11_well 41 = .ok (.aload_n 0, 1) := by decide +kernel
theorem dX11_well_42 : decode cX11_well 42 = .ok (.getfield 369, 3) := by decide +kernel
theorem dX11_well_45 : decode cX11_well 45 = .ok (.bipush 6, 2) := by decide +kernel
theorem dX11_well_47 : decode cX11_well 47 = .ok (.if_icmp .ne 8, 3) := by decide +kernel
theorem dX11_well_50 : decode cX11_well 50 = .ok (.bipush (-6), 2) := by decide +kernel
theorem dX11_well_52 : decode cX11_well 52 = .ok (.goto 4, 3) := by decide +kernel
theorem dX11_well_55 : decode cX11_well 55 = .ok (.iconst 0, 1) := by decide +kernel
theorem dX11_well_56 : decode cX11_well 56 = .ok (.istore 4, 2) := by decide +kernel
theorem dX11_well_58 : decode cX11_well 58 = .ok (.iload 4, 2) := by decide +kernel
theorem dX11_well_60 : decode cX11_well 60 = .ok (.ifCond .eq 10, 3) := by decide +kernel
theorem dX11_well_63 : decode cX11_well 63 = .ok (.aload_n 0, 1) := by decide +kernel
theorem dX11_well_64 : decode cX11_well 64 = .ok (.iload 4, 2) := by decide +kernel
theorem dX11_well_66 : decode cX11_well 66 = .ok (.invokevirtual 207, 3) := by decide +kernel
theorem dX11_well_69 : decode cX11_well 69 = .ok (.ireturn, 1) := by decide +kernel
theorem dX11_well_70 : decode cX11_well 70 = .ok (.aload_n 0, 1) := by decide +kernel
theorem dX11_well_71 : decode cX11_well 71 = .ok (.getfield 90, 3) := by decide +kernel
theorem dX11_well_74 : decode cX11_well 74 = .ok (.aload_n 0, 1) := by decide +kernel
theorem dX11_well_75 : decode cX11_well 75 = .ok (.getfield 369, 3) := by decide +kernel
theorem dX11_well_78 : decode cX11_well 78 = .ok (.iload_n 1, 1) := by decide +kernel
theorem dX11_well_79 : decode cX11_well 79 = .ok (.iastore, 1) := by decide +kernel
theorem dX11_well_80 : decode cX11_well 80 = .ok (.aload_n 0, 1) := by decide +kernel
theorem dX11_well_81 : decode cX11_well 81 = .ok (.getfield 93, 3) := by decide +kernel
theorem dX11_well_84 : decode cX11_well 84 = .ok (.aload_n 0, 1) := by decide +kernel
theorem dX11_well_85 : decode cX11_well 85 = .ok (.getfield 369, 3) := by decide +kernel
theorem dX11_well_88 : decode cX11_well 88 = .ok (.iload_n 2, 1) := by decide +kernel
theorem dX11_well_89 : decode cX11_well 89 = .ok (.iastore, 1) := by decide +kernel
theorem dX11_well_90 : decode cX11_well 90 = .ok (.aload_n 0, 1) := by decide +kernel
theorem dX11_well_91 : decode cX11_well 91 = .ok (.getfield 96, 3) := by decide +kernel
theorem dX11_well_94 : decode cX11_well 94 = .ok (.aload_n 0, 1) := by decide +kernel
theorem dX11_well_95 : decode cX11_well 95 = .ok (.getfield 369, 3) := by decide +kernel
theorem dX11_well_98 : decode cX11_well 98 = .ok (.iload_n 3, 1) := by decide +kernel
theorem dX11_well_99 : decode cX11_well 99 = .ok (.iastore, 1) := by decide +kernel
theorem dX11_well_100 : decode cX11_well 100 = .ok (.aload_n 0, 1) := by decide +kernel
theorem dX11_well_101 : decode cX11_well 101 = .ok (.dup, 1) := by decide +kernel
theorem dX11_well_102 : decode cX11_well 102 = .ok (.getfield 369, 3) := by decide +kernel
theorem dX11_well_105 : decode cX11_well 105 = .ok (.iconst 1, 1) := by decide +kernel
theorem dX11_well_106 : decode cX11_well 106 = .ok (.iadd, 1) := by decide +kernel
theorem dX11_well_107 : decode cX11_well 107 = .ok (.putfield 369, 3) := by decide +kernel
theorem dX11_well_110 : decode cX11_well 110 = .ok (.aload_n 0, 1) := by decide +kernel
theorem dX11_well_111 : decode cX11_well 111 = .ok (.getfield 369, 3) := by decide +kernel
theorem dX11_well_114 : decode cX11_well 114 = .ok (.iconst 1, 1) := by decide +kernel
theorem dX11_well_115 : decode cX11_well 115 = .ok (.isub, 1) := by decide +kernel
theorem dX11_well_116 : decode cX11_well 116 = .ok (.ireturn, 1) := by decide +kernel
theorem dX11_block_0 : decode cX11_block 0 = .ok (.iload_n 1, 1) := by decide +kernel
theorem dX11_block_1 : decode cX11_block 1 = .ok (.i2l, 1) := by decide +kernel
theorem dX11_block_2 : decode cX11_block 2 = .ok (.lconst 0, 1) := by decide +kernel
theorem dX11_block_3 : decode cX11_block 3 = .ok (.ldc2_w 224, 3) := by decide +kernel
theorem dX11_block_6 : decode cX11_block 6 = .ok (.invokestatic 226, 3) := by decide +kernel
theorem dX11_block_9 : decode cX11_block 9 = .ok (.ifCond .ne 9, 3) := by decide +kernel
theorem dX11_block_12 : decode cX11_block 12 = .ok (.aload_n 0, 1) := by decide +kernel
theorem dX11_block_13 : decode cX11_block 13 = .ok (.iconst (-1), 1) := by decide +kernel
theorem dX11_block_14 : decode cX11_block 14 = .ok (.invokevirtual 207, 3) := by decide +kernel
theorem dX11_block_17 : decode cX11_block 17 = .ok (.ireturn, 1) := by decide +kernel
theorem dX11_block_18 : decode cX11_block 18 = .ok (.iload_n 2, 1) := by decide +kernel
theorem dX11_block_19 : decode cX11_block 19 = .ok (.i2l, 1) := by decide +kernel
theorem dX11_block_20 : decode cX11_block 20 = .ok (.ldc2_w 246, 3) := by decide +kernel
theorem dX11_block_23 : decode cX11_block 23 = .ok (.ldc2_w 372, 3) := by decide +kernel
theorem dX11_block_26 : decode cX11_block 26 = .ok (.invokestatic 203, 3) := by decide +kernel
theorem dX11_block_29 : decode cX11_block 29 = .ok (.istore_n 3, 1) := by decide +kernel
theorem dX11_block_30 : decode cX11_block 30 = .ok (.iload_n 3, 1) := by decide +kernel
theorem dX11_block_31 : decode cX11_block 31 = .ok (.ifCond .eq 9, 3) := by decide +kernel
theorem dX11_block_34 : decode cX11_block 34 = .ok (.aload_n 0, 1) := by decide +kernel
theorem dX11_block_35 : decode cX11_block 35 = .ok (.iload_n 3, 1) := by decide +kernel
theorem dX11_block_36 : decode cX11_block 36 = .ok (.invokevirtual 207, 3) := by decide +kernel
theorem dX11_block_39 : decode cX11_block 39 = .ok (.ireturn, 1) := by decide +kernel
theorem dX11_block_40 : decode cX11_block 40 = .ok (.aload_n 0, 1) := by decide +kernel
theorem dX11_block_41 : decode cX11_block 41 = .ok (.getfield 99, 3) := by decide +kernel
theorem dX11_block_44 : decode cX11_block 44 = .ok (.iload_n 1, 1) := by decide +kernel
theorem dX11_block_45 : decode cX11_block 45 = .ok (.iaload, 1) := by decide +kernel
theorem dX11_block_46 : decode cX11_block 46 = .ok (.istore 4, 2) := by decide +kernel
theorem dX11_block_48 : decode cX11_block 48 = .ok (.aload_n 0, 1) := by decide +kernel
theorem dX11_block_49 : decode cX11_block 49 = .ok (.getfield 99, 3) := by decide +kernel
theorem dX11_block_52 : decode cX11_block 52 = .ok (.iload_n 1, 1) := by decide +kernel
theorem dX11_block_53 : decode cX11_block 53 = .ok (.iload_n 2, 1) := by decide +kernel
theorem dX11_block_54 : decode cX11_block 54 = .ok (.iastore, 1) := by decide +kernel
theorem dX11_block_55 : decode cX11_block 55 = .ok (.iload 4, 2) := by decide +kernel
theorem dX11_block_57 : decode cX11_block 57 = .ok (.ireturn, 1) := by decide +kernel
theorem dX11_findNeeds_0 : decode cX11_findNeeds 0 = .ok (.iconst 0, 1) := by decide +kernel
theorem dX11_findNeeds_1 : decode cX11_findNeeds 1 = .ok (.istore_n 1, 1) := by decide +kernel
theorem dX11_findNeeds_2 : decode cX11_findNeeds 2 = .ok (.iload_n 1, 1) := by decide +kernel
theorem dX11_findNeeds_3 : decode cX11_findNeeds 3 = .ok (.aload_n 0, 1) := by decide +kernel
theorem dX11_findNeeds_4 : decode cX11_findNeeds 4 = .ok (.getfield 193, 3) := by decide +kernel
theorem dX11_findNeeds_7 : decode cX11_findNeeds 7 = .ok (.if_icmp .ge 104, 3) := by decide +kernel
theorem dX11_findNeeds_10 : decode cX11_findNeeds 10 = .ok (.aload_n 0, 1) := by decide +kernel
theorem dX11_findNeeds_11 : decode cX11_findNeeds 11 = .ok (.getfield 102, 3) := by decide +kernel
theorem dX11_findNeeds_14 : decode cX11_findNeeds 14 = .ok (.iload_n 1, 1) := by decide +kernel
theorem dX11_findNeeds_15 : decode cX11_findNeeds 15 = .ok (.iconst 5, 1) := by decide +kernel
theorem dX11_findNeeds_16 : decode cX11_findNeeds 16 = .ok (.aload_n 0, 1) := by decide +kernel
theorem dX11_findNeeds_17 : decode cX11_findNeeds 17 = .ok (.iload_n 1, 1) := by decide +kernel
theorem dX11_findNeeds_18 : decode cX11_findNeeds 18 = .ok (.aload_n 0, 1) := by decide +kernel
theorem dX11_findNeeds_19 : decode cX11_findNeeds 19 = .ok (.getfield 200, 3) := by decide +kernel
theorem dX11_findNeeds_22 : decode cX11_findNeeds 22 = .ok (.invokevirtual 262, 3) := by decide +kernel
theorem dX11_findNeeds_25 : decode cX11_findNeeds 25 = .ok (.imul, 1) := by decide +kernel
theorem dX11_findNeeds_26 : decode cX11_findNeeds 26 = .ok (.iastore, 1) := by decide +kernel
theorem dX11_findNeeds_27 : decode cX11_findNeeds 27 = .ok (.aload_n 0, 1) := by decide +kernel
theorem dX11_findNeeds_28 : decode cX11_findNeeds 28 = .ok (.getfield 105, 3) := by decide +kernel
theorem dX11_findNeeds_31 : decode cX11_findNeeds 31 = .ok (.iload_n 1, 1) := by decide +kernel
theorem dX11_findNeeds_32 : decode cX11_findNeeds 32 = .ok (.bipush (-9), 2) := by decide +kernel
theorem dX11_findNeeds_34 : decode cX11_findNeeds 34 = .ok (.iastore, 1) := by decide +kernel
theorem dX11_findNeeds_35 : decode cX11_findNeeds 35 = .ok (.iconst 0, 1) := by decide +kernel
theorem dX11_findNeeds_36 : decode cX11_findNeeds 36 = .ok (.istore_n 2, 1) := by decide +kernel
theorem dX11_findNeeds_37 : decode cX11_findNeeds 37 = .ok (.iload_n 2, 1) := by decide +kernel
theorem dX11_findNeeds_38 : decode cX11_findNeeds 38 = .ok (.aload_n 0, 1) := by decide +kernel
theorem dX11_findNeeds_39 : decode cX11_findNeeds 39 = .ok (.getfield 369, 3) := by decide +kernel
theorem dX11_findNeeds_42 : decode cX11_findNeeds 42 = .ok (.if_icmp .ge 63, 3) := by decide +kernel
theorem dX11_findNeeds_45 : decode cX11_findNeeds 45 = .ok (.aload_n 0, 1) := by decide +kernel
theorem dX11_findNeeds_46 : decode cX11_findNeeds 46 = .ok (.getfield 105, 3) := by decide +kernel
theorem dX11_findNeeds_49 : decode cX11_findNeeds 49 = .ok (.iload_n 1, 1) := by decide +kernel
theorem dX11_findNeeds_50 : decode cX11_findNeeds 50 = .ok (.iaload, 1) := by decide +kernel
theorem dX11_findNeeds_51 : decode cX11_findNeeds 51 = .ok (.ifCond .lt 41, 3) := by decide +kernel
theorem dX11_findNeeds_54 : decode cX11_findNeeds 54 = .ok (.aload_n 0, 1) := by decide +kernel
theorem dX11_findNeeds_55 : decode cX11_findNeeds 55 = .ok (.getfield 16, 3) := by decide +kernel
theorem dX11_findNeeds_58 : decode cX11_findNeeds 58 = .ok (.iload_n 1, 1) := by decide +kernel
theorem dX11_findNeeds_59 : decode cX11_findNeeds 59 = .ok (.iaload, 1) := by decide +kernel
theorem dX11_findNeeds_60 : decode cX11_findNeeds 60 = .ok (.aload_n 0, 1) := by decide +kernel
theorem dX11_findNeeds_61 : decode cX11_findNeeds 61 = .ok (.getfield 90, 3) := by decide +kernel
theorem dX11_findNeeds_64 : decode cX11_findNeeds 64 = .ok (.iload_n 2, 1) := by decide +kernel
theorem dX11_findNeeds_65 : decode cX11_findNeeds 65 = .ok (.iaload, 1) := by decide +kernel
theorem dX11_findNeeds_66 : decode cX11_findNeeds 66 = .ok (.invokestatic 366, 3) := by decide +kernel
theorem dX11_findNeeds_69 : decode cX11_findNeeds 69 = .ok (.aload_n 0, 1) := by decide +kernel
theorem dX11_findNeeds_70 : decode cX11_findNeeds 70 = .ok (.getfield 16, 3) := by decide +kernel
theorem dX11_findNeeds_73 : decode cX11_findNeeds 73 = .ok (.iload_n 1, 1) := by decide +kernel
theorem dX11_findNeeds_74 : decode cX11_findNeeds 74 = .ok (.iaload, 1) := by decide +kernel
theorem dX11_findNeeds_75 : decode cX11_findNeeds 75 = .ok (.aload_n 0, 1) := by decide +kernel
theorem dX11_findNeeds_76 : decode cX11_findNeeds 76 = .ok (.getfield 90, 3) := by decide +kernel
theorem dX11_findNeeds_79 : decode cX11_findNeeds 79 = .ok (.aload_n 0, 1) := by decide +kernel
theorem dX11_findNeeds_80 : decode cX11_findNeeds 80 = .ok (.getfield 105, 3) := by decide +kernel
theorem dX11_findNeeds_83 : decode cX11_findNeeds 83 = .ok (.iload_n 1, 1) := by decide +kernel
theorem dX11_findNeeds_84 : decode cX11_findNeeds 84 = .ok (.iaload, 1) := by decide +kernel
theorem dX11_findNeeds_85 : decode cX11_findNeeds 85 = .ok (.iaload, 1) := by decide +kernel
theorem dX11_findNeeds_86 : decode cX11_findNeeds 86 = .ok (.invokestatic 366, 3) := by decide +kernel
theorem dX11_findNeeds_89 : decode cX11_findNeeds 89 = .ok (.if_icmp .ge 10, 3) := by decide +kernel
theorem dX11_findNeeds_92 : decode cX11_findNeeds 92 = .ok (.aload_n 0, 1) := by decide +kernel
theorem dX11_findNeeds_93 : decode cX11_findNeeds 93 = .ok (.getfield 105, 3) := by decide +kernel
theorem dX11_findNeeds_96 : decode cX11_findNeeds 96 = .ok (.iload_n 1, 1) := by decide +kernel
theorem dX11_findNeeds_97 : decode cX11_findNeeds 97 = .ok (.iload_n 2, 1) := by decide +kernel
theorem dX11_findNeeds_98 : decode cX11_findNeeds 98 = .ok (.iastore, 1) := by decide +kernel
theorem dX11_findNeeds_99 : decode cX11_findNeeds 99 = .ok (.iinc 2 1, 3) := by decide +kernel
theorem dX11_findNeeds_102 : decode cX11_findNeeds 102 = .ok (.goto (-65), 3) := by decide +kernel
theorem dX11_findNeeds_105 : decode cX11_findNeeds 105 = .ok (.iinc 1 1, 3) := by decide +kernel
theorem dX11_findNeeds_108 : decode cX11_findNeeds 108 = .ok (.goto (-106), 3) := by decide +kernel
theorem dX11_findNeeds_111 : decode cX11_findNeeds 111 = .ok (.return_, 1) := by decide +kernel
theorem dX11_findDrawers_0 : decode cX11_findDrawers 0 = .ok (.iconst 0, 1) := by decide +kernel
theorem dX11_findDrawers_1 : decode cX11_findDrawers 1 = .ok (.istore_n 1, 1) := by decide +kernel
theorem dX11_findDrawers_2 : decode cX11_findDrawers 2 = .ok (.iconst 0, 1) := by decide +kernel
theorem dX11_findDrawers_3 : decode cX11_findDrawers 3 = .ok (.istore_n 2, 1) := by decide +kernel
theorem dX11_findDrawers_4 : decode cX11_findDrawers 4 = .ok (.iload_n 2, 1) := by decide +kernel
theorem dX11_findDrawers_5 : decode cX11_findDrawers 5 = .ok (.aload_n 0, 1) := by decide +kernel
theorem dX11_findDrawers_6 : decode cX11_findDrawers 6 = .ok (.getfield 369, 3) := by decide +kernel
theorem dX11_findDrawers_9 : decode cX11_findDrawers 9 = .ok (.if_icmp .ge 64, 3) := by decide +kernel
theorem dX11_findDrawers_12 : decode cX11_findDrawers 12 = .ok (.iconst 0, 1) := by decide +kernel
theorem dX11_findDrawers_13 : decode cX11_findDrawers 13 = .ok (.istore_n 3, 1) := by decide +kernel
theorem dX11_findDrawers_14 : decode cX11_findDrawers 14 = .ok (.iload_n 3, 1) := by decide +kernel
theorem dX11_findDrawers_15 : decode cX11_findDrawers 15 = .ok (.aload_n 0, 1) := by decide +kernel
theorem dX11_findDrawers_16 : decode cX11_findDrawers 16 = .ok (.getfield 193, 3) := by decide +kernel
theorem dX11_findDrawers_19 : decode cX11_findDrawers 19 = .ok (.if_icmp .ge 41, 3) := by decide +kernel
theorem dX11_findDrawers_22 : decode cX11_findDrawers 22 = .ok (.aload_n 0, 1) := by decide +kernel
theorem dX11_findDrawers_23 : decode cX11_findDrawers 23 = .ok (.getfield 105, 3) := by decide +kernel
theorem dX11_findDrawers_26 : decode cX11_findDrawers 26 = .ok (.iload_n 3, 1) := by decide +kernel
theorem dX11_findDrawers_27 : decode cX11_findDrawers 27 = .ok (.iaload, 1) := by decide +kernel
theorem dX11_findDrawers_28 : decode cX11_findDrawers 28 = .ok (.iload_n 2, 1) := by decide +kernel
theorem dX11_findDrawers_29 : decode cX11_findDrawers 29 = .ok (.if_icmp .ne 25, 3) := by decide +kernel
theorem dX11_findDrawers_32 : decode cX11_findDrawers 32 = .ok (.aload_n 0, 1) := by decide +kernel
theorem dX11_findDrawers_33 : decode cX11_findDrawers 33 = .ok (.getfield 102, 3) := by decide +kernel
theorem dX11_findDrawers_36 : decode cX11_findDrawers 36 = .ok (.iload_n 3, 1) := by decide +kernel
theorem dX11_findDrawers_37 : decode cX11_findDrawers 37 = .ok (.iaload, 1) := by decide +kernel
theorem dX11_findDrawers_38 : decode cX11_findDrawers 38 = .ok (.ifCond .ne 6, 3) := by decide +kernel
theorem dX11_findDrawers_41 : decode cX11_findDrawers 41 = .ok (.goto 13, 3) := by decide +kernel
theorem dX11_findDrawers_44 : decode cX11_findDrawers 44 = .ok (.aload_n 0, 1) := by decide +kernel
theorem dX11_findDrawers_45 : decode cX11_findDrawers 45 = .ok (.getfield 120, 3) := by decide +kernel
theorem dX11_findDrawers_48 : decode cX11_findDrawers 48 = .ok (.iload_n 1, 1) := by decide +kernel
theorem dX11_findDrawers_49 : decode cX11_findDrawers 49 = .ok (.iload_n 3, 1) := by decide +kernel
theorem dX11_findDrawers_50 : decode cX11_findDrawers 50 = .ok (.iastore, 1) := by decide +kernel
theorem dX11_findDrawers_51 : decode cX11_findDrawers 51 = .ok (.iinc 1 1, 3) := by decide +kernel
theorem dX11_findDrawers_54 : decode cX11_findDrawers 54 = .ok (.iinc 3 1, 3) := by decide +kernel
theorem dX11_findDrawers_57 : decode cX11_findDrawers 57 = .ok (.goto (-43), 3) := by decide +kernel
theorem dX11_findDrawers_60 : decode cX11_findDrawers 60 = .ok (.aload_n 0, 1) := by decide +kernel
theorem dX11_findDrawers_61 : decode cX11_findDrawers 61 = .ok (.getfield 123, 3) := by decide +kernel
theorem dX11_findDrawers_64 : decode cX11_findDrawers 64 = .ok (.iload_n 2, 1) := by decide +kernel
theorem dX11_findDrawers_65 : decode cX11_findDrawers 65 = .ok (.iload_n 1, 1) := by decide +kernel
theorem dX11_findDrawers_66 : decode cX11_findDrawers 66 = .ok (.iastore, 1) := by decide +kernel
theorem dX11_findDrawers_67 : decode cX11_findDrawers 67 = .ok (.iinc 2 1, 3) := by decide +kernel
theorem dX11_findDrawers_70 : decode cX11_findDrawers 70 = .ok (.goto (-66), 3) := by decide +kernel
theorem dX11_findDrawers_73 : decode cX11_findDrawers 73 = .ok (.return_, 1) := by decide +kernel
theorem dX11_draws_0 : decode cX11_draws 0 = .ok (.iconst 0, 1) := by decide +kernel
theorem dX11_draws_1 : decode cX11_draws 1 = .ok (.istore_n 2, 1) := by decide +kernel
theorem dX11_draws_2 : decode cX11_draws 2 = .ok (.iload_n 2, 1) := by decide +kernel
theorem dX11_draws_3 : decode cX11_draws 3 = .ok (.aload_n 0, 1) := by decide +kernel
theorem dX11_draws_4 : decode cX11_draws 4 = .ok (.getfield 193, 3) := by decide +kernel
theorem dX11_draws_7 : decode cX11_draws 7 = .ok (.if_icmp .ge 44, 3) := by decide +kernel
theorem dX11_draws_10 : decode cX11_draws 10 = .ok (.aload_n 0, 1) := by decide +kernel
theorem dX11_draws_11 : decode cX11_draws 11 = .ok (.getfield 108, 3) := by decide +kernel
theorem dX11_draws_14 : decode cX11_draws 14 = .ok (.iload_n 2, 1) := by decide +kernel
theorem dX11_draws_15 : decode cX11_draws 15 = .ok (.iconst 0, 1) := by decide +kernel
theorem dX11_draws_16 : decode cX11_draws 16 = .ok (.iastore, 1) := by decide +kernel
theorem dX11_draws_17 : decode cX11_draws 17 = .ok (.aload_n 0, 1) := by decide +kernel
theorem dX11_draws_18 : decode cX11_draws 18 = .ok (.getfield 111, 3) := by decide +kernel
theorem dX11_draws_21 : decode cX11_draws 21 = .ok (.iload_n 2, 1) := by decide +kernel
theorem dX11_draws_22 : decode cX11_draws 22 = .ok (.aload_n 0, 1) := by decide +kernel
theorem dX11_draws_23 : decode cX11_draws 23 = .ok (.getfield 102, 3) := by decide +kernel
theorem dX11_draws_26 : decode cX11_draws 26 = .ok (.iload_n 2, 1) := by decide +kernel
theorem dX11_draws_27 : decode cX11_draws 27 = .ok (.iaload, 1) := by decide +kernel
theorem dX11_draws_28 : decode cX11_draws 28 = .ok (.ifCond .ne 14, 3) := by decide +kernel
theorem dX11_draws_31 : decode cX11_draws 31 = .ok (.aload_n 1, 1) := by decide +kernel
theorem dX11_draws_32 : decode cX11_draws 32 = .ok (.aload_n 0, 1) := by decide +kernel
theorem dX11_draws_33 : decode cX11_draws 33 = .ok (.getfield 19, 3) := by decide +kernel
theorem dX11_draws_36 : decode cX11_draws 36 = .ok (.iload_n 2, 1) := by decide +kernel
theorem dX11_draws_37 : decode cX11_draws 37 = .ok (.iaload, 1) := by decide +kernel
theorem dX11_draws_38 : decode cX11_draws 38 = .ok (.iaload, 1) := by decide +kernel
theorem dX11_draws_39 : decode cX11_draws 39 = .ok (.goto 5, 3) := by decide +kernel
theorem dX11_draws_42 : decode cX11_draws 42 = .ok (.bipush (-9), 2) := by decide +kernel
theorem dX11_draws_44 : decode cX11_draws 44 = .ok (.iastore, 1) := by decide +kernel
theorem dX11_draws_45 : decode cX11_draws 45 = .ok (.iinc 2 1, 3) := by decide +kernel
theorem dX11_draws_48 : decode cX11_draws 48 = .ok (.goto (-46), 3) := by decide +kernel
theorem dX11_draws_51 : decode cX11_draws 51 = .ok (.iconst 0, 1) := by decide +kernel
theorem dX11_draws_52 : decode cX11_draws 52 = .ok (.istore_n 2, 1) := by decide +kernel
theorem dX11_draws_53 : decode cX11_draws 53 = .ok (.iload_n 2, 1) := by decide +kernel
theorem dX11_draws_54 : decode cX11_draws 54 = .ok (.aload_n 0, 1) := by decide +kernel
theorem dX11_draws_55 : decode cX11_draws 55 = .ok (.getfield 369, 3) := by decide +kernel
theorem dX11_draws_58 : decode cX11_draws 58 = .ok (.if_icmp .ge 15, 3) := by decide +kernel
theorem dX11_draws_61 : decode cX11_draws 61 = .ok (.aload_n 0, 1) := by decide +kernel
theorem dX11_draws_62 : decode cX11_draws 62 = .ok (.iload_n 2, 1) := by decide +kernel
theorem dX11_draws_63 : decode cX11_draws 63 = .ok (.aload_n 1, 1) := by decide +kernel
theorem dX11_draws_64 : decode cX11_draws 64 = .ok (.invokevirtual 374, 3) := by decide +kernel
theorem dX11_draws_67 : decode cX11_draws 67 = .ok (.iinc 2 1, 3) := by decide +kernel
theorem dX11_draws_70 : decode cX11_draws 70 = .ok (.goto (-17), 3) := by decide +kernel
theorem dX11_draws_73 : decode cX11_draws 73 = .ok (.return_, 1) := by decide +kernel
theorem dX11_drawsAt_0 : decode cX11_drawsAt 0 = .ok (.aload_n 0, 1) := by decide +kernel
theorem dX11_drawsAt_1 : decode cX11_drawsAt 1 = .ok (.getfield 96, 3) := by decide +kernel
theorem dX11_drawsAt_4 : decode cX11_drawsAt 4 = .ok (.iload_n 1, 1) := by decide +kernel
theorem dX11_drawsAt_5 : decode cX11_drawsAt 5 = .ok (.iaload, 1) := by decide +kernel
theorem dX11_drawsAt_6 : decode cX11_drawsAt 6 = .ok (.istore_n 3, 1) := by decide +kernel
theorem dX11_drawsAt_7 : decode cX11_drawsAt 7 = .ok (.iload_n 1, 1) := by decide +kernel
theorem dX11_drawsAt_8 : decode cX11_drawsAt 8 = .ok (.ifCond .ne 7, 3) := by decide +kernel
theorem dX11_drawsAt_11 : decode cX11_drawsAt 11 = .ok (.iconst 0, 1) := by decide +kernel
theorem dX11_drawsAt_12 : decode cX11_drawsAt 12 = .ok (.goto 11, 3) := by decide +kernel
theorem dX11_drawsAt_15 : decode cX11_drawsAt 15 = .ok (.aload_n 0, 1) := by decide +kernel
theorem dX11_drawsAt_16 : decode cX11_drawsAt 16 = .ok (.getfield 123, 3) := by decide +kernel
theorem dX11_drawsAt_19 : decode cX11_drawsAt 19 = .ok (.iload_n 1, 1) := by decide +kernel
theorem dX11_drawsAt_20 : decode cX11_drawsAt 20 = .ok (.iconst 1, 1) := by decide +kernel
theorem dX11_drawsAt_21 : decode cX11_drawsAt 21 = .ok (.isub, 1) := by decide +kernel
theorem dX11_drawsAt_22 : decode cX11_drawsAt 22 = .ok (.iaload, 1) := by decide +kernel
theorem dX11_drawsAt_23 : decode cX11_drawsAt 23 = .ok (.istore 4, 2) := by decide +kernel
theorem dX11_drawsAt_25 : decode cX11_drawsAt 25 = .ok (.aload_n 0, 1) := by decide +kernel
theorem dX11_drawsAt_26 : decode cX11_drawsAt 26 = .ok (.getfield 123, 3) := by decide +kernel
theorem dX11_drawsAt_29 : decode cX11_drawsAt 29 = .ok (.iload_n 1, 1) := by decide +kernel
theorem dX11_drawsAt_30 : decode cX11_drawsAt 30 = .ok (.iaload, 1) := by decide +kernel
theorem dX11_drawsAt_31 : decode cX11_drawsAt 31 = .ok (.iload 4, 2) := by decide +kernel
theorem dX11_drawsAt_33 : decode cX11_drawsAt 33 = .ok (.isub, 1) := by decide +kernel
theorem dX11_drawsAt_34 : decode cX11_drawsAt 34 = .ok (.istore 5, 2) := by decide +kernel
theorem dX11_drawsAt_36 : decode cX11_drawsAt 36 = .ok (.iconst 4, 1) := by decide +kernel
theorem dX11_drawsAt_37 : decode cX11_drawsAt 37 = .ok (.istore 6, 2) := by decide +kernel
theorem dX11_drawsAt_39 : decode cX11_drawsAt 39 = .ok (.iload 6, 2) := by decide +kernel
theorem dX11_drawsAt_41 : decode cX11_drawsAt 41 = .ok (.bipush 24, 2) := by decide +kernel
theorem dX11_drawsAt_43 : decode cX11_drawsAt 43 = .ok (.if_icmp .ge 188, 3) := by decide +kernel
theorem dX11_drawsAt_46 : decode cX11_drawsAt 46 = .ok (.iload_n 3, 1) := by decide +kernel
theorem dX11_drawsAt_47 : decode cX11_drawsAt 47 = .ok (.ifCond .le 184, 3) := by decide +kernel
theorem dX11_drawsAt_50 : decode cX11_drawsAt 50 = .ok (.iload 5, 2) := by decide +kernel
theorem dX11_drawsAt_52 : decode cX11_drawsAt 52 = .ok (.ifCond .le 179, 3) := by decide +kernel
theorem dX11_drawsAt_55 : decode cX11_drawsAt 55 = .ok (.aload_n 0, 1) := by decide +kernel
theorem dX11_drawsAt_56 : decode cX11_drawsAt 56 = .ok (.getfield 93, 3) := by decide +kernel
theorem dX11_drawsAt_59 : decode cX11_drawsAt 59 = .ok (.iload_n 1, 1) := by decide +kernel
theorem dX11_drawsAt_60 : decode cX11_drawsAt 60 = .ok (.iaload, 1) := by decide +kernel
theorem dX11_drawsAt_61 : decode cX11_drawsAt 61 = .ok (.iload_n 3, 1) := by decide +kernel
theorem dX11_drawsAt_62 : decode cX11_drawsAt 62 = .ok (.if_icmp .ge 12, 3) := by decide +kernel
theorem dX11_drawsAt_65 : decode cX11_drawsAt 65 = .ok (.aload_n 0, 1) := by decide +kernel
theorem dX11_drawsAt_66 : decode cX11_drawsAt 66 = .ok (.getfield 93, 3) := by decide +kernel
theorem dX11_drawsAt_69 : decode cX11_drawsAt 69 = .ok (.iload_n 1, 1) := by decide +kernel
theorem dX11_drawsAt_70 : decode cX11_drawsAt 70 = .ok (.iaload, 1) := by decide +kernel
theorem dX11_drawsAt_71 : decode cX11_drawsAt 71 = .ok (.goto 4, 3) := by decide +kernel
theorem dX11_drawsAt_74 : decode cX11_drawsAt 74 = .ok (.iload_n 3, 1) := by decide +kernel
theorem dX11_drawsAt_75 : decode cX11_drawsAt 75 = .ok (.istore 7, 2) := by decide +kernel
theorem dX11_drawsAt_77 : decode cX11_drawsAt 77 = .ok (.iload 4, 2) := by decide +kernel
theorem dX11_drawsAt_79 : decode cX11_drawsAt 79 = .ok (.istore 8, 2) := by decide +kernel
theorem dX11_drawsAt_81 : decode cX11_drawsAt 81 = .ok (.iload 8, 2) := by decide +kernel
theorem dX11_drawsAt_83 : decode cX11_drawsAt 83 = .ok (.aload_n 0, 1) := by decide +kernel
theorem dX11_drawsAt_84 : decode cX11_drawsAt 84 = .ok (.getfield 123, 3) := by decide +kernel
theorem dX11_drawsAt_87 : decode cX11_drawsAt 87 = .ok (.iload_n 1, 1) := by decide +kernel
theorem dX11_drawsAt_88 : decode cX11_drawsAt 88 = .ok (.iaload, 1) := by decide +kernel
theorem dX11_drawsAt_89 : decode cX11_drawsAt 89 = .ok (.if_icmp .ge 136, 3) := by decide +kernel
theorem dX11_drawsAt_92 : decode cX11_drawsAt 92 = .ok (.iload 7, 2) := by decide +kernel
theorem dX11_drawsAt_94 : decode cX11_drawsAt 94 = .ok (.ifCond .le 131, 3) := by decide +kernel
theorem dX11_drawsAt_97 : decode cX11_drawsAt 97 = .ok (.aload_n 0, 1) := by decide +kernel
theorem dX11_drawsAt_98 : decode cX11_drawsAt 98 = .ok (.getfield 120, 3) := by decide +kernel
theorem dX11_drawsAt_101 : decode cX11_drawsAt 101 = .ok (.iload 8, 2) := by decide +kernel
theorem dX11_drawsAt_103 : decode cX11_drawsAt 103 = .ok (.iaload, 1) := by decide +kernel
theorem dX11_drawsAt_104 : decode cX11_drawsAt 104 = .ok (.istore 9, 2) := by decide +kernel
theorem dX11_drawsAt_106 : decode cX11_drawsAt 106 = .ok (.aload_n 2, 1) := by decide +kernel
theorem dX11_drawsAt_107 : decode cX11_drawsAt 107 = .ok (.aload_n 0, 1) := by decide +kernel
theorem dX11_drawsAt_108 : decode cX11_drawsAt 108 = .ok (.getfield 19, 3) := by decide +kernel
theorem dX11_drawsAt_111 : decode cX11_drawsAt 111 = .ok (.iload 9, 2) := by decide +kernel
theorem dX11_drawsAt_113 : decode cX11_drawsAt 113 = .ok (.iaload, 1) := by decide +kernel
theorem dX11_drawsAt_114 : decode cX11_drawsAt 114 = .ok (.iaload, 1) := by decide +kernel
theorem dX11_drawsAt_115 : decode cX11_drawsAt 115 = .ok (.iload 6, 2) := by decide +kernel
theorem dX11_drawsAt_117 : decode cX11_drawsAt 117 = .ok (.if_icmp .gt 102, 3) := by decide +kernel
theorem dX11_drawsAt_120 : decode cX11_drawsAt 120 = .ok (.aload_n 0, 1) := by decide +kernel
theorem dX11_drawsAt_121 : decode cX11_drawsAt 121 = .ok (.getfield 108, 3) := by decide +kernel
theorem dX11_drawsAt_124 : decode cX11_drawsAt 124 = .ok (.iload 9, 2) := by decide +kernel
theorem dX11_drawsAt_126 : decode cX11_drawsAt 126 = .ok (.iaload, 1) := by decide +kernel
theorem dX11_drawsAt_127 : decode cX11_drawsAt 127 = .ok (.aload_n 0, 1) := by decide +kernel
theorem dX11_drawsAt_128 : decode cX11_drawsAt 128 = .ok (.getfield 102, 3) := by decide +kernel
theorem dX11_drawsAt_131 : decode cX11_drawsAt 131 = .ok (.iload 9, 2) := by decide +kernel
theorem dX11_drawsAt_133 : decode cX11_drawsAt 133 = .ok (.iaload, 1) := by decide +kernel
theorem dX11_drawsAt_134 : decode cX11_drawsAt 134 = .ok (.if_icmp .ne 6, 3) := by decide +kernel
theorem dX11_drawsAt_137 : decode cX11_drawsAt 137 = .ok (.goto 82, 3) := by decide +kernel
theorem dX11_drawsAt_140 : decode cX11_drawsAt 140 = .ok (.aload_n 0, 1) := by decide +kernel
theorem dX11_drawsAt_141 : decode cX11_drawsAt 141 = .ok (.getfield 102, 3) := by decide +kernel
theorem dX11_drawsAt_144 : decode cX11_drawsAt 144 = .ok (.iload 9, 2) := by decide +kernel
theorem dX11_drawsAt_146 : decode cX11_drawsAt 146 = .ok (.iaload, 1) := by decide +kernel
theorem dX11_drawsAt_147 : decode cX11_drawsAt 147 = .ok (.aload_n 0, 1) := by decide +kernel
theorem dX11_drawsAt_148 : decode cX11_drawsAt 148 = .ok (.getfield 108, 3) := by decide +kernel
theorem dX11_drawsAt_151 : decode cX11_drawsAt 151 = .ok (.iload 9, 2) := by decide +kernel
theorem dX11_drawsAt_153 : decode cX11_drawsAt 153 = .ok (.iaload, 1) := by decide +kernel
theorem dX11_drawsAt_154 : decode cX11_drawsAt 154 = .ok (.isub, 1) := by decide +kernel
theorem dX11_drawsAt_155 : decode cX11_drawsAt 155 = .ok (.istore 10, 2) := by decide +kernel
theorem dX11_drawsAt_157 : decode cX11_drawsAt 157 = .ok (.iload 10, 2) := by decide +kernel
theorem dX11_drawsAt_159 : decode cX11_drawsAt 159 = .ok (.iload 7, 2) := by decide +kernel
theorem dX11_drawsAt_161 : decode cX11_drawsAt 161 = .ok (.if_icmp .ge 8, 3) := by decide +kernel
theorem dX11_drawsAt_164 : decode cX11_drawsAt 164 = .ok (.iload 10, 2) := by decide +kernel
theorem dX11_drawsAt_166 : decode cX11_drawsAt 166 = .ok (.goto 5, 3) := by decide +kernel
theorem dX11_drawsAt_169 : decode cX11_drawsAt 169 = .ok (.iload 7, 2) := by decide +kernel
theorem dX11_drawsAt_171 : decode cX11_drawsAt 171 = .ok (.istore 11, 2) := by decide +kernel
theorem dX11_drawsAt_173 : decode cX11_drawsAt 173 = .ok (.aload_n 0, 1) := by decide +kernel
theorem dX11_drawsAt_174 : decode cX11_drawsAt 174 = .ok (.getfield 108, 3) := by decide +kernel
theorem dX11_drawsAt_177 : decode cX11_drawsAt 177 = .ok (.iload 9, 2) := by decide +kernel
theorem dX11_drawsAt_179 : decode cX11_drawsAt 179 = .ok (.dup2, 1) := by decide +kernel
theorem dX11_drawsAt_180 : decode cX11_drawsAt 180 = .ok (.iaload, 1) := by decide +kernel
theorem dX11_drawsAt_181 : decode cX11_drawsAt 181 = .ok (.iload 11, 2) := by decide +kernel
theorem dX11_drawsAt_183 : decode cX11_drawsAt 183 = .ok (.iadd, 1) := by decide +kernel
theorem dX11_drawsAt_184 : decode cX11_drawsAt 184 = .ok (.iastore, 1) := by decide +kernel
theorem dX11_drawsAt_185 : decode cX11_drawsAt 185 = .ok (.iload 7, 2) := by decide +kernel
theorem dX11_drawsAt_187 : decode cX11_drawsAt 187 = .ok (.iload 11, 2) := by decide +kernel
theorem dX11_drawsAt_189 : decode cX11_drawsAt 189 = .ok (.isub, 1) := by decide +kernel
theorem dX11_drawsAt_190 : decode cX11_drawsAt 190 = .ok (.istore 7, 2) := by decide +kernel
theorem dX11_drawsAt_192 : decode cX11_drawsAt 192 = .ok (.iload_n 3, 1) := by decide +kernel
theorem dX11_drawsAt_193 : decode cX11_drawsAt 193 = .ok (.iload 11, 2) := by decide +kernel
theorem dX11_drawsAt_195 : decode cX11_drawsAt 195 = .ok (.isub, 1) := by decide +kernel
theorem dX11_drawsAt_196 : decode cX11_drawsAt 196 = .ok (.istore_n 3, 1) := by decide +kernel
theorem dX11_drawsAt_197 : decode cX11_drawsAt 197 = .ok (.iload 11, 2) := by decide +kernel
theorem dX11_drawsAt_199 : decode cX11_drawsAt 199 = .ok (.iload 10, 2) := by decide +kernel
theorem dX11_drawsAt_201 : decode cX11_drawsAt 201 = .ok (.if_icmp .ge 6, 3) := by decide +kernel
theorem dX11_drawsAt_204 : decode cX11_drawsAt 204 = .ok (.goto 15, 3) := by decide +kernel
theorem dX11_drawsAt_207 : decode cX11_drawsAt 207 = .ok (.aload_n 0, 1) := by decide +kernel
theorem dX11_drawsAt_208 : decode cX11_drawsAt 208 = .ok (.getfield 111, 3) := by decide +kernel
theorem dX11_drawsAt_211 : decode cX11_drawsAt 211 = .ok (.iload 9, 2) := by decide +kernel
theorem dX11_drawsAt_213 : decode cX11_drawsAt 213 = .ok (.iload 6, 2) := by decide +kernel
theorem dX11_drawsAt_215 : decode cX11_drawsAt 215 = .ok (.iastore, 1) := by decide +kernel
theorem dX11_drawsAt_216 : decode cX11_drawsAt 216 = .ok (.iinc 5 (-1), 3) := by decide +kernel
theorem dX11_drawsAt_219 : decode cX11_drawsAt 219 = .ok (.iinc 8 1, 3) := by decide +kernel
theorem dX11_drawsAt_222 : decode cX11_drawsAt 222 = .ok (.goto (-141), 3) := by decide +kernel
theorem dX11_drawsAt_225 : decode cX11_drawsAt 225 = .ok (.iinc 6 1, 3) := by decide +kernel
theorem dX11_drawsAt_228 : decode cX11_drawsAt 228 = .ok (.goto (-189), 3) := by decide +kernel
theorem dX11_drawsAt_231 : decode cX11_drawsAt 231 = .ok (.return_, 1) := by decide +kernel
theorem dX11_served_0 : decode cX11_served 0 = .ok (.aload_n 0, 1) := by decide +kernel
theorem dX11_served_1 : decode cX11_served 1 = .ok (.iload_n 1, 1) := by decide +kernel
theorem dX11_served_2 : decode cX11_served 2 = .ok (.invokevirtual 233, 3) := by decide +kernel
theorem dX11_served_5 : decode cX11_served 5 = .ok (.ifCond .ne 9, 3) := by decide +kernel
theorem dX11_served_8 : decode cX11_served 8 = .ok (.aload_n 0, 1) := by decide +kernel
theorem dX11_served_9 : decode cX11_served 9 = .ok (.iconst (-1), 1) := by decide +kernel
theorem dX11_served_10 : decode cX11_served 10 = .ok (.invokevirtual 207, 3) := by decide +kernel
theorem dX11_served_13 : decode cX11_served 13 = .ok (.ireturn, 1) := by decide +kernel
theorem dX11_served_14 : decode cX11_served 14 = .ok (.aload_n 0, 1) := by decide +kernel
theorem dX11_served_15 : decode cX11_served 15 = .ok (.invokevirtual 378, 3) := by decide +kernel
theorem dX11_served_18 : decode cX11_served 18 = .ok (.aload_n 0, 1) := by decide +kernel
theorem dX11_served_19 : decode cX11_served 19 = .ok (.invokevirtual 381, 3) := by decide +kernel
theorem dX11_served_22 : decode cX11_served 22 = .ok (.aload_n 0, 1) := by decide +kernel
theorem dX11_served_23 : decode cX11_served 23 = .ok (.aload_n 0, 1) := by decide +kernel
theorem dX11_served_24 : decode cX11_served 24 = .ok (.getfield 99, 3) := by decide +kernel
theorem dX11_served_27 : decode cX11_served 27 = .ok (.invokevirtual 384, 3) := by decide +kernel
theorem dX11_served_30 : decode cX11_served 30 = .ok (.aload_n 0, 1) := by decide +kernel
theorem dX11_served_31 : decode cX11_served 31 = .ok (.getfield 111, 3) := by decide +kernel
theorem dX11_served_34 : decode cX11_served 34 = .ok (.iload_n 1, 1) := by decide +kernel
theorem dX11_served_35 : decode cX11_served 35 = .ok (.iaload, 1) := by decide +kernel
theorem dX11_served_36 : decode cX11_served 36 = .ok (.ireturn, 1) := by decide +kernel
theorem dX11_isAsFound_0 : decode cX11_isAsFound 0 = .ok (.aload_n 0, 1) := by decide +kernel
theorem dX11_isAsFound_1 : decode cX11_isAsFound 1 = .ok (.getfield 388, 3) := by decide +kernel
theorem dX11_isAsFound_4 : decode cX11_isAsFound 4 = .ok (.istore_n 1, 1) := by decide +kernel
theorem dX11_isAsFound_5 : decode cX11_isAsFound 5 = .ok (.iconst 0, 1) := by decide +kernel
theorem dX11_isAsFound_6 : decode cX11_isAsFound 6 = .ok (.istore_n 2, 1) := by decide +kernel
theorem dX11_isAsFound_7 : decode cX11_isAsFound 7 = .ok (.iconst 0, 1) := by decide +kernel
theorem dX11_isAsFound_8 : decode cX11_isAsFound 8 = .ok (.istore_n 3, 1) := by decide +kernel
theorem dX11_isAsFound_9 : decode cX11_isAsFound 9 = .ok (.iload_n 3, 1) := by decide +kernel
theorem dX11_isAsFound_10 : decode cX11_isAsFound 10 = .ok (.bipush 30, 2) := by decide +kernel
theorem dX11_isAsFound_12 : decode cX11_isAsFound 12 = .ok (.if_icmp .ge 128, 3) := by decide +kernel
theorem dX11_isAsFound_15 : decode cX11_isAsFound 15 = .ok (.iload_n 3, 1) := by decide +kernel
theorem dX11_isAsFound_16 : decode cX11_isAsFound 16 = .ok (.aload_n 0, 1) := by decide +kernel
theorem dX11_isAsFound_17 : decode cX11_isAsFound 17 = .ok (.getfield 193, 3) := by decide +kernel
theorem dX11_isAsFound_20 : decode cX11_isAsFound 20 = .ok (.if_icmp .ge 34, 3) := by decide +kernel
theorem dX11_isAsFound_23 : decode cX11_isAsFound 23 = .ok (.aload_n 0, 1) := by decide +kernel
theorem dX11_isAsFound_24 : decode cX11_isAsFound 24 = .ok (.getfield 102, 3) := by decide +kernel
theorem dX11_isAsFound_27 : decode cX11_isAsFound 27 = .ok (.iload_n 3, 1) := by decide +kernel
theorem dX11_isAsFound_28 : decode cX11_isAsFound 28 = .ok (.iaload, 1) := by decide +kernel
theorem dX11_isAsFound_29 : decode cX11_isAsFound 29 = .ok (.bipush 8, 2) := by decide +kernel
theorem dX11_isAsFound_31 : decode cX11_isAsFound 31 = .ok (.imul, 1) := by decide +kernel
theorem dX11_isAsFound_32 : decode cX11_isAsFound 32 = .ok (.aload_n 0, 1) := by decide +kernel
theorem dX11_isAsFound_33 : decode cX11_isAsFound 33 = .ok (.getfield 105, 3) := by decide +kernel
theorem dX11_isAsFound_36 : decode cX11_isAsFound 36 = .ok (.iload_n 3, 1) := by decide +kernel
theorem dX11_isAsFound_37 : decode cX11_isAsFound 37 = .ok (.iaload, 1) := by decide +kernel
theorem dX11_isAsFound_38 : decode cX11_isAsFound 38 = .ok (.iadd, 1) := by decide +kernel
theorem dX11_isAsFound_39 : decode cX11_isAsFound 39 = .ok (.iconst 2, 1) := by decide +kernel
theorem dX11_isAsFound_40 : decode cX11_isAsFound 40 = .ok (.iadd, 1) := by decide +kernel
theorem dX11_isAsFound_41 : decode cX11_isAsFound 41 = .ok (.bipush 8, 2) := by decide +kernel
theorem dX11_isAsFound_43 : decode cX11_isAsFound 43 = .ok (.imul, 1) := by decide +kernel
theorem dX11_isAsFound_44 : decode cX11_isAsFound 44 = .ok (.aload_n 0, 1) := by decide +kernel
theorem dX11_isAsFound_45 : decode cX11_isAsFound 45 = .ok (.getfield 19, 3) := by decide +kernel
theorem dX11_isAsFound_48 : decode cX11_isAsFound 48 = .ok (.iload_n 3, 1) := by decide +kernel
theorem dX11_isAsFound_49 : decode cX11_isAsFound 49 = .ok (.iaload, 1) := by decide +kernel
theorem dX11_isAsFound_50 : decode cX11_isAsFound 50 = .ok (.iadd, 1) := by decide +kernel
theorem dX11_isAsFound_51 : decode cX11_isAsFound 51 = .ok (.goto 5, 3) := by decide +kernel
theorem dX11_isAsFound_54 : decode cX11_isAsFound 54 = .ok (.bipush (-9), 2) := by decide +kernel
theorem dX11_isAsFound_56 : decode cX11_isAsFound 56 = .ok (.istore 4, 2) := by decide +kernel
theorem dX11_isAsFound_58 : decode cX11_isAsFound 58 = .ok (.iload_n 3, 1) := by decide +kernel
theorem dX11_isAsFound_59 : decode cX11_isAsFound 59 = .ok (.aload_n 0, 1) := by decide +kernel
theorem dX11_isAsFound_60 : decode cX11_isAsFound 60 = .ok (.getfield 193, 3) := by decide +kernel
theorem dX11_isAsFound_63 : decode cX11_isAsFound 63 = .ok (.if_icmp .ge 12, 3) := by decide +kernel
theorem dX11_isAsFound_66 : decode cX11_isAsFound 66 = .ok (.aload_n 0, 1) := by decide +kernel
theorem dX11_isAsFound_67 : decode cX11_isAsFound 67 = .ok (.getfield 102, 3) := by decide +kernel
theorem dX11_isAsFound_70 : decode cX11_isAsFound 70 = .ok (.iload_n 3, 1) := by decide +kernel
theorem dX11_isAsFound_71 : decode cX11_isAsFound 71 = .ok (.iaload, 1) := by decide +kernel
theorem dX11_isAsFound_72 : decode cX11_isAsFound 72 = .ok (.goto 5, 3) := by decide +kernel
theorem dX11_isAsFound_75 : decode cX11_isAsFound 75 = .ok (.bipush (-9), 2) := by decide +kernel
theorem dX11_isAsFound_77 : decode cX11_isAsFound 77 = .ok (.istore 5, 2) := by decide +kernel
theorem dX11_isAsFound_79 : decode cX11_isAsFound 79 = .ok (.iload_n 1, 1) := by decide +kernel
theorem dX11_isAsFound_80 : decode cX11_isAsFound 80 = .ok (.ifCond .eq 31, 3) := by decide +kernel
theorem dX11_isAsFound_83 : decode cX11_isAsFound 83 = .ok (.aload_n 0, 1) := by decide +kernel
theorem dX11_isAsFound_84 : decode cX11_isAsFound 84 = .ok (.getfield 126, 3) := by decide +kernel
theorem dX11_isAsFound_87 : decode cX11_isAsFound 87 = .ok (.iload_n 2, 1) := by decide +kernel
theorem dX11_isAsFound_88 : decode cX11_isAsFound 88 = .ok (.iaload, 1) := by decide +kernel
theorem dX11_isAsFound_89 : decode cX11_isAsFound 89 = .ok (.iload 4, 2) := by decide +kernel
theorem dX11_isAsFound_91 : decode cX11_isAsFound 91 = .ok (.if_icmp .ne 20, 3) := by decide +kernel
theorem dX11_isAsFound_94 : decode cX11_isAsFound 94 = .ok (.aload_n 0, 1) := by decide +kernel
theorem dX11_isAsFound_95 : decode cX11_isAsFound 95 = .ok (.getfield 126, 3) := by decide +kernel
theorem dX11_isAsFound_98 : decode cX11_isAsFound 98 = .ok (.iload_n 2, 1) := by decide +kernel
theorem dX11_isAsFound_99 : decode cX11_isAsFound 99 = .ok (.iconst 1, 1) := by decide +kernel
theorem dX11_isAsFound_100 : decode cX11_isAsFound 100 = .ok (.iadd, 1) := by decide +kernel
theorem dX11_isAsFound_101 : decode cX11_isAsFound 101 = .ok (.iaload, 1) := by decide +kernel
theorem dX11_isAsFound_102 : decode cX11_isAsFound 102 = .ok (.iload 5, 2) := by decide +kernel
theorem dX11_isAsFound_104 : decode cX11_isAsFound 104 = .ok (.if_icmp .ne 7, 3) := by decide +kernel
theorem dX11_isAsFound_107 : decode cX11_isAsFound 107 = .ok (.iconst 1, 1) := by decide +kernel
theorem dX11_isAsFound_108 : decode cX11_isAsFound 108 = .ok (.goto 4, 3) := by decide +kernel
theorem dX11_isAsFound_111 : decode cX11_isAsFound 111 = .ok (.iconst 0, 1) := by decide +kernel
theorem dX11_isAsFound_112 : decode cX11_isAsFound 112 = .ok (.istore_n 1, 1) := by decide +kernel
theorem dX11_isAsFound_113 : decode cX11_isAsFound 113 = .ok (.aload_n 0, 1) := by decide +kernel
theorem dX11_isAsFound_114 : decode cX11_isAsFound 114 = .ok (.getfield 126, 3) := by decide +kernel
theorem dX11_isAsFound_117 : decode cX11_isAsFound 117 = .ok (.iload_n 2, 1) := by decide +kernel
theorem dX11_isAsFound_118 : decode cX11_isAsFound 118 = .ok (.iload 4, 2) := by decide +kernel
theorem dX11_isAsFound_120 : decode cX11_isAsFound 120 = .ok (.iastore, 1) := by decide +kernel
theorem dX11_isAsFound_121 : decode cX11_isAsFound 121 = .ok (.aload_n 0, 1) := by decide +kernel
theorem dX11_isAsFound_122 : decode cX11_isAsFound 122 = .ok (.getfield 126, 3) := by decide +kernel
theorem dX11_isAsFound_125 : decode cX11_isAsFound 125 = .ok (.iload_n 2, 1) := by decide +kernel
theorem dX11_isAsFound_126 : decode cX11_isAsFound 126 = .ok (.iconst 1, 1) := by decide +kernel
theorem dX11_isAsFound_127 : decode cX11_isAsFound 127 = .ok (.iadd, 1) := by decide +kernel
theorem dX11_isAsFound_128 : decode cX11_isAsFound 128 = .ok (.iload 5, 2) := by decide +kernel
theorem dX11_isAsFound_130 : decode cX11_isAsFound 130 = .ok (.iastore, 1) := by decide +kernel
theorem dX11_isAsFound_131 : decode cX11_isAsFound 131 = .ok (.iinc 2 2, 3) := by decide +kernel
theorem dX11_isAsFound_134 : decode cX11_isAsFound 134 = .ok (.iinc 3 1, 3) := by decide +kernel
theorem dX11_isAsFound_137 : decode cX11_isAsFound 137 = .ok (.goto (-128), 3) := by decide +kernel
theorem dX11_isAsFound_140 : decode cX11_isAsFound 140 = .ok (.iconst 0, 1) := by decide +kernel
theorem dX11_isAsFound_141 : decode cX11_isAsFound 141 = .ok (.istore_n 3, 1) := by decide +kernel
theorem dX11_isAsFound_142 : decode cX11_isAsFound 142 = .ok (.iload_n 3, 1) := by decide +kernel
theorem dX11_isAsFound_143 : decode cX11_isAsFound 143 = .ok (.bipush 6, 2) := by decide +kernel
theorem dX11_isAsFound_145 : decode cX11_isAsFound 145 = .ok (.if_icmp .ge 73, 3) := by decide +kernel
theorem dX11_isAsFound_148 : decode cX11_isAsFound 148 = .ok (.iload_n 3, 1) := by decide +kernel
theorem dX11_isAsFound_149 : decode cX11_isAsFound 149 = .ok (.aload_n 0, 1) := by decide +kernel
theorem dX11_isAsFound_150 : decode cX11_isAsFound 150 = .ok (.getfield 369, 3) := by decide +kernel
theorem dX11_isAsFound_153 : decode cX11_isAsFound 153 = .ok (.if_icmp .ge 23, 3) := by decide +kernel
theorem dX11_isAsFound_156 : decode cX11_isAsFound 156 = .ok (.sipush 10000, 3) := by decide +kernel
theorem dX11_isAsFound_159 : decode cX11_isAsFound 159 = .ok (.aload_n 0, 1) := by decide +kernel
theorem dX11_isAsFound_160 : decode cX11_isAsFound 160 = .ok (.getfield 93, 3) := by decide +kernel
theorem dX11_isAsFound_163 : decode cX11_isAsFound 163 = .ok (.iload_n 3, 1) := by decide +kernel
theorem dX11_isAsFound_164 : decode cX11_isAsFound 164 = .ok (.iaload, 1) := by decide +kernel
theorem dX11_isAsFound_165 : decode cX11_isAsFound 165 = .ok (.imul, 1) := by decide +kernel
theorem dX11_isAsFound_166 : decode cX11_isAsFound 166 = .ok (.aload_n 0, 1) := by decide +kernel
theorem dX11_isAsFound_167 : decode cX11_isAsFound 167 = .ok (.getfield 96, 3) := by decide +kernel
theorem dX11_isAsFound_170 : decode cX11_isAsFound 170 = .ok (.iload_n 3, 1) := by decide +kernel
theorem dX11_isAsFound_171 : decode cX11_isAsFound 171 = .ok (.iaload, 1) := by decide +kernel
theorem dX11_isAsFound_172 : decode cX11_isAsFound 172 = .ok (.iadd, 1) := by decide +kernel
theorem dX11_isAsFound_173 : decode cX11_isAsFound 173 = .ok (.goto 5, 3) := by decide +kernel
theorem dX11_isAsFound_176 : decode cX11_isAsFound 176 = .ok (.bipush (-9), 2) := by decide +kernel
theorem dX11_isAsFound_178 : decode cX11_isAsFound 178 = .ok (.istore 4, 2) := by decide +kernel
theorem dX11_isAsFound_180 : decode cX11_isAsFound 180 = .ok (.iload_n 1, 1) := by decide +kernel
theorem dX11_isAsFound_181 : decode cX11_isAsFound 181 = .ok (.ifCond .eq 18, 3) := by decide +kernel
theorem dX11_isAsFound_184 : decode cX11_isAsFound 184 = .ok (.aload_n 0, 1) := by decide +kernel
theorem dX11_isAsFound_185 : decode cX11_isAsFound 185 = .ok (.getfield 126, 3) := by decide +kernel
theorem dX11_isAsFound_188 : decode cX11_isAsFound 188 = .ok (.iload_n 2, 1) := by decide +kernel
theorem dX11_isAsFound_189 : decode cX11_isAsFound 189 = .ok (.iaload, 1) := by decide +kernel
theorem dX11_isAsFound_190 : decode cX11_isAsFound 190 = .ok (.iload 4, 2) := by decide +kernel
theorem dX11_isAsFound_192 : decode cX11_isAsFound 192 = .ok (.if_icmp .ne 7, 3) := by decide +kernel
theorem dX11_isAsFound_195 : decode cX11_isAsFound 195 = .ok (.iconst 1, 1) := by decide +kernel
theorem dX11_isAsFound_196 : decode cX11_isAsFound 196 = .ok (.goto 4, 3) := by decide +kernel
theorem dX11_isAsFound_199 : decode cX11_isAsFound 199 = .ok (.iconst 0, 1) := by decide +kernel
theorem dX11_isAsFound_200 : decode cX11_isAsFound 200 = .ok (.istore_n 1, 1) := by decide +kernel
theorem dX11_isAsFound_201 : decode cX11_isAsFound 201 = .ok (.aload_n 0, 1) := by decide +kernel
theorem dX11_isAsFound_202 : decode cX11_isAsFound 202 = .ok (.getfield 126, 3) := by decide +kernel
theorem dX11_isAsFound_205 : decode cX11_isAsFound 205 = .ok (.iload_n 2, 1) := by decide +kernel
theorem dX11_isAsFound_206 : decode cX11_isAsFound 206 = .ok (.iload 4, 2) := by decide +kernel
theorem dX11_isAsFound_208 : decode cX11_isAsFound 208 = .ok (.iastore, 1) := by decide +kernel
theorem dX11_isAsFound_209 : decode cX11_isAsFound 209 = .ok (.iinc 2 1, 3) := by decide +kernel
theorem dX11_isAsFound_212 : decode cX11_isAsFound 212 = .ok (.iinc 3 1, 3) := by decide +kernel
theorem dX11_isAsFound_215 : decode cX11_isAsFound 215 = .ok (.goto (-73), 3) := by decide +kernel
theorem dX11_isAsFound_218 : decode cX11_isAsFound 218 = .ok (.aload_n 0, 1) := by decide +kernel
theorem dX11_isAsFound_219 : decode cX11_isAsFound 219 = .ok (.iconst 1, 1) := by decide +kernel
theorem dX11_isAsFound_220 : decode cX11_isAsFound 220 = .ok (.putfield 388, 3) := by decide +kernel
theorem dX11_isAsFound_223 : decode cX11_isAsFound 223 = .ok (.iload_n 1, 1) := by decide +kernel
theorem dX11_isAsFound_224 : decode cX11_isAsFound 224 = .ok (.ireturn, 1) := by decide +kernel
theorem dX11_isEmpty_0 : decode cX11_isEmpty 0 = .ok (.iconst 0, 1) := by decide +kernel
theorem dX11_isEmpty_1 : decode cX11_isEmpty 1 = .ok (.istore_n 2, 1) := by decide +kernel
theorem dX11_isEmpty_2 : decode cX11_isEmpty 2 = .ok (.iload_n 2, 1) := by decide +kernel
theorem dX11_isEmpty_3 : decode cX11_isEmpty 3 = .ok (.aload_n 0, 1) := by decide +kernel
theorem dX11_isEmpty_4 : decode cX11_isEmpty 4 = .ok (.getfield 193, 3) := by decide +kernel
theorem dX11_isEmpty_7 : decode cX11_isEmpty 7 = .ok (.if_icmp .ge 21, 3) := by decide +kernel
theorem dX11_isEmpty_10 : decode cX11_isEmpty 10 = .ok (.aload_n 0, 1) := by decide +kernel
theorem dX11_isEmpty_11 : decode cX11_isEmpty 11 = .ok (.getfield 19, 3) := by decide +kernel
theorem dX11_isEmpty_14 : decode cX11_isEmpty 14 = .ok (.iload_n 2, 1) := by decide +kernel
theorem dX11_isEmpty_15 : decode cX11_isEmpty 15 = .ok (.iaload, 1) := by decide +kernel
theorem dX11_isEmpty_16 : decode cX11_isEmpty 16 = .ok (.iload_n 1, 1) := by decide +kernel
theorem dX11_isEmpty_17 : decode cX11_isEmpty 17 = .ok (.if_icmp .ne 5, 3) := by decide +kernel
theorem dX11_isEmpty_20 : decode cX11_isEmpty 20 = .ok (.iconst 0, 1) := by decide +kernel
theorem dX11_isEmpty_21 : decode cX11_isEmpty 21 = .ok (.ireturn, 1) := by decide +kernel
theorem dX11_isEmpty_22 : decode cX11_isEmpty 22 = .ok (.iinc 2 1, 3) := by decide +kernel
theorem dX11_isEmpty_25 : decode cX11_isEmpty 25 = .ok (.goto (-23), 3) := by decide +kernel
theorem dX11_isEmpty_28 : decode cX11_isEmpty 28 = .ok (.iconst 1, 1) := by decide +kernel
theorem dX11_isEmpty_29 : decode cX11_isEmpty 29 = .ok (.ireturn, 1) := by decide +kernel
theorem dX11_findBest_0 : decode cX11_findBest 0 = .ok (.aload_n 0, 1) := by decide +kernel
theorem dX11_findBest_1 : decode cX11_findBest 1 = .ok (.invokevirtual 378, 3) := by decide +kernel
theorem dX11_findBest_4 : decode cX11_findBest 4 = .ok (.aload_n 0, 1) := by decide +kernel
theorem dX11_findBest_5 : decode cX11_findBest 5 = .ok (.invokevirtual 392, 3) := by decide +kernel
theorem dX11_findBest_8 : decode cX11_findBest 8 = .ok (.ifCond .eq 4, 3) := by decide +kernel
theorem dX11_findBest_11 : decode cX11_findBest 11 = .ok (.return_, 1) := by decide +kernel
theorem dX11_findBest_12 : decode cX11_findBest 12 = .ok (.aload_n 0, 1) := by decide +kernel
theorem dX11_findBest_13 : decode cX11_findBest 13 = .ok (.invokevirtual 381, 3) := by decide +kernel
theorem dX11_findBest_16 : decode cX11_findBest 16 = .ok (.aload_n 0, 1) := by decide +kernel
theorem dX11_findBest_17 : decode cX11_findBest 17 = .ok (.bipush 31, 2) := by decide +kernel
theorem dX11_findBest_19 : decode cX11_findBest 19 = .ok (.putfield 395, 3) := by decide +kernel
theorem dX11_findBest_22 : decode cX11_findBest 22 = .ok (.aload_n 0, 1) := by decide +kernel
theorem dX11_findBest_23 : decode cX11_findBest 23 = .ok (.iconst 0, 1) := by decide +kernel
theorem dX11_findBest_24 : decode cX11_findBest 24 = .ok (.putfield 398, 3) := by decide +kernel
theorem dX11_findBest_27 : decode cX11_findBest 27 = .ok (.iconst 0, 1) := by decide +kernel
theorem dX11_findBest_28 : decode cX11_findBest 28 = .ok (.istore_n 1, 1) := by decide +kernel
theorem dX11_findBest_29 : decode cX11_findBest 29 = .ok (.iconst 0, 1) := by decide +kernel
theorem dX11_findBest_30 : decode cX11_findBest 30 = .ok (.istore_n 2, 1) := by decide +kernel
theorem dX11_findBest_31 : decode cX11_findBest 31 = .ok (.iload_n 2, 1) := by decide +kernel
theorem dX11_findBest_32 : decode cX11_findBest 32 = .ok (.iconst 4, 1) := by decide +kernel
theorem dX11_findBest_33 : decode cX11_findBest 33 = .ok (.if_icmp .ge 33, 3) := by decide +kernel
theorem dX11_findBest_36 : decode cX11_findBest 36 = .ok (.iload_n 1, 1) := by decide +kernel
theorem dX11_findBest_37 : decode cX11_findBest 37 = .ok (.aload_n 0, 1) := by decide +kernel
theorem dX11_findBest_38 : decode cX11_findBest 38 = .ok (.iload_n 2, 1) := by decide +kernel
theorem dX11_findBest_39 : decode cX11_findBest 39 = .ok (.invokevirtual 401, 3) := by decide +kernel
theorem dX11_findBest_42 : decode cX11_findBest 42 = .ok (.ifCond .eq 15, 3) := by decide +kernel
theorem dX11_findBest_45 : decode cX11_findBest 45 = .ok (.bipush 7, 2) := by decide +kernel
theorem dX11_findBest_47 : decode cX11_findBest 47 = .ok (.bipush 9, 2) := by decide +kernel
theorem dX11_findBest_49 : decode cX11_findBest 49 = .ok (.iconst 3, 1) := by decide +kernel
theorem dX11_findBest_50 : decode cX11_findBest 50 = .ok (.iload_n 2, 1) := by decide +kernel
theorem dX11_findBest_51 : decode cX11_findBest 51 = .ok (.imul, 1) := by decide +kernel
theorem dX11_findBest_52 : decode cX11_findBest 52 = .ok (.isub, 1) := by decide +kernel
theorem dX11_findBest_53 : decode cX11_findBest 53 = .ok (.ishl, 1) := by decide +kernel
theorem dX11_findBest_54 : decode cX11_findBest 54 = .ok (.goto 4, 3) := by decide +kernel
theorem dX11_findBest_57 : decode cX11_findBest 57 = .ok (.iconst 0, 1) := by decide +kernel
theorem dX11_findBest_58 : decode cX11_findBest 58 = .ok (.ior, 1) := by decide +kernel
theorem dX11_findBest_59 : decode cX11_findBest 59 = .ok (.istore_n 1, 1) := by decide +kernel
theorem dX11_findBest_60 : decode cX11_findBest 60 = .ok (.iinc 2 1, 3) := by decide +kernel
theorem dX11_findBest_63 : decode cX11_findBest 63 = .ok (.goto (-32), 3) := by decide +kernel
theorem dX11_findBest_66 : decode cX11_findBest 66 = .ok (.iconst 0, 1) := by decide +kernel
theorem dX11_findBest_67 : decode cX11_findBest 67 = .ok (.istore_n 2, 1) := by decide +kernel
theorem dX11_findBest_68 : decode cX11_findBest 68 = .ok (.iload_n 2, 1) := by decide +kernel
theorem dX11_findBest_69 : decode cX11_findBest 69 = .ok (.sipush 4096, 3) := by decide +kernel
theorem dX11_findBest_72 : decode cX11_findBest 72 = .ok (.if_icmp .ge 194, 3) := by decide +kernel
theorem dX11_findBest_75 : decode cX11_findBest 75 = .ok (.iload_n 2, 1) := by decide +kernel
theorem dX11_findBest_76 : decode cX11_findBest 76 = .ok (.iload_n 1, 1) := by decide +kernel
theorem dX11_findBest_77 : decode cX11_findBest 77 = .ok (.iand, 1) := by decide +kernel
theorem dX11_findBest_78 : decode cX11_findBest 78 = .ok (.ifCond .eq 6, 3) := by decide +kernel
theorem dX11_findBest_81 : decode cX11_findBest 81 = .ok (.goto 179, 3) := by decide +kernel
theorem dX11_findBest_84 : decode cX11_findBest 84 = .ok (.iconst 0, 1) := by decide +kernel
theorem dX11_findBest_85 : decode cX11_findBest 85 = .ok (.istore_n 3, 1) := by decide +kernel
theorem dX11_findBest_86 : decode cX11_findBest 86 = .ok (.iload_n 3, 1) := by decide +kernel
theorem dX11_findBest_87 : decode cX11_findBest 87 = .ok (.iconst 4, 1) := by decide +kernel
theorem dX11_findBest_88 : decode cX11_findBest 88 = .ok (.if_icmp .ge 29, 3) := by decide +kernel
theorem dX11_findBest_91 : decode cX11_findBest 91 = .ok (.aload_n 0, 1) := by decide +kernel
theorem dX11_findBest_92 : decode cX11_findBest 92 = .ok (.getfield 114, 3) := by decide +kernel
theorem dX11_findBest_95 : decode cX11_findBest 95 = .ok (.iload_n 3, 1) := by decide +kernel
theorem dX11_findBest_96 : decode cX11_findBest 96 = .ok (.bipush 6, 2) := by decide +kernel
theorem dX11_findBest_98 : decode cX11_findBest 98 = .ok (.iload_n 2, 1) := by decide +kernel
theorem dX11_findBest_99 : decode cX11_findBest 99 = .ok (.bipush 9, 2) := by decide +kernel
theorem dX11_findBest_101 : decode cX11_findBest 101 = .ok (.iconst 3, 1) := by decide +kernel
theorem dX11_findBest_102 : decode cX11_findBest 102 = .ok (.iload_n 3, 1) := by decide +kernel
theorem dX11_findBest_103 : decode cX11_findBest 103 = .ok (.imul, 1) := by decide +kernel
theorem dX11_findBest_104 : decode cX11_findBest 104 = .ok (.isub, 1) := by decide +kernel
theorem dX11_findBest_105 : decode cX11_findBest 105 = .ok (.ishr, 1) := by decide +kernel
theorem dX11_findBest_106 : decode cX11_findBest 106 = .ok (.bipush 7, 2) := by decide +kernel
theorem dX11_findBest_108 : decode cX11_findBest 108 = .ok (.iand, 1) := by decide +kernel
theorem dX11_findBest_109 : decode cX11_findBest 109 = .ok (.iadd, 1) := by decide +kernel
theorem dX11_findBest_110 : decode cX11_findBest 110 = .ok (.iastore, 1) := by decide +kernel
theorem dX11_findBest_111 : decode cX11_findBest 111 = .ok (.iinc 3 1, 3) := by decide +kernel
theorem dX11_findBest_114 : decode cX11_findBest 114 = .ok (.goto (-28), 3) := by decide +kernel
theorem dX11_findBest_117 : decode cX11_findBest 117 = .ok (.aload_n 0, 1) := by decide +kernel
theorem dX11_findBest_118 : decode cX11_findBest 118 = .ok (.aload_n 0, 1) := by decide +kernel
theorem dX11_findBest_119 : decode cX11_findBest 119 = .ok (.getfield 114, 3) := by decide +kernel
theorem dX11_findBest_122 : decode cX11_findBest 122 = .ok (.invokevirtual 384, 3) := by decide +kernel
theorem dX11_findBest_125 : decode cX11_findBest 125 = .ok (.iconst 0, 1) := by decide +kernel
theorem dX11_findBest_126 : decode cX11_findBest 126 = .ok (.istore_n 3, 1) := by decide +kernel
theorem dX11_findBest_127 : decode cX11_findBest 127 = .ok (.iconst 0, 1) := by decide +kernel
theorem dX11_findBest_128 : decode cX11_findBest 128 = .ok (.istore 4, 2) := by decide +kernel
theorem dX11_findBest_130 : decode cX11_findBest 130 = .ok (.iconst 0, 1) := by decide +kernel
theorem dX11_findBest_131 : decode cX11_findBest 131 = .ok (.istore 5, 2) := by decide +kernel
theorem dX11_findBest_133 : decode cX11_findBest 133 = .ok (.iload 5, 2) := by decide +kernel
theorem dX11_findBest_135 : decode cX11_findBest 135 = .ok (.aload_n 0, 1) := by decide +kernel
theorem dX11_findBest_136 : decode cX11_findBest 136 = .ok (.getfield 193, 3) := by decide +kernel
theorem dX11_findBest_139 : decode cX11_findBest 139 = .ok (.if_icmp .ge 53, 3) := by decide +kernel
theorem dX11_findBest_142 : decode cX11_findBest 142 = .ok (.iload_n 3, 1) := by decide +kernel
theorem dX11_findBest_143 : decode cX11_findBest 143 = .ok (.aload_n 0, 1) := by decide +kernel
theorem dX11_findBest_144 : decode cX11_findBest 144 = .ok (.getfield 111, 3) := by decide +kernel
theorem dX11_findBest_147 : decode cX11_findBest 147 = .ok (.iload 5, 2) := by decide +kernel
theorem dX11_findBest_149 : decode cX11_findBest 149 = .ok (.iaload, 1) := by decide +kernel
theorem dX11_findBest_150 : decode cX11_findBest 150 = .ok (.ifCond .ge 7, 3) := by decide +kernel
theorem dX11_findBest_153 : decode cX11_findBest 153 = .ok (.iconst 1, 1) := by decide +kernel
theorem dX11_findBest_154 : decode cX11_findBest 154 = .ok (.goto 4, 3) := by decide +kernel
theorem dX11_findBest_157 : decode cX11_findBest 157 = .ok (.iconst 0, 1) := by decide +kernel
theorem dX11_findBest_158 : decode cX11_findBest 158 = .ok (.iadd, 1) := by decide +kernel
theorem dX11_findBest_159 : decode cX11_findBest 159 = .ok (.istore_n 3, 1) := by decide +kernel
theorem dX11_findBest_160 : decode cX11_findBest 160 = .ok (.iload 4, 2) := by decide +kernel
theorem dX11_findBest_162 : decode cX11_findBest 162 = .ok (.aload_n 0, 1) := by decide +kernel
theorem dX11_findBest_163 : decode cX11_findBest 163 = .ok (.getfield 111, 3) := by decide +kernel
theorem dX11_findBest_166 : decode cX11_findBest 166 = .ok (.iload 5, 2) := by decide +kernel
theorem dX11_findBest_168 : decode cX11_findBest 168 = .ok (.iaload, 1) := by decide +kernel
theorem dX11_findBest_169 : decode cX11_findBest 169 = .ok (.ifCond .ge 7, 3) := by decide +kernel
theorem dX11_findBest_172 : decode cX11_findBest 172 = .ok (.iconst 0, 1) := by decide +kernel
theorem dX11_findBest_173 : decode cX11_findBest 173 = .ok (.goto 10, 3) := by decide +kernel
theorem dX11_findBest_176 : decode cX11_findBest 176 = .ok (.aload_n 0, 1) := by decide +kernel
theorem dX11_findBest_177 : decode cX11_findBest 177 = .ok (.getfield 111, 3) := by decide +kernel
theorem dX11_findBest_180 : decode cX11_findBest 180 = .ok (.iload 5, 2) := by decide +kernel
theorem dX11_findBest_182 : decode cX11_findBest 182 = .ok (.iaload, 1) := by decide +kernel
theorem dX11_findBest_183 : decode cX11_findBest 183 = .ok (.iadd, 1) := by decide +kernel
theorem dX11_findBest_184 : decode cX11_findBest 184 = .ok (.istore 4, 2) := by decide +kernel
theorem dX11_findBest_186 : decode cX11_findBest 186 = .ok (.iinc 5 1, 3) := by decide +kernel
theorem dX11_findBest_189 : decode cX11_findBest 189 = .ok (.goto (-56), 3) := by decide +kernel
theorem dX11_findBest_192 : decode cX11_findBest 192 = .ok (.iload_n 3, 1) := by decide +kernel
theorem dX11_findBest_193 : decode cX11_findBest 193 = .ok (.aload_n 0, 1) := by decide +kernel
theorem dX11_findBest_194 : decode cX11_findBest 194 = .ok (.getfield 395, 3) := by decide +kernel
theorem dX11_findBest_197 : decode cX11_findBest 197 = .ok (.if_icmp .gt 63, 3) := by decide +kernel
theorem dX11_findBest_200 : decode cX11_findBest 200 = .ok (.iload_n 3, 1) := by decide +kernel
theorem dX11_findBest_201 : decode cX11_findBest 201 = .ok (.aload_n 0, 1) := by decide +kernel
theorem dX11_findBest_202 : decode cX11_findBest 202 = .ok (.getfield 395, 3) := by decide +kernel
theorem dX11_findBest_205 : decode cX11_findBest 205 = .ok (.if_icmp .ne 15, 3) := by decide +kernel
theorem dX11_findBest_208 : decode cX11_findBest 208 = .ok (.iload 4, 2) := by decide +kernel
theorem dX11_findBest_210 : decode cX11_findBest 210 = .ok (.aload_n 0, 1) := by decide +kernel
theorem dX11_findBest_211 : decode cX11_findBest 211 = .ok (.getfield 398, 3) := by decide +kernel
theorem dX11_findBest_214 : decode cX11_findBest 214 = .ok (.if_icmp .lt 6, 3) := by decide +kernel
theorem dX11_findBest_217 : decode cX11_findBest 217 = .ok (.goto 43, 3) := by decide +kernel
theorem dX11_findBest_220 : decode cX11_findBest 220 = .ok (.aload_n 0, 1) := by decide +kernel
theorem dX11_findBest_221 : decode cX11_findBest 221 = .ok (.iload_n 3, 1) := by decide +kernel
theorem dX11_findBest_222 : decode cX11_findBest 222 = .ok (.putfield 395, 3) := by decide +kernel
theorem dX11_findBest_225 : decode cX11_findBest 225 = .ok (.aload_n 0, 1) := by decide +kernel
theorem dX11_findBest_226 : decode cX11_findBest 226 = .ok (.iload 4, 2) := by decide +kernel
theorem dX11_findBest_228 : decode cX11_findBest 228 = .ok (.putfield 398, 3) := by decide +kernel
theorem dX11_findBest_231 : decode cX11_findBest 231 = .ok (.iconst 0, 1) := by decide +kernel
theorem dX11_findBest_232 : decode cX11_findBest 232 = .ok (.istore 5, 2) := by decide +kernel
theorem dX11_findBest_234 : decode cX11_findBest 234 = .ok (.iload 5, 2) := by decide +kernel
theorem dX11_findBest_236 : decode cX11_findBest 236 = .ok (.iconst 4, 1) := by decide +kernel
theorem dX11_findBest_237 : decode cX11_findBest 237 = .ok (.if_icmp .ge 23, 3) := by decide +kernel
theorem dX11_findBest_240 : decode cX11_findBest 240 = .ok (.aload_n 0, 1) := by decide +kernel
theorem dX11_findBest_241 : decode cX11_findBest 241 = .ok (.getfield 117, 3) := by decide +kernel
theorem dX11_findBest_244 : decode cX11_findBest 244 = .ok (.iload 5, 2) := by decide +kernel
theorem dX11_findBest_246 : decode cX11_findBest 246 = .ok (.aload_n 0, 1) := by decide +kernel
theorem dX11_findBest_247 : decode cX11_findBest 247 = .ok (.getfield 114, 3) := by decide +kernel
theorem dX11_findBest_250 : decode cX11_findBest 250 = .ok (.iload 5, 2) := by decide +kernel
theorem dX11_findBest_252 : decode cX11_findBest 252 = .ok (.iaload, 1) := by decide +kernel
theorem dX11_findBest_253 : decode cX11_findBest 253 = .ok (.iastore, 1) := by decide +kernel
theorem dX11_findBest_254 : decode cX11_findBest 254 = .ok (.iinc 5 1, 3) := by decide +kernel
theorem dX11_findBest_257 : decode cX11_findBest 257 = .ok (.goto (-23), 3) := by decide +kernel
theorem dX11_findBest_260 : decode cX11_findBest 260 = .ok (.iinc 2 1, 3) := by decide +kernel
theorem dX11_findBest_263 : decode cX11_findBest 263 = .ok (.goto (-195), 3) := by decide +kernel
theorem dX11_findBest_266 : decode cX11_findBest 266 = .ok (.return_, 1) := by decide +kernel
theorem dX11_best_0 : decode cX11_best 0 = .ok (.iload_n 1, 1) := by decide +kernel
theorem dX11_best_1 : decode cX11_best 1 = .ok (.i2l, 1) := by decide +kernel
theorem dX11_best_2 : decode cX11_best 2 = .ok (.lconst 0, 1) := by decide +kernel
theorem dX11_best_3 : decode cX11_best 3 = .ok (.ldc2_w 236, 3) := by decide +kernel
theorem dX11_best_6 : decode cX11_best 6 = .ok (.invokestatic 226, 3) := by decide +kernel
theorem dX11_best_9 : decode cX11_best 9 = .ok (.ifCond .ne 10, 3) := by decide +kernel
theorem dX11_best_12 : decode cX11_best 12 = .ok (.aload_n 0, 1) := by decide +kernel
theorem dX11_best_13 : decode cX11_best 13 = .ok (.bipush (-2), 2) := by decide +kernel
theorem dX11_best_15 : decode cX11_best 15 = .ok (.invokevirtual 207, 3) := by decide +kernel
theorem dX11_best_18 : decode cX11_best 18 = .ok (.ireturn, 1) := by decide +kernel
theorem dX11_best_19 : decode cX11_best 19 = .ok (.aload_n 0, 1) := by decide +kernel
theorem dX11_best_20 : decode cX11_best 20 = .ok (.invokevirtual 404, 3) := by decide +kernel
theorem dX11_best_23 : decode cX11_best 23 = .ok (.iload_n 1, 1) := by decide +kernel
theorem dX11_best_24 : decode cX11_best 24 = .ok (.iconst 4, 1) := by decide +kernel
theorem dX11_best_25 : decode cX11_best 25 = .ok (.if_icmp .ge 12, 3) := by decide +kernel
theorem dX11_best_28 : decode cX11_best 28 = .ok (.aload_n 0, 1) := by decide +kernel
theorem dX11_best_29 : decode cX11_best 29 = .ok (.getfield 117, 3) := by decide +kernel
theorem dX11_best_32 : decode cX11_best 32 = .ok (.iload_n 1, 1) := by decide +kernel
theorem dX11_best_33 : decode cX11_best 33 = .ok (.iaload, 1) := by decide +kernel
theorem dX11_best_34 : decode cX11_best 34 = .ok (.goto 19, 3) := by decide +kernel
theorem dX11_best_37 : decode cX11_best 37 = .ok (.iload_n 1, 1) := by decide +kernel
theorem dX11_best_38 : decode cX11_best 38 = .ok (.iconst 4, 1) := by decide +kernel
theorem dX11_best_39 : decode cX11_best 39 = .ok (.if_icmp .ne 10, 3) := by decide +kernel
theorem dX11_best_42 : decode cX11_best 42 = .ok (.aload_n 0, 1) := by decide +kernel
theorem dX11_best_43 : decode cX11_best 43 = .ok (.getfield 395, 3) := by decide +kernel
theorem dX11_best_46 : decode cX11_best 46 = .ok (.goto 7, 3) := by decide +kernel
theorem dX11_best_49 : decode cX11_best 49 = .ok (.aload_n 0, 1) := by decide +kernel
theorem dX11_best_50 : decode cX11_best 50 = .ok (.getfield 398, 3) := by decide +kernel
theorem dX11_best_53 : decode cX11_best 53 = .ok (.ireturn, 1) := by decide +kernel
theorem dX11_latrine_0 : decode cX11_latrine 0 = .ok (.iload_n 1, 1) := by decide +kernel
theorem dX11_latrine_1 : decode cX11_latrine 1 = .ok (.invokestatic 211, 3) := by decide +kernel
theorem dX11_latrine_4 : decode cX11_latrine 4 = .ok (.ifCond .ne 9, 3) := by decide +kernel
theorem dX11_latrine_7 : decode cX11_latrine 7 = .ok (.aload_n 0, 1) := by decide +kernel
theorem dX11_latrine_8 : decode cX11_latrine 8 = .ok (.iconst (-1), 1) := by decide +kernel
theorem dX11_latrine_9 : decode cX11_latrine 9 = .ok (.invokevirtual 207, 3) := by decide +kernel
theorem dX11_latrine_12 : decode cX11_latrine 12 = .ok (.ireturn, 1) := by decide +kernel
theorem dX11_latrine_13 : decode cX11_latrine 13 = .ok (.iload_n 2, 1) := by decide +kernel
theorem dX11_latrine_14 : decode cX11_latrine 14 = .ok (.i2l, 1) := by decide +kernel
theorem dX11_latrine_15 : decode cX11_latrine 15 = .ok (.lconst 1, 1) := by decide +kernel
theorem dX11_latrine_16 : decode cX11_latrine 16 = .ok (.ldc2_w 407, 3) := by decide +kernel
theorem dX11_latrine_19 : decode cX11_latrine 19 = .ok (.invokestatic 203, 3) := by decide +kernel
theorem dX11_latrine_22 : decode cX11_latrine 22 = .ok (.istore_n 3, 1) := by decide +kernel
theorem dX11_latrine_23 : decode cX11_latrine 23 = .ok (.iload_n 3, 1) := by decide +kernel
theorem dX11_latrine_24 : decode cX11_latrine 24 = .ok (.ifCond .ne 15, 3) := by decide +kernel
theorem dX11_latrine_27 : decode cX11_latrine 27 = .ok (.aload_n 0, 1) := by decide +kernel
theorem dX11_latrine_28 : decode cX11_latrine 28 = .ok (.getfield 409, 3) := by decide +kernel
theorem dX11_latrine_31 : decode cX11_latrine 31 = .ok (.bipush 14, 2) := by decide +kernel
theorem dX11_latrine_33 : decode cX11_latrine 33 = .ok (.if_icmp .ne 6, 3) := by decide +kernel
theorem dX11_latrine_36 : decode cX11_latrine 36 = .ok (.bipush (-6), 2) := by decide +kernel
theorem dX11_latrine_38 : decode cX11_latrine 38 = .ok (.istore_n 3, 1) := by decide +kernel
theorem dX11_latrine_39 : decode cX11_latrine 39 = .ok (.iload_n 3, 1) := by decide +kernel
theorem dX11_latrine_40 : decode cX11_latrine 40 = .ok (.ifCond .eq 9, 3) := by decide +kernel
theorem dX11_latrine_43 : decode cX11_latrine 43 = .ok (.aload_n 0, 1) := by decide +kernel
theorem dX11_latrine_44 : decode cX11_latrine 44 = .ok (.iload_n 3, 1) := by decide +kernel
theorem dX11_latrine_45 : decode cX11_latrine 45 = .ok (.invokevirtual 207, 3) := by decide +kernel
theorem dX11_latrine_48 : decode cX11_latrine 48 = .ok (.ireturn, 1) := by decide +kernel
theorem dX11_latrine_49 : decode cX11_latrine 49 = .ok (.aload_n 0, 1) := by decide +kernel
theorem dX11_latrine_50 : decode cX11_latrine 50 = .ok (.getfield 129, 3) := by decide +kernel
theorem dX11_latrine_53 : decode cX11_latrine 53 = .ok (.aload_n 0, 1) := by decide +kernel
theorem dX11_latrine_54 : decode cX11_latrine 54 = .ok (.getfield 409, 3) := by decide +kernel
theorem dX11_latrine_57 : decode cX11_latrine 57 = .ok (.iload_n 1, 1) := by decide +kernel
theorem dX11_latrine_58 : decode cX11_latrine 58 = .ok (.iastore, 1) := by decide +kernel
theorem dX11_latrine_59 : decode cX11_latrine 59 = .ok (.aload_n 0, 1) := by decide +kernel
theorem dX11_latrine_60 : decode cX11_latrine 60 = .ok (.getfield 132, 3) := by decide +kernel
theorem dX11_latrine_63 : decode cX11_latrine 63 = .ok (.aload_n 0, 1) := by decide +kernel
theorem dX11_latrine_64 : decode cX11_latrine 64 = .ok (.getfield 409, 3) := by decide +kernel
theorem dX11_latrine_67 : decode cX11_latrine 67 = .ok (.iload_n 2, 1) := by decide +kernel
theorem dX11_latrine_68 : decode cX11_latrine 68 = .ok (.iastore, 1) := by decide +kernel
theorem dX11_latrine_69 : decode cX11_latrine 69 = .ok (.aload_n 0, 1) := by decide +kernel
theorem dX11_latrine_70 : decode cX11_latrine 70 = .ok (.dup, 1) := by decide +kernel
theorem dX11_latrine_71 : decode cX11_latrine 71 = .ok (.getfield 409, 3) := by decide +kernel
theorem dX11_latrine_74 : decode cX11_latrine 74 = .ok (.iconst 1, 1) := by decide +kernel
theorem dX11_latrine_75 : decode cX11_latrine 75 = .ok (.iadd, 1) := by decide +kernel
theorem dX11_latrine_76 : decode cX11_latrine 76 = .ok (.putfield 409, 3) := by decide +kernel
theorem dX11_latrine_79 : decode cX11_latrine 79 = .ok (.aload_n 0, 1) := by decide +kernel
theorem dX11_latrine_80 : decode cX11_latrine 80 = .ok (.getfield 409, 3) := by decide +kernel
theorem dX11_latrine_83 : decode cX11_latrine 83 = .ok (.iconst 1, 1) := by decide +kernel
theorem dX11_latrine_84 : decode cX11_latrine 84 = .ok (.isub, 1) := by decide +kernel
theorem dX11_latrine_85 : decode cX11_latrine 85 = .ok (.ireturn, 1) := by decide +kernel
theorem dX11_drain_0 : decode cX11_drain 0 = .ok (.iload_n 1, 1) := by decide +kernel
theorem dX11_drain_1 : decode cX11_drain 1 = .ok (.invokestatic 211, 3) := by decide +kernel
theorem dX11_drain_4 : decode cX11_drain 4 = .ok (.ifCond .ne 9, 3) := by decide +kernel
theorem dX11_drain_7 : decode cX11_drain 7 = .ok (.aload_n 0, 1) := by decide +kernel
theorem dX11_drain_8 : decode cX11_drain 8 = .ok (.iconst (-1), 1) := by decide +kernel
theorem dX11_drain_9 : decode cX11_drain 9 = .ok (.invokevirtual 207, 3) := by decide +kernel
theorem dX11_drain_12 : decode cX11_drain 12 = .ok (.ireturn, 1) := by decide +kernel
theorem dX11_drain_13 : decode cX11_drain 13 = .ok (.iconst 0, 1) := by decide +kernel
theorem dX11_drain_14 : decode cX11_drain 14 = .ok (.istore_n 2, 1) := by decide +kernel
theorem dX11_drain_15 : decode cX11_drain 15 = .ok (.iload_n 2, 1) := by decide +kernel
theorem dX11_drain_16 : decode cX11_drain 16 = .ok (.aload_n 0, 1) := by decide +kernel
theorem dX11_drain_17 : decode cX11_drain 17 = .ok (.getfield 412, 3) := by decide +kernel
theorem dX11_drain_20 : decode cX11_drain 20 = .ok (.if_icmp .ge 26, 3) := by decide +kernel
theorem dX11_drain_23 : decode cX11_drain 23 = .ok (.aload_n 0, 1) := by decide +kernel
theorem dX11_drain_24 : decode cX11_drain 24 = .ok (.getfield 135, 3) := by decide +kernel
theorem dX11_drain_27 : decode cX11_drain 27 = .ok (.iload_n 2, 1) := by decide +kernel
theorem dX11_drain_28 : decode cX11_drain 28 = .ok (.iaload, 1) := by decide +kernel
theorem dX11_drain_29 : decode cX11_drain 29 = .ok (.iload_n 1, 1) := by decide +kernel
theorem dX11_drain_30 : decode cX11_drain 30 = .ok (.if_icmp .ne 10, 3) := by decide +kernel
theorem dX11_drain_33 : decode cX11_drain 33 = .ok (.aload_n 0, 1) := by decide +kernel
theorem dX11_drain_34 : decode cX11_drain 34 = .ok (.bipush (-3), 2) := by decide +kernel
theorem dX11_drain_36 : decode cX11_drain 36 = .ok (.invokevirtual 207, 3) := by decide +kernel
theorem dX11_drain_39 : decode cX11_drain 39 = .ok (.ireturn, 1) := by decide +kernel
theorem dX11_drain_40 : decode cX11_drain 40 = .ok (.iinc 2 1, 3) := by decide +kernel
theorem dX11_drain_43 : decode cX11_drain 43 = .ok (.goto (-28), 3) := by decide +kernel
theorem dX11_drain_46 : decode cX11_drain 46 = .ok (.aload_n 0, 1) := by decide +kernel
theorem dX11_drain_47 : decode cX11_drain 47 = .ok (.getfield 412, 3) := by decide +kernel
theorem dX11_drain_50 : decode cX11_drain 50 = .ok (.bipush 10, 2) := by decide +kernel
theorem dX11_drain_52 : decode cX11_drain 52 = .ok (.if_icmp .ne 10, 3) := by decide +kernel
theorem dX11_drain_55 : decode cX11_drain 55 = .ok (.aload_n 0, 1) := by decide +kernel
theorem dX11_drain_56 : decode cX11_drain 56 = .ok (.bipush (-6), 2) := by decide +kernel
theorem dX11_drain_58 : decode cX11_drain 58 = .ok (.invokevirtual 207, 3) := by decide +kernel
theorem dX11_drain_61 : decode cX11_drain 61 = .ok (.ireturn, 1) := by decide +kernel
theorem dX11_drain_62 : decode cX11_drain 62 = .ok (.aload_n 0, 1) := by decide +kernel
theorem dX11_drain_63 : decode cX11_drain 63 = .ok (.getfield 135, 3) := by decide +kernel
theorem dX11_drain_66 : decode cX11_drain 66 = .ok (.aload_n 0, 1) := by decide +kernel
theorem dX11_drain_67 : decode cX11_drain 67 = .ok (.getfield 412, 3) := by decide +kernel
theorem dX11_drain_70 : decode cX11_drain 70 = .ok (.iload_n 1, 1) := by decide +kernel
theorem dX11_drain_71 : decode cX11_drain 71 = .ok (.iastore, 1) := by decide +kernel
theorem dX11_drain_72 : decode cX11_drain 72 = .ok (.aload_n 0, 1) := by decide +kernel
theorem dX11_drain_73 : decode cX11_drain 73 = .ok (.dup, 1) := by decide +kernel
theorem dX11_drain_74 : decode cX11_drain 74 = .ok (.getfield 412, 3) := by decide +kernel
theorem dX11_drain_77 : decode cX11_drain 77 = .ok (.iconst 1, 1) := by decide +kernel
theorem dX11_drain_78 : decode cX11_drain 78 = .ok (.iadd, 1) := by decide +kernel
theorem dX11_drain_79 : decode cX11_drain 79 = .ok (.putfield 412, 3) := by decide +kernel
theorem dX11_drain_82 : decode cX11_drain 82 = .ok (.aload_n 0, 1) := by decide +kernel
theorem dX11_drain_83 : decode cX11_drain 83 = .ok (.getfield 412, 3) := by decide +kernel
theorem dX11_drain_86 : decode cX11_drain 86 = .ok (.iconst 1, 1) := by decide +kernel
theorem dX11_drain_87 : decode cX11_drain 87 = .ok (.isub, 1) := by decide +kernel
theorem dX11_drain_88 : decode cX11_drain 88 = .ok (.ireturn, 1) := by decide +kernel
theorem dX11_findDown_0 : decode cX11_findDown 0 = .ok (.iconst 0, 1) := by decide +kernel
theorem dX11_findDown_1 : decode cX11_findDown 1 = .ok (.istore_n 1, 1) := by decide +kernel
theorem dX11_findDown_2 : decode cX11_findDown 2 = .ok (.iconst 0, 1) := by decide +kernel
theorem dX11_findDown_3 : decode cX11_findDown 3 = .ok (.istore_n 2, 1) := by decide +kernel
theorem dX11_findDown_4 : decode cX11_findDown 4 = .ok (.iload_n 2, 1) := by decide +kernel
theorem dX11_findDown_5 : decode cX11_findDown 5 = .ok (.sipush 144, 3) := by decide +kernel
theorem dX11_findDown_8 : decode cX11_findDown 8 = .ok (.if_icmp .ge 78, 3) := by decide +kernel
theorem dX11_findDown_11 : decode cX11_findDown 11 = .ok (.aload_n 0, 1) := by decide +kernel
theorem dX11_findDown_12 : decode cX11_findDown 12 = .ok (.getfield 141, 3) := by decide +kernel
theorem dX11_findDown_15 : decode cX11_findDown 15 = .ok (.iload_n 2, 1) := by decide +kernel
theorem dX11_findDown_16 : decode cX11_findDown 16 = .ok (.aload_n 0, 1) := by decide +kernel
theorem dX11_findDown_17 : decode cX11_findDown 17 = .ok (.iload_n 2, 1) := by decide +kernel
theorem dX11_findDown_18 : decode cX11_findDown 18 = .ok (.invokevirtual 221, 3) := by decide +kernel
theorem dX11_findDown_21 : decode cX11_findDown 21 = .ok (.iastore, 1) := by decide +kernel
theorem dX11_findDown_22 : decode cX11_findDown 22 = .ok (.iload_n 1, 1) := by decide +kernel
theorem dX11_findDown_23 : decode cX11_findDown 23 = .ok (.istore_n 3, 1) := by decide +kernel
theorem dX11_findDown_24 : decode cX11_findDown 24 = .ok (.iload_n 3, 1) := by decide +kernel
theorem dX11_findDown_25 : decode cX11_findDown 25 = .ok (.ifCond .le 45, 3) := by decide +kernel
theorem dX11_findDown_28 : decode cX11_findDown 28 = .ok (.aload_n 0, 1) := by decide +kernel
theorem dX11_findDown_29 : decode cX11_findDown 29 = .ok (.getfield 13, 3) := by decide +kernel
theorem dX11_findDown_32 : decode cX11_findDown 32 = .ok (.aload_n 0, 1) := by decide +kernel
theorem dX11_findDown_33 : decode cX11_findDown 33 = .ok (.getfield 150, 3) := by decide +kernel
theorem dX11_findDown_36 : decode cX11_findDown 36 = .ok (.iload_n 3, 1) := by decide +kernel
theorem dX11_findDown_37 : decode cX11_findDown 37 = .ok (.iconst 1, 1) := by decide +kernel
theorem dX11_findDown_38 : decode cX11_findDown 38 = .ok (.isub, 1) := by decide +kernel
theorem dX11_findDown_39 : decode cX11_findDown 39 = .ok (.iaload, 1) := by decide +kernel
theorem dX11_findDown_40 : decode cX11_findDown 40 = .ok (.iaload, 1) := by decide +kernel
theorem dX11_findDown_41 : decode cX11_findDown 41 = .ok (.aload_n 0, 1) := by decide +kernel
theorem dX11_findDown_42 : decode cX11_findDown 42 = .ok (.getfield 13, 3) := by decide +kernel
theorem dX11_findDown_45 : decode cX11_findDown 45 = .ok (.iload_n 2, 1) := by decide +kernel
theorem dX11_findDown_46 : decode cX11_findDown 46 = .ok (.iaload, 1) := by decide +kernel
theorem dX11_findDown_47 : decode cX11_findDown 47 = .ok (.if_icmp .ge 23, 3) := by decide +kernel
theorem dX11_findDown_50 : decode cX11_findDown 50 = .ok (.aload_n 0, 1) := by decide +kernel
theorem dX11_findDown_51 : decode cX11_findDown 51 = .ok (.getfield 150, 3) := by decide +kernel
theorem dX11_findDown_54 : decode cX11_findDown 54 = .ok (.iload_n 3, 1) := by decide +kernel
theorem dX11_findDown_55 : decode cX11_findDown 55 = .ok (.aload_n 0, 1) := by decide +kernel
theorem dX11_findDown_56 : decode cX11_findDown 56 = .ok (.getfield 150, 3) := by decide +kernel
theorem dX11_findDown_59 : decode cX11_findDown 59 = .ok (.iload_n 3, 1) := by decide +kernel
theorem dX11_findDown_60 : decode cX11_findDown 60 = .ok (.iconst 1, 1) := by decide +kernel
theorem dX11_findDown_61 : decode cX11_findDown 61 = .ok (.isub, 1) := by decide +kernel
theorem dX11_findDown_62 : decode cX11_findDown 62 = .ok (.iaload, 1) := by decide +kernel
theorem dX11_findDown_63 : decode cX11_findDown 63 = .ok (.iastore, 1) := by decide +kernel
theorem dX11_findDown_64 : decode cX11_findDown 64 = .ok (.iinc 3 (-1), 3) := by decide +kernel
theorem dX11_findDown_67 : decode cX11_findDown 67 = .ok (.goto (-43), 3) := by decide +kernel
theorem dX11_findDown_70 : decode cX11_findDown 70 = .ok (.aload_n 0, 1) := by decide +kernel
theorem dX11_findDown_71 : decode cX11_findDown 71 = .ok (.getfield 150, 3) := by decide +kernel
theorem dX11_findDown_74 : decode cX11_findDown 74 = .ok (.iload_n 3, 1) := by decide +kernel
theorem dX11_findDown_75 : decode cX11_findDown 75 = .ok (.iload_n 2, 1) := by decide +kernel
theorem dX11_findDown_76 : decode cX11_findDown 76 = .ok (.iastore, 1) := by decide +kernel
theorem dX11_findDown_77 : decode cX11_findDown 77 = .ok (.iinc 1 1, 3) := by decide +kernel
theorem dX11_findDown_80 : decode cX11_findDown 80 = .ok (.iinc 2 1, 3) := by decide +kernel
theorem dX11_findDown_83 : decode cX11_findDown 83 = .ok (.goto (-79), 3) := by decide +kernel
theorem dX11_findDown_86 : decode cX11_findDown 86 = .ok (.return_, 1) := by decide +kernel
theorem dX11_rains_0 : decode cX11_rains 0 = .ok (.iconst 0, 1) := by decide +kernel
theorem dX11_rains_1 : decode cX11_rains 1 = .ok (.istore_n 3, 1) := by decide +kernel
theorem dX11_rains_2 : decode cX11_rains 2 = .ok (.iload_n 3, 1) := by decide +kernel
theorem dX11_rains_3 : decode cX11_rains 3 = .ok (.sipush 144, 3) := by decide +kernel
theorem dX11_rains_6 : decode cX11_rains 6 = .ok (.if_icmp .ge 23, 3) := by decide +kernel
theorem dX11_rains_9 : decode cX11_rains 9 = .ok (.aload_n 0, 1) := by decide +kernel
theorem dX11_rains_10 : decode cX11_rains 10 = .ok (.getfield 144, 3) := by decide +kernel
theorem dX11_rains_13 : decode cX11_rains 13 = .ok (.iload_n 3, 1) := by decide +kernel
theorem dX11_rains_14 : decode cX11_rains 14 = .ok (.iconst 0, 1) := by decide +kernel
theorem dX11_rains_15 : decode cX11_rains 15 = .ok (.bastore, 1) := by decide +kernel
theorem dX11_rains_16 : decode cX11_rains 16 = .ok (.aload_n 0, 1) := by decide +kernel
theorem dX11_rains_17 : decode cX11_rains 17 = .ok (.getfield 138, 3) := by decide +kernel
theorem dX11_rains_20 : decode cX11_rains 20 = .ok (.iload_n 3, 1) := by decide +kernel
theorem dX11_rains_21 : decode cX11_rains 21 = .ok (.iload_n 1, 1) := by decide +kernel
theorem dX11_rains_22 : decode cX11_rains 22 = .ok (.iastore, 1) := by decide +kernel
theorem dX11_rains_23 : decode cX11_rains 23 = .ok (.iinc 3 1, 3) := by decide +kernel
theorem dX11_rains_26 : decode cX11_rains 26 = .ok (.goto (-24), 3) := by decide +kernel
theorem dX11_rains_29 : decode cX11_rains 29 = .ok (.iconst 0, 1) := by decide +kernel
theorem dX11_rains_30 : decode cX11_rains 30 = .ok (.istore_n 3, 1) := by decide +kernel
theorem dX11_rains_31 : decode cX11_rains 31 = .ok (.iload_n 3, 1) := by decide +kernel
theorem dX11_rains_32 : decode cX11_rains 32 = .ok (.aload_n 0, 1) := by decide +kernel
theorem dX11_rains_33 : decode cX11_rains 33 = .ok (.getfield 412, 3) := by decide +kernel
theorem dX11_rains_36 : decode cX11_rains 36 = .ok (.if_icmp .ge 48, 3) := by decide +kernel
theorem dX11_rains_39 : decode cX11_rains 39 = .ok (.aload_n 0, 1) := by decide +kernel
theorem dX11_rains_40 : decode cX11_rains 40 = .ok (.getfield 144, 3) := by decide +kernel
theorem dX11_rains_43 : decode cX11_rains 43 = .ok (.aload_n 0, 1) := by decide +kernel
theorem dX11_rains_44 : decode cX11_rains 44 = .ok (.getfield 135, 3) := by decide +kernel
theorem dX11_rains_47 : decode cX11_rains 47 = .ok (.iload_n 3, 1) := by decide +kernel
theorem dX11_rains_48 : decode cX11_rains 48 = .ok (.iaload, 1) := by decide +kernel
theorem dX11_rains_49 : decode cX11_rains 49 = .ok (.aload_n 0, 1) := by decide +kernel
theorem dX11_rains_50 : decode cX11_rains 50 = .ok (.getfield 144, 3) := by decide +kernel
theorem dX11_rains_53 : decode cX11_rains 53 = .ok (.aload_n 0, 1) := by decide +kernel
theorem dX11_rains_54 : decode cX11_rains 54 = .ok (.getfield 135, 3) := by decide +kernel
theorem dX11_rains_57 : decode cX11_rains 57 = .ok (.iload_n 3, 1) := by decide +kernel
theorem dX11_rains_58 : decode cX11_rains 58 = .ok (.iaload, 1) := by decide +kernel
theorem dX11_rains_59 : decode cX11_rains 59 = .ok (.baload, 1) := by decide +kernel
theorem dX11_rains_60 : decode cX11_rains 60 = .ok (.ifCond .ne 12, 3) := by decide +kernel
theorem dX11_rains_63 : decode cX11_rains 63 = .ok (.iload_n 2, 1) := by decide +kernel
theorem dX11_rains_64 : decode cX11_rains 64 = .ok (.iload_n 3, 1) := by decide +kernel
theorem dX11_rains_65 : decode cX11_rains 65 = .ok (.ishr, 1) := by decide +kernel
theorem dX11_rains_66 : decode cX11_rains 66 = .ok (.iconst 1, 1) := by decide +kernel
theorem dX11_rains_67 : decode cX11_rains 67 = .ok (.iand, 1) := by decide +kernel
theorem dX11_rains_68 : decode cX11_rains 68 = .ok (.iconst 1, 1) := by decide +kernel
theorem dX11_rains_69 : decode cX11_rains 69 = .ok (.if_icmp .ne 7, 3) := by decide +kernel
theorem dX11_rains_72 : decode cX11_rains 72 = .ok (.iconst 1, 1) := by decide +kernel
theorem dX11_rains_73 : decode cX11_rains 73 = .ok (.goto 4, 3) := by decide +kernel
theorem dX11_rains_76 : decode cX11_rains 76 = .ok (.iconst 0, 1) := by decide +kernel
theorem dX11_rains_77 : decode cX11_rains 77 = .ok (.bastore, 1) := by decide +kernel
theorem dX11_rains_78 : decode cX11_rains 78 = .ok (.iinc 3 1, 3) := by decide +kernel
theorem dX11_rains_81 : decode cX11_rains 81 = .ok (.goto (-50), 3) := by decide +kernel
theorem dX11_rains_84 : decode cX11_rains 84 = .ok (.iconst 0, 1) := by decide +kernel
theorem dX11_rains_85 : decode cX11_rains 85 = .ok (.istore_n 3, 1) := by decide +kernel
theorem dX11_rains_86 : decode cX11_rains 86 = .ok (.iload_n 3, 1) := by decide +kernel
theorem dX11_rains_87 : decode cX11_rains 87 = .ok (.sipush 144, 3) := by decide +kernel
theorem dX11_rains_90 : decode cX11_rains 90 = .ok (.if_icmp .ge 59, 3) := by decide +kernel
theorem dX11_rains_93 : decode cX11_rains 93 = .ok (.aload_n 0, 1) := by decide +kernel
theorem dX11_rains_94 : decode cX11_rains 94 = .ok (.getfield 150, 3) := by decide +kernel
theorem dX11_rains_97 : decode cX11_rains 97 = .ok (.iload_n 3, 1) := by decide +kernel
theorem dX11_rains_98 : decode cX11_rains 98 = .ok (.iaload, 1) := by decide +kernel
theorem dX11_rains_99 : decode cX11_rains 99 = .ok (.istore 4, 2) := by decide +kernel
theorem dX11_rains_101 : decode cX11_rains 101 = .ok (.aload_n 0, 1) := by decide +kernel
theorem dX11_rains_102 : decode cX11_rains 102 = .ok (.getfield 141, 3) := by decide +kernel
theorem dX11_rains_105 : decode cX11_rains 105 = .ok (.iload 4, 2) := by decide +kernel
theorem dX11_rains_107 : decode cX11_rains 107 = .ok (.iaload, 1) := by decide +kernel
theorem dX11_rains_108 : decode cX11_rains 108 = .ok (.ifCond .lt 35, 3) := by decide +kernel
theorem dX11_rains_111 : decode cX11_rains 111 = .ok (.aload_n 0, 1) := by decide +kernel
theorem dX11_rains_112 : decode cX11_rains 112 = .ok (.getfield 144, 3) := by decide +kernel
theorem dX11_rains_115 : decode cX11_rains 115 = .ok (.iload 4, 2) := by decide +kernel
theorem dX11_rains_117 : decode cX11_rains 117 = .ok (.baload, 1) := by decide +kernel
theorem dX11_rains_118 : decode cX11_rains 118 = .ok (.ifCond .ne 25, 3) := by decide +kernel
theorem dX11_rains_121 : decode cX11_rains 121 = .ok (.aload_n 0, 1) := by decide +kernel
theorem dX11_rains_122 : decode cX11_rains 122 = .ok (.getfield 138, 3) := by decide +kernel
theorem dX11_rains_125 : decode cX11_rains 125 = .ok (.aload_n 0, 1) := by decide +kernel
theorem dX11_rains_126 : decode cX11_rains 126 = .ok (.getfield 141, 3) := by decide +kernel
theorem dX11_rains_129 : decode cX11_rains 129 = .ok (.iload 4, 2) := by decide +kernel
theorem dX11_rains_131 : decode cX11_rains 131 = .ok (.iaload, 1) := by decide +kernel
theorem dX11_rains_132 : decode cX11_rains 132 = .ok (.dup2, 1) := by decide +kernel
theorem dX11_rains_133 : decode cX11_rains 133 = .ok (.iaload, 1) := by decide +kernel
theorem dX11_rains_134 : decode cX11_rains 134 = .ok (.aload_n 0, 1) := by decide +kernel
theorem dX11_rains_135 : decode cX11_rains 135 = .ok (.getfield 138, 3) := by decide +kernel
theorem dX11_rains_138 : decode cX11_rains 138 = .ok (.iload 4, 2) := by decide +kernel
theorem dX11_rains_140 : decode cX11_rains 140 = .ok (.iaload, 1) := by decide +kernel
theorem dX11_rains_141 : decode cX11_rains 141 = .ok (.iadd, 1) := by decide +kernel
theorem dX11_rains_142 : decode cX11_rains 142 = .ok (.iastore, 1) := by decide +kernel
theorem dX11_rains_143 : decode cX11_rains 143 = .ok (.iinc 3 1, 3) := by decide +kernel
theorem dX11_rains_146 : decode cX11_rains 146 = .ok (.goto (-60), 3) := by decide +kernel
theorem dX11_rains_149 : decode cX11_rains 149 = .ok (.return_, 1) := by decide +kernel
theorem dX11_flow_0 : decode cX11_flow 0 = .ok (.iload_n 1, 1) := by decide +kernel
theorem dX11_flow_1 : decode cX11_flow 1 = .ok (.invokestatic 211, 3) := by decide +kernel
theorem dX11_flow_4 : decode cX11_flow 4 = .ok (.ifCond .ne 9, 3) := by decide +kernel
theorem dX11_flow_7 : decode cX11_flow 7 = .ok (.aload_n 0, 1) := by decide +kernel
theorem dX11_flow_8 : decode cX11_flow 8 = .ok (.iconst (-1), 1) := by decide +kernel
theorem dX11_flow_9 : decode cX11_flow 9 = .ok (.invokevirtual 207, 3) := by decide +kernel
theorem dX11_flow_12 : decode cX11_flow 12 = .ok (.ireturn, 1) := by decide +kernel
theorem dX11_flow_13 : decode cX11_flow 13 = .ok (.iload_n 2, 1) := by decide +kernel
theorem dX11_flow_14 : decode cX11_flow 14 = .ok (.i2l, 1) := by decide +kernel
theorem dX11_flow_15 : decode cX11_flow 15 = .ok (.lconst 1, 1) := by decide +kernel
theorem dX11_flow_16 : decode cX11_flow 16 = .ok (.ldc2_w 256, 3) := by decide +kernel
theorem dX11_flow_19 : decode cX11_flow 19 = .ok (.invokestatic 203, 3) := by decide +kernel
theorem dX11_flow_22 : decode cX11_flow 22 = .ok (.istore_n 3, 1) := by decide +kernel
theorem dX11_flow_23 : decode cX11_flow 23 = .ok (.iload_n 3, 1) := by decide +kernel
theorem dX11_flow_24 : decode cX11_flow 24 = .ok (.ifCond .eq 9, 3) := by decide +kernel
theorem dX11_flow_27 : decode cX11_flow 27 = .ok (.aload_n 0, 1) := by decide +kernel
theorem dX11_flow_28 : decode cX11_flow 28 = .ok (.iload_n 3, 1) := by decide +kernel
theorem dX11_flow_29 : decode cX11_flow 29 = .ok (.invokevirtual 207, 3) := by decide +kernel
theorem dX11_flow_32 : decode cX11_flow 32 = .ok (.ireturn, 1) := by decide +kernel
theorem dX11_flow_33 : decode cX11_flow 33 = .ok (.aload_n 0, 1) := by decide +kernel
theorem dX11_flow_34 : decode cX11_flow 34 = .ok (.invokevirtual 415, 3) := by decide +kernel
theorem dX11_flow_37 : decode cX11_flow 37 = .ok (.aload_n 0, 1) := by decide +kernel
theorem dX11_flow_38 : decode cX11_flow 38 = .ok (.iload_n 2, 1) := by decide +kernel
theorem dX11_flow_39 : decode cX11_flow 39 = .ok (.iconst 0, 1) := by decide +kernel
theorem dX11_flow_40 : decode cX11_flow 40 = .ok (.invokevirtual 418, 3) := by decide +kernel
theorem dX11_flow_43 : decode cX11_flow 43 = .ok (.aload_n 0, 1) := by decide +kernel
theorem dX11_flow_44 : decode cX11_flow 44 = .ok (.getfield 138, 3) := by decide +kernel
theorem dX11_flow_47 : decode cX11_flow 47 = .ok (.iload_n 1, 1) := by decide +kernel
theorem dX11_flow_48 : decode cX11_flow 48 = .ok (.iaload, 1) := by decide +kernel
theorem dX11_flow_49 : decode cX11_flow 49 = .ok (.ireturn, 1) := by decide +kernel
theorem dX11_foulWells_0 : decode cX11_foulWells 0 = .ok (.aload_n 0, 1) := by decide +kernel
theorem dX11_foulWells_1 : decode cX11_foulWells 1 = .ok (.iload_n 1, 1) := by decide +kernel
theorem dX11_foulWells_2 : decode cX11_foulWells 2 = .ok (.iload_n 2, 1) := by decide +kernel
theorem dX11_foulWells_3 : decode cX11_foulWells 3 = .ok (.invokevirtual 418, 3) := by decide +kernel
theorem dX11_foulWells_6 : decode cX11_foulWells 6 = .ok (.iconst 0, 1) := by decide +kernel
theorem dX11_foulWells_7 : decode cX11_foulWells 7 = .ok (.istore_n 3, 1) := by decide +kernel
theorem dX11_foulWells_8 : decode cX11_foulWells 8 = .ok (.iload_n 3, 1) := by decide +kernel
theorem dX11_foulWells_9 : decode cX11_foulWells 9 = .ok (.sipush 144, 3) := by decide +kernel
theorem dX11_foulWells_12 : decode cX11_foulWells 12 = .ok (.if_icmp .ge 16, 3) := by decide +kernel
theorem dX11_foulWells_15 : decode cX11_foulWells 15 = .ok (.aload_n 0, 1) := by decide +kernel
theorem dX11_foulWells_16 : decode cX11_foulWells 16 = .ok (.getfield 147, 3) := by decide +kernel
theorem dX11_foulWells_19 : decode cX11_foulWells 19 = .ok (.iload_n 3, 1) := by decide +kernel
theorem dX11_foulWells_20 : decode cX11_foulWells 20 = .ok (.iconst 0, 1) := by decide +kernel
theorem dX11_foulWells_21 : decode cX11_foulWells 21 = .ok (.bastore, 1) := by decide +kernel
theorem dX11_foulWells_22 : decode cX11_foulWells 22 = .ok (.iinc 3 1, 3) := by decide +kernel
theorem dX11_foulWells_25 : decode cX11_foulWells 25 = .ok (.goto (-17), 3) := by decide +kernel
theorem dX11_foulWells_28 : decode cX11_foulWells 28 = .ok (.iconst 0, 1) := by decide +kernel
theorem dX11_foulWells_29 : decode cX11_foulWells 29 = .ok (.istore_n 3, 1) := by decide +kernel
theorem dX11_foulWells_30 : decode cX11_foulWells 30 = .ok (.iload_n 3, 1) := by decide +kernel
theorem dX11_foulWells_31 : decode cX11_foulWells 31 = .ok (.aload_n 0, 1) := by decide +kernel
theorem dX11_foulWells_32 : decode cX11_foulWells 32 = .ok (.getfield 409, 3) := by decide +kernel
theorem dX11_foulWells_35 : decode cX11_foulWells 35 = .ok (.if_icmp .ge 86, 3) := by decide +kernel
theorem dX11_foulWells_38 : decode cX11_foulWells 38 = .ok (.aload_n 0, 1) := by decide +kernel
theorem dX11_foulWells_39 : decode cX11_foulWells 39 = .ok (.getfield 129, 3) := by decide +kernel
theorem dX11_foulWells_42 : decode cX11_foulWells 42 = .ok (.iload_n 3, 1) := by decide +kernel
theorem dX11_foulWells_43 : decode cX11_foulWells 43 = .ok (.iaload, 1) := by decide +kernel
theorem dX11_foulWells_44 : decode cX11_foulWells 44 = .ok (.istore 4, 2) := by decide +kernel
theorem dX11_foulWells_46 : decode cX11_foulWells 46 = .ok (.aload_n 0, 1) := by decide +kernel
theorem dX11_foulWells_47 : decode cX11_foulWells 47 = .ok (.getfield 144, 3) := by decide +kernel
theorem dX11_foulWells_50 : decode cX11_foulWells 50 = .ok (.iload 4, 2) := by decide +kernel
theorem dX11_foulWells_52 : decode cX11_foulWells 52 = .ok (.baload, 1) := by decide +kernel
theorem dX11_foulWells_53 : decode cX11_foulWells 53 = .ok (.ifCond .ne 62, 3) := by decide +kernel
theorem dX11_foulWells_56 : decode cX11_foulWells 56 = .ok (.aload_n 0, 1) := by decide +kernel
theorem dX11_foulWells_57 : decode cX11_foulWells 57 = .ok (.getfield 138, 3) := by decide +kernel
theorem dX11_foulWells_60 : decode cX11_foulWells 60 = .ok (.iload 4, 2) := by decide +kernel
theorem dX11_foulWells_62 : decode cX11_foulWells 62 = .ok (.iaload, 1) := by decide +kernel
theorem dX11_foulWells_63 : decode cX11_foulWells 63 = .ok (.aload_n 0, 1) := by decide +kernel
theorem dX11_foulWells_64 : decode cX11_foulWells 64 = .ok (.getfield 132, 3) := by decide +kernel
theorem dX11_foulWells_67 : decode cX11_foulWells 67 = .ok (.iload_n 3, 1) := by decide +kernel
theorem dX11_foulWells_68 : decode cX11_foulWells 68 = .ok (.iaload, 1) := by decide +kernel
theorem dX11_foulWells_69 : decode cX11_foulWells 69 = .ok (.if_icmp .ge 6, 3) := by decide +kernel
theorem dX11_foulWells_72 : decode cX11_foulWells 72 = .ok (.goto 43, 3) := by decide +kernel
theorem dX11_foulWells_75 : decode cX11_foulWells 75 = .ok (.iload 4, 2) := by decide +kernel
theorem dX11_foulWells_77 : decode cX11_foulWells 77 = .ok (.ifCond .lt 38, 3) := by decide +kernel
theorem dX11_foulWells_80 : decode cX11_foulWells 80 = .ok (.aload_n 0, 1) := by decide +kernel
theorem dX11_foulWells_81 : decode cX11_foulWells 81 = .ok (.getfield 147, 3) := by decide +kernel
theorem dX11_foulWells_84 : decode cX11_foulWells 84 = .ok (.iload 4, 2) := by decide +kernel
theorem dX11_foulWells_86 : decode cX11_foulWells 86 = .ok (.iconst 1, 1) := by decide +kernel
theorem dX11_foulWells_87 : decode cX11_foulWells 87 = .ok (.bastore, 1) := by decide +kernel
theorem dX11_foulWells_88 : decode cX11_foulWells 88 = .ok (.aload_n 0, 1) := by decide +kernel
theorem dX11_foulWells_89 : decode cX11_foulWells 89 = .ok (.getfield 144, 3) := by decide +kernel
theorem dX11_foulWells_92 : decode cX11_foulWells 92 = .ok (.iload 4, 2) := by decide +kernel
theorem dX11_foulWells_94 : decode cX11_foulWells 94 = .ok (.baload, 1) := by decide +kernel
theorem dX11_foulWells_95 : decode cX11_foulWells 95 = .ok (.ifCond .eq 8, 3) := by decide +kernel
theorem dX11_foulWells_98 : decode cX11_foulWells 98 = .ok (.bipush (-9), 2) := by decide +kernel
theorem dX11_foulWells_100 : decode cX11_foulWells 100 = .ok (.goto 10, 3) := by decide +kernel
theorem dX11_foulWells_103 : decode cX11_foulWells 103 = .ok (.aload_n 0, 1) := by decide +kernel
theorem dX11_foulWells_104 : decode cX11_foulWells 104 = .ok (.getfield 141, 3) := by decide +kernel
theorem dX11_foulWells_107 : decode cX11_foulWells 107 = .ok (.iload 4, 2) := by decide +kernel
theorem dX11_foulWells_109 : decode cX11_foulWells 109 = .ok (.iaload, 1) := by decide +kernel
theorem dX11_foulWells_110 : decode cX11_foulWells 110 = .ok (.istore 4, 2) := by decide +kernel
theorem dX11_foulWells_112 : decode cX11_foulWells 112 = .ok (.goto (-37), 3) := by decide +kernel
theorem dX11_foulWells_115 : decode cX11_foulWells 115 = .ok (.iinc 3 1, 3) := by decide +kernel
theorem dX11_foulWells_118 : decode cX11_foulWells 118 = .ok (.goto (-88), 3) := by decide +kernel
theorem dX11_foulWells_121 : decode cX11_foulWells 121 = .ok (.iconst 0, 1) := by decide +kernel
theorem dX11_foulWells_122 : decode cX11_foulWells 122 = .ok (.istore_n 3, 1) := by decide +kernel
theorem dX11_foulWells_123 : decode cX11_foulWells 123 = .ok (.iconst 0, 1) := by decide +kernel
theorem dX11_foulWells_124 : decode cX11_foulWells 124 = .ok (.istore 4, 2) := by decide +kernel
theorem dX11_foulWells_126 : decode cX11_foulWells 126 = .ok (.iload 4, 2) := by decide +kernel
theorem dX11_foulWells_128 : decode cX11_foulWells 128 = .ok (.aload_n 0, 1) := by decide +kernel
theorem dX11_foulWells_129 : decode cX11_foulWells 129 = .ok (.getfield 369, 3) := by decide +kernel
theorem dX11_foulWells_132 : decode cX11_foulWells 132 = .ok (.if_icmp .ge 35, 3) := by decide +kernel
theorem dX11_foulWells_135 : decode cX11_foulWells 135 = .ok (.iload_n 3, 1) := by decide +kernel
theorem dX11_foulWells_136 : decode cX11_foulWells 136 = .ok (.aload_n 0, 1) := by decide +kernel
theorem dX11_foulWells_137 : decode cX11_foulWells 137 = .ok (.getfield 147, 3) := by decide +kernel
theorem dX11_foulWells_140 : decode cX11_foulWells 140 = .ok (.aload_n 0, 1) := by decide +kernel
theorem dX11_foulWells_141 : decode cX11_foulWells 141 = .ok (.getfield 90, 3) := by decide +kernel
theorem dX11_foulWells_144 : decode cX11_foulWells 144 = .ok (.iload 4, 2) := by decide +kernel
theorem dX11_foulWells_146 : decode cX11_foulWells 146 = .ok (.iaload, 1) := by decide +kernel
theorem dX11_foulWells_147 : decode cX11_foulWells 147 = .ok (.baload, 1) := by decide +kernel
theorem dX11_foulWells_148 : decode cX11_foulWells 148 = .ok (.ifCond .eq 10, 3) := by decide +kernel
theorem dX11_foulWells_151 : decode cX11_foulWells 151 = .ok (.iconst 1, 1) := by decide +kernel
theorem dX11_foulWells_152 : decode cX11_foulWells 152 = .ok (.iload 4, 2) := by decide +kernel
theorem dX11_foulWells_154 : decode cX11_foulWells 154 = .ok (.ishl, 1) := by decide +kernel
theorem dX11_foulWells_155 : decode cX11_foulWells 155 = .ok (.goto 4, 3) := by decide +kernel
theorem dX11_foulWells_158 : decode cX11_foulWells 158 = .ok (.iconst 0, 1) := by decide +kernel
theorem dX11_foulWells_159 : decode cX11_foulWells 159 = .ok (.ior, 1) := by decide +kernel
theorem dX11_foulWells_160 : decode cX11_foulWells 160 = .ok (.istore_n 3, 1) := by decide +kernel
theorem dX11_foulWells_161 : decode cX11_foulWells 161 = .ok (.iinc 4 1, 3) := by decide +kernel
theorem dX11_foulWells_164 : decode cX11_foulWells 164 = .ok (.goto (-38), 3) := by decide +kernel
theorem dX11_foulWells_167 : decode cX11_foulWells 167 = .ok (.iload_n 3, 1) := by decide +kernel
theorem dX11_foulWells_168 : decode cX11_foulWells 168 = .ok (.ireturn, 1) := by decide +kernel
theorem dX11_foul_0 : decode cX11_foul 0 = .ok (.iload_n 1, 1) := by decide +kernel
theorem dX11_foul_1 : decode cX11_foul 1 = .ok (.i2l, 1) := by decide +kernel
theorem dX11_foul_2 : decode cX11_foul 2 = .ok (.lconst 1, 1) := by decide +kernel
theorem dX11_foul_3 : decode cX11_foul 3 = .ok (.ldc2_w 256, 3) := by decide +kernel
theorem dX11_foul_6 : decode cX11_foul 6 = .ok (.invokestatic 203, 3) := by decide +kernel
theorem dX11_foul_9 : decode cX11_foul 9 = .ok (.istore_n 3, 1) := by decide +kernel
theorem dX11_foul_10 : decode cX11_foul 10 = .ok (.iload_n 3, 1) := by decide +kernel
theorem dX11_foul_11 : decode cX11_foul 11 = .ok (.ifCond .ne 23, 3) := by decide +kernel
theorem dX11_foul_14 : decode cX11_foul 14 = .ok (.iload_n 2, 1) := by decide +kernel
theorem dX11_foul_15 : decode cX11_foul 15 = .ok (.i2l, 1) := by decide +kernel
theorem dX11_foul_16 : decode cX11_foul 16 = .ok (.lconst 0, 1) := by decide +kernel
theorem dX11_foul_17 : decode cX11_foul 17 = .ok (.iconst 1, 1) := by decide +kernel
theorem dX11_foul_18 : decode cX11_foul 18 = .ok (.aload_n 0, 1) := by decide +kernel
theorem dX11_foul_19 : decode cX11_foul 19 = .ok (.getfield 412, 3) := by decide +kernel
theorem dX11_foul_22 : decode cX11_foul 22 = .ok (.ishl, 1) := by decide +kernel
theorem dX11_foul_23 : decode cX11_foul 23 = .ok (.iconst 1, 1) := by decide +kernel
theorem dX11_foul_24 : decode cX11_foul 24 = .ok (.isub, 1) := by decide +kernel
theorem dX11_foul_25 : decode cX11_foul 25 = .ok (.i2l, 1) := by decide +kernel
theorem dX11_foul_26 : decode cX11_foul 26 = .ok (.invokestatic 226, 3) := by decide +kernel
theorem dX11_foul_29 : decode cX11_foul 29 = .ok (.ifCond .ne 5, 3) := by decide +kernel
theorem dX11_foul_32 : decode cX11_foul 32 = .ok (.iconst (-1), 1) := by decide +kernel
theorem dX11_foul_33 : decode cX11_foul 33 = .ok (.istore_n 3, 1) := by decide +kernel
theorem dX11_foul_34 : decode cX11_foul 34 = .ok (.iload_n 3, 1) := by decide +kernel
theorem dX11_foul_35 : decode cX11_foul 35 = .ok (.ifCond .eq 9, 3) := by decide +kernel
theorem dX11_foul_38 : decode cX11_foul 38 = .ok (.aload_n 0, 1) := by decide +kernel
theorem dX11_foul_39 : decode cX11_foul 39 = .ok (.iload_n 3, 1) := by decide +kernel
theorem dX11_foul_40 : decode cX11_foul 40 = .ok (.invokevirtual 207, 3) := by decide +kernel
theorem dX11_foul_43 : decode cX11_foul 43 = .ok (.ireturn, 1) := by decide +kernel
theorem dX11_foul_44 : decode cX11_foul 44 = .ok (.aload_n 0, 1) := by decide +kernel
theorem dX11_foul_45 : decode cX11_foul 45 = .ok (.invokevirtual 415, 3) := by decide +kernel
theorem dX11_foul_48 : decode cX11_foul 48 = .ok (.aload_n 0, 1) := by decide +kernel
theorem dX11_foul_49 : decode cX11_foul 49 = .ok (.iload_n 1, 1) := by decide +kernel
theorem dX11_foul_50 : decode cX11_foul 50 = .ok (.iload_n 2, 1) := by decide +kernel
theorem dX11_foul_51 : decode cX11_foul 51 = .ok (.invokevirtual 421, 3) := by decide +kernel
theorem dX11_foul_54 : decode cX11_foul 54 = .ok (.ireturn, 1) := by decide +kernel
theorem dX11_bits_0 : decode cX11_bits 0 = .ok (.iconst 0, 1) := by decide +kernel
theorem dX11_bits_1 : decode cX11_bits 1 = .ok (.istore_n 1, 1) := by decide +kernel
theorem dX11_bits_2 : decode cX11_bits 2 = .ok (.iconst 0, 1) := by decide +kernel
theorem dX11_bits_3 : decode cX11_bits 3 = .ok (.istore_n 2, 1) := by decide +kernel
theorem dX11_bits_4 : decode cX11_bits 4 = .ok (.iload_n 2, 1) := by decide +kernel
theorem dX11_bits_5 : decode cX11_bits 5 = .ok (.bipush 31, 2) := by decide +kernel
theorem dX11_bits_7 : decode cX11_bits 7 = .ok (.if_icmp .ge 17, 3) := by decide +kernel
theorem dX11_bits_10 : decode cX11_bits 10 = .ok (.iload_n 1, 1) := by decide +kernel
theorem dX11_bits_11 : decode cX11_bits 11 = .ok (.iload_n 0, 1) := by decide +kernel
theorem dX11_bits_12 : decode cX11_bits 12 = .ok (.iload_n 2, 1) := by decide +kernel
theorem dX11_bits_13 : decode cX11_bits 13 = .ok (.ishr, 1) := by decide +kernel
theorem dX11_bits_14 : decode cX11_bits 14 = .ok (.iconst 1, 1) := by decide +kernel
theorem dX11_bits_15 : decode cX11_bits 15 = .ok (.iand, 1) := by decide +kernel
theorem dX11_bits_16 : decode cX11_bits 16 = .ok (.iadd, 1) := by decide +kernel
theorem dX11_bits_17 : decode cX11_bits 17 = .ok (.istore_n 1, 1) := by decide +kernel
theorem dX11_bits_18 : decode cX11_bits 18 = .ok (.iinc 2 1, 3) := by decide +kernel
theorem dX11_bits_21 : decode cX11_bits 21 = .ok (.goto (-17), 3) := by decide +kernel
theorem dX11_bits_24 : decode cX11_bits 24 = .ok (.iload_n 1, 1) := by decide +kernel
theorem dX11_bits_25 : decode cX11_bits 25 = .ok (.ireturn, 1) := by decide +kernel
theorem dX11_drains_0 : decode cX11_drains 0 = .ok (.iload_n 1, 1) := by decide +kernel
theorem dX11_drains_1 : decode cX11_drains 1 = .ok (.i2l, 1) := by decide +kernel
theorem dX11_drains_2 : decode cX11_drains 2 = .ok (.lconst 1, 1) := by decide +kernel
theorem dX11_drains_3 : decode cX11_drains 3 = .ok (.ldc2_w 256, 3) := by decide +kernel
theorem dX11_drains_6 : decode cX11_drains 6 = .ok (.invokestatic 203, 3) := by decide +kernel
theorem dX11_drains_9 : decode cX11_drains 9 = .ok (.istore_n 2, 1) := by decide +kernel
theorem dX11_drains_10 : decode cX11_drains 10 = .ok (.iload_n 2, 1) := by decide +kernel
theorem dX11_drains_11 : decode cX11_drains 11 = .ok (.ifCond .eq 9, 3) := by decide +kernel
theorem dX11_drains_14 : decode cX11_drains 14 = .ok (.aload_n 0, 1) := by decide +kernel
theorem dX11_drains_15 : decode cX11_drains 15 = .ok (.iload_n 2, 1) := by decide +kernel
theorem dX11_drains_16 : decode cX11_drains 16 = .ok (.invokevirtual 207, 3) := by decide +kernel
theorem dX11_drains_19 : decode cX11_drains 19 = .ok (.ireturn, 1) := by decide +kernel
theorem dX11_drains_20 : decode cX11_drains 20 = .ok (.aload_n 0, 1) := by decide +kernel
theorem dX11_drains_21 : decode cX11_drains 21 = .ok (.invokevirtual 415, 3) := by decide +kernel
theorem dX11_drains_24 : decode cX11_drains 24 = .ok (.bipush (-9), 2) := by decide +kernel
theorem dX11_drains_26 : decode cX11_drains 26 = .ok (.istore_n 3, 1) := by decide +kernel
theorem dX11_drains_27 : decode cX11_drains 27 = .ok (.iconst 0, 1) := by decide +kernel
theorem dX11_drains_28 : decode cX11_drains 28 = .ok (.istore 4, 2) := by decide +kernel
theorem dX11_drains_30 : decode cX11_drains 30 = .ok (.iload 4, 2) := by decide +kernel
theorem dX11_drains_32 : decode cX11_drains 32 = .ok (.iconst 1, 1) := by decide +kernel
theorem dX11_drains_33 : decode cX11_drains 33 = .ok (.aload_n 0, 1) := by decide +kernel
theorem dX11_drains_34 : decode cX11_drains 34 = .ok (.getfield 412, 3) := by decide +kernel
theorem dX11_drains_37 : decode cX11_drains 37 = .ok (.ishl, 1) := by decide +kernel
theorem dX11_drains_38 : decode cX11_drains 38 = .ok (.if_icmp .ge 38, 3) := by decide +kernel
theorem dX11_drains_41 : decode cX11_drains 41 = .ok (.iload_n 3, 1) := by decide +kernel
theorem dX11_drains_42 : decode cX11_drains 42 = .ok (.ifCond .lt 15, 3) := by decide +kernel
theorem dX11_drains_45 : decode cX11_drains 45 = .ok (.iload 4, 2) := by decide +kernel
theorem dX11_drains_47 : decode cX11_drains 47 = .ok (.invokestatic 424, 3) := by decide +kernel
theorem dX11_drains_50 : decode cX11_drains 50 = .ok (.iload_n 3, 1) := by decide +kernel
theorem dX11_drains_51 : decode cX11_drains 51 = .ok (.invokestatic 424, 3) := by decide +kernel
theorem dX11_drains_54 : decode cX11_drains 54 = .ok (.if_icmp .ge 16, 3) := by decide +kernel
theorem dX11_drains_57 : decode cX11_drains 57 = .ok (.aload_n 0, 1) := by decide +kernel
theorem dX11_drains_58 : decode cX11_drains 58 = .ok (.iload_n 1, 1) := by decide +kernel
theorem dX11_drains_59 : decode cX11_drains 59 = .ok (.iload 4, 2) := by decide +kernel
theorem dX11_drains_61 : decode cX11_drains 61 = .ok (.invokevirtual 421, 3) := by decide +kernel
theorem dX11_drains_64 : decode cX11_drains 64 = .ok (.ifCond .ne 6, 3) := by decide +kernel
theorem dX11_drains_67 : decode cX11_drains 67 = .ok (.iload 4, 2) := by decide +kernel
theorem dX11_drains_69 : decode cX11_drains 69 = .ok (.istore_n 3, 1) := by decide +kernel
theorem dX11_drains_70 : decode cX11_drains 70 = .ok (.iinc 4 1, 3) := by decide +kernel
theorem dX11_drains_73 : decode cX11_drains 73 = .ok (.goto (-43), 3) := by decide +kernel
theorem dX11_drains_76 : decode cX11_drains 76 = .ok (.iload_n 3, 1) := by decide +kernel
theorem dX11_drains_77 : decode cX11_drains 77 = .ok (.ireturn, 1) := by decide +kernel
theorem dX11_lane_0 : decode cX11_lane 0 = .ok (.aload_n 0, 1) := by decide +kernel
theorem dX11_lane_1 : decode cX11_lane 1 = .ok (.iload_n 1, 1) := by decide +kernel
theorem dX11_lane_2 : decode cX11_lane 2 = .ok (.invokevirtual 233, 3) := by decide +kernel
theorem dX11_lane_5 : decode cX11_lane 5 = .ok (.ifCond .ne 9, 3) := by decide +kernel
theorem dX11_lane_8 : decode cX11_lane 8 = .ok (.aload_n 0, 1) := by decide +kernel
theorem dX11_lane_9 : decode cX11_lane 9 = .ok (.iconst (-1), 1) := by decide +kernel
theorem dX11_lane_10 : decode cX11_lane 10 = .ok (.invokevirtual 207, 3) := by decide +kernel
theorem dX11_lane_13 : decode cX11_lane 13 = .ok (.ireturn, 1) := by decide +kernel
theorem dX11_lane_14 : decode cX11_lane 14 = .ok (.iconst 0, 1) := by decide +kernel
theorem dX11_lane_15 : decode cX11_lane 15 = .ok (.istore_n 2, 1) := by decide +kernel
theorem dX11_lane_16 : decode cX11_lane 16 = .ok (.iload_n 2, 1) := by decide +kernel
theorem dX11_lane_17 : decode cX11_lane 17 = .ok (.aload_n 0, 1) := by decide +kernel
theorem dX11_lane_18 : decode cX11_lane 18 = .ok (.getfield 427, 3) := by decide +kernel
theorem dX11_lane_21 : decode cX11_lane 21 = .ok (.if_icmp .ge 26, 3) := by decide +kernel
theorem dX11_lane_24 : decode cX11_lane 24 = .ok (.aload_n 0, 1) := by decide +kernel
theorem dX11_lane_25 : decode cX11_lane 25 = .ok (.getfield 153, 3) := by decide +kernel
theorem dX11_lane_28 : decode cX11_lane 28 = .ok (.iload_n 2, 1) := by decide +kernel
theorem dX11_lane_29 : decode cX11_lane 29 = .ok (.iaload, 1) := by decide +kernel
theorem dX11_lane_30 : decode cX11_lane 30 = .ok (.iload_n 1, 1) := by decide +kernel
theorem dX11_lane_31 : decode cX11_lane 31 = .ok (.if_icmp .ne 10, 3) := by decide +kernel
theorem dX11_lane_34 : decode cX11_lane 34 = .ok (.aload_n 0, 1) := by decide +kernel
theorem dX11_lane_35 : decode cX11_lane 35 = .ok (.bipush (-3), 2) := by decide +kernel
theorem dX11_lane_37 : decode cX11_lane 37 = .ok (.invokevirtual 207, 3) := by decide +kernel
theorem dX11_lane_40 : decode cX11_lane 40 = .ok (.ireturn, 1) := by decide +kernel
theorem dX11_lane_41 : decode cX11_lane 41 = .ok (.iinc 2 1, 3) := by decide +kernel
theorem dX11_lane_44 : decode cX11_lane 44 = .ok (.goto (-28), 3) := by decide +kernel
theorem dX11_lane_47 : decode cX11_lane 47 = .ok (.aload_n 0, 1) := by decide +kernel
theorem dX11_lane_48 : decode cX11_lane 48 = .ok (.getfield 427, 3) := by decide +kernel
theorem dX11_lane_51 : decode cX11_lane 51 = .ok (.bipush 8, 2) := by decide +kernel
theorem dX11_lane_53 : decode cX11_lane 53 = .ok (.if_icmp .ne 10, 3) := by decide +kernel
theorem dX11_lane_56 : decode cX11_lane 56 = .ok (.aload_n 0, 1) := by decide +kernel
theorem dX11_lane_57 : decode cX11_lane 57 = .ok (.bipush (-6), 2) := by decide +kernel
theorem dX11_lane_59 : decode cX11_lane 59 = .ok (.invokevirtual 207, 3) := by decide +kernel
theorem dX11_lane_62 : decode cX11_lane 62 = .ok (.ireturn, 1) := by decide +kernel
theorem dX11_lane_63 : decode cX11_lane 63 = .ok (.aload_n 0, 1) := by decide +kernel
theorem dX11_lane_64 : decode cX11_lane 64 = .ok (.getfield 153, 3) := by decide +kernel
theorem dX11_lane_67 : decode cX11_lane 67 = .ok (.aload_n 0, 1) := by decide +kernel
theorem dX11_lane_68 : decode cX11_lane 68 = .ok (.getfield 427, 3) := by decide +kernel
theorem dX11_lane_71 : decode cX11_lane 71 = .ok (.iload_n 1, 1) := by decide +kernel
theorem dX11_lane_72 : decode cX11_lane 72 = .ok (.iastore, 1) := by decide +kernel
theorem dX11_lane_73 : decode cX11_lane 73 = .ok (.aload_n 0, 1) := by decide +kernel
theorem dX11_lane_74 : decode cX11_lane 74 = .ok (.dup, 1) := by decide +kernel
theorem dX11_lane_75 : decode cX11_lane 75 = .ok (.getfield 427, 3) := by decide +kernel
theorem dX11_lane_78 : decode cX11_lane 78 = .ok (.iconst 1, 1) := by decide +kernel
theorem dX11_lane_79 : decode cX11_lane 79 = .ok (.iadd, 1) := by decide +kernel
theorem dX11_lane_80 : decode cX11_lane 80 = .ok (.putfield 427, 3) := by decide +kernel
theorem dX11_lane_83 : decode cX11_lane 83 = .ok (.aload_n 0, 1) := by decide +kernel
theorem dX11_lane_84 : decode cX11_lane 84 = .ok (.getfield 427, 3) := by decide +kernel
theorem dX11_lane_87 : decode cX11_lane 87 = .ok (.iconst 1, 1) := by decide +kernel
theorem dX11_lane_88 : decode cX11_lane 88 = .ok (.isub, 1) := by decide +kernel
theorem dX11_lane_89 : decode cX11_lane 89 = .ok (.ireturn, 1) := by decide +kernel
theorem dX11_clears_0 : decode cX11_clears 0 = .ok (.iconst 0, 1) := by decide +kernel
theorem dX11_clears_1 : decode cX11_clears 1 = .ok (.istore_n 2, 1) := by decide +kernel
theorem dX11_clears_2 : decode cX11_clears 2 = .ok (.iload_n 2, 1) := by decide +kernel
theorem dX11_clears_3 : decode cX11_clears 3 = .ok (.aload_n 0, 1) := by decide +kernel
theorem dX11_clears_4 : decode cX11_clears 4 = .ok (.getfield 193, 3) := by decide +kernel
theorem dX11_clears_7 : decode cX11_clears 7 = .ok (.if_icmp .ge 16, 3) := by decide +kernel
theorem dX11_clears_10 : decode cX11_clears 10 = .ok (.aload_n 0, 1) := by decide +kernel
theorem dX11_clears_11 : decode cX11_clears 11 = .ok (.getfield 168, 3) := by decide +kernel
theorem dX11_clears_14 : decode cX11_clears 14 = .ok (.iload_n 2, 1) := by decide +kernel
theorem dX11_clears_15 : decode cX11_clears 15 = .ok (.iconst 0, 1) := by decide +kernel
theorem dX11_clears_16 : decode cX11_clears 16 = .ok (.bastore, 1) := by decide +kernel
theorem dX11_clears_17 : decode cX11_clears 17 = .ok (.iinc 2 1, 3) := by decide +kernel
theorem dX11_clears_20 : decode cX11_clears 20 = .ok (.goto (-18), 3) := by decide +kernel
theorem dX11_clears_23 : decode cX11_clears 23 = .ok (.iconst 0, 1) := by decide +kernel
theorem dX11_clears_24 : decode cX11_clears 24 = .ok (.istore_n 2, 1) := by decide +kernel
theorem dX11_clears_25 : decode cX11_clears 25 = .ok (.iload_n 2, 1) := by decide +kernel
theorem dX11_clears_26 : decode cX11_clears 26 = .ok (.aload_n 0, 1) := by decide +kernel
theorem dX11_clears_27 : decode cX11_clears 27 = .ok (.getfield 427, 3) := by decide +kernel
theorem dX11_clears_30 : decode cX11_clears 30 = .ok (.if_icmp .ge 34, 3) := by decide +kernel
theorem dX11_clears_33 : decode cX11_clears 33 = .ok (.aload_n 0, 1) := by decide +kernel
theorem dX11_clears_34 : decode cX11_clears 34 = .ok (.getfield 168, 3) := by decide +kernel
theorem dX11_clears_37 : decode cX11_clears 37 = .ok (.aload_n 0, 1) := by decide +kernel
theorem dX11_clears_38 : decode cX11_clears 38 = .ok (.getfield 153, 3) := by decide +kernel
theorem dX11_clears_41 : decode cX11_clears 41 = .ok (.iload_n 2, 1) := by decide +kernel
theorem dX11_clears_42 : decode cX11_clears 42 = .ok (.iaload, 1) := by decide +kernel
theorem dX11_clears_43 : decode cX11_clears 43 = .ok (.iload_n 1, 1) := by decide +kernel
theorem dX11_clears_44 : decode cX11_clears 44 = .ok (.iload_n 2, 1) := by decide +kernel
theorem dX11_clears_45 : decode cX11_clears 45 = .ok (.ishr, 1) := by decide +kernel
theorem dX11_clears_46 : decode cX11_clears 46 = .ok (.iconst 1, 1) := by decide +kernel
theorem dX11_clears_47 : decode cX11_clears 47 = .ok (.iand, 1) := by decide +kernel
theorem dX11_clears_48 : decode cX11_clears 48 = .ok (.iconst 1, 1) := by decide +kernel
theorem dX11_clears_49 : decode cX11_clears 49 = .ok (.if_icmp .ne 7, 3) := by decide +kernel
theorem dX11_clears_52 : decode cX11_clears 52 = .ok (.iconst 1, 1) := by decide +kernel
theorem dX11_clears_53 : decode cX11_clears 53 = .ok (.goto 4, 3) := by decide +kernel
theorem dX11_clears_56 : decode cX11_clears 56 = .ok (.iconst 0, 1) := by decide +kernel
theorem dX11_clears_57 : decode cX11_clears 57 = .ok (.bastore, 1) := by decide +kernel
theorem dX11_clears_58 : decode cX11_clears 58 = .ok (.iinc 2 1, 3) := by decide +kernel
theorem dX11_clears_61 : decode cX11_clears 61 = .ok (.goto (-36), 3) := by decide +kernel
theorem dX11_clears_64 : decode cX11_clears 64 = .ok (.iconst 0, 1) := by decide +kernel
theorem dX11_clears_65 : decode cX11_clears 65 = .ok (.istore_n 2, 1) := by decide +kernel
theorem dX11_clears_66 : decode cX11_clears 66 = .ok (.iload_n 2, 1) := by decide +kernel
theorem dX11_clears_67 : decode cX11_clears 67 = .ok (.sipush 144, 3) := by decide +kernel
theorem dX11_clears_70 : decode cX11_clears 70 = .ok (.if_icmp .ge 17, 3) := by decide +kernel
theorem dX11_clears_73 : decode cX11_clears 73 = .ok (.aload_n 0, 1) := by decide +kernel
theorem dX11_clears_74 : decode cX11_clears 74 = .ok (.getfield 159, 3) := by decide +kernel
theorem dX11_clears_77 : decode cX11_clears 77 = .ok (.iload_n 2, 1) := by decide +kernel
theorem dX11_clears_78 : decode cX11_clears 78 = .ok (.bipush (-9), 2) := by decide +kernel
theorem dX11_clears_80 : decode cX11_clears 80 = .ok (.iastore, 1) := by decide +kernel
theorem dX11_clears_81 : decode cX11_clears 81 = .ok (.iinc 2 1, 3) := by decide +kernel
theorem dX11_clears_84 : decode cX11_clears 84 = .ok (.goto (-18), 3) := by decide +kernel
theorem dX11_clears_87 : decode cX11_clears 87 = .ok (.iconst 0, 1) := by decide +kernel
theorem dX11_clears_88 : decode cX11_clears 88 = .ok (.istore_n 2, 1) := by decide +kernel
theorem dX11_clears_89 : decode cX11_clears 89 = .ok (.iload_n 2, 1) := by decide +kernel
theorem dX11_clears_90 : decode cX11_clears 90 = .ok (.aload_n 0, 1) := by decide +kernel
theorem dX11_clears_91 : decode cX11_clears 91 = .ok (.getfield 193, 3) := by decide +kernel
theorem dX11_clears_94 : decode cX11_clears 94 = .ok (.if_icmp .ge 35, 3) := by decide +kernel
theorem dX11_clears_97 : decode cX11_clears 97 = .ok (.aload_n 0, 1) := by decide +kernel
theorem dX11_clears_98 : decode cX11_clears 98 = .ok (.getfield 159, 3) := by decide +kernel
theorem dX11_clears_101 : decode cX11_clears 101 = .ok (.aload_n 0, 1) := by decide +kernel
theorem dX11_clears_102 : decode cX11_clears 102 = .ok (.getfield 16, 3) := by decide +kernel
theorem dX11_clears_105 : decode cX11_clears 105 = .ok (.iload_n 2, 1) := by decide +kernel
theorem dX11_clears_106 : decode cX11_clears 106 = .ok (.iaload, 1) := by decide +kernel
theorem dX11_clears_107 : decode cX11_clears 107 = .ok (.aload_n 0, 1) := by decide +kernel
theorem dX11_clears_108 : decode cX11_clears 108 = .ok (.getfield 168, 3) := by decide +kernel
theorem dX11_clears_111 : decode cX11_clears 111 = .ok (.iload_n 2, 1) := by decide +kernel
theorem dX11_clears_112 : decode cX11_clears 112 = .ok (.baload, 1) := by decide +kernel
theorem dX11_clears_113 : decode cX11_clears 113 = .ok (.ifCond .eq 8, 3) := by decide +kernel
theorem dX11_clears_116 : decode cX11_clears 116 = .ok (.bipush (-9), 2) := by decide +kernel
theorem dX11_clears_118 : decode cX11_clears 118 = .ok (.goto 4, 3) := by decide +kernel
theorem dX11_clears_121 : decode cX11_clears 121 = .ok (.iload_n 2, 1) := by decide +kernel
theorem dX11_clears_122 : decode cX11_clears 122 = .ok (.iastore, 1) := by decide +kernel
theorem dX11_clears_123 : decode cX11_clears 123 = .ok (.iinc 2 1, 3) := by decide +kernel
theorem dX11_clears_126 : decode cX11_clears 126 = .ok (.goto (-37), 3) := by decide +kernel
theorem dX11_clears_129 : decode cX11_clears 129 = .ok (.return_, 1) := by decide +kernel
theorem dX11_beside_0 : decode cX11_beside 0 = .ok (.aload_n 0, 1) := by decide +kernel
theorem dX11_beside_1 : decode cX11_beside 1 = .ok (.getfield 16, 3) := by decide +kernel
theorem dX11_beside_4 : decode cX11_beside 4 = .ok (.iload_n 1, 1) := by decide +kernel
theorem dX11_beside_5 : decode cX11_beside 5 = .ok (.iaload, 1) := by decide +kernel
theorem dX11_beside_6 : decode cX11_beside 6 = .ok (.istore_n 3, 1) := by decide +kernel
theorem dX11_beside_7 : decode cX11_beside 7 = .ok (.iload_n 2, 1) := by decide +kernel
theorem dX11_beside_8 : decode cX11_beside 8 = .ok (.ifCond .ne 26, 3) := by decide +kernel
theorem dX11_beside_11 : decode cX11_beside 11 = .ok (.iload_n 3, 1) := by decide +kernel
theorem dX11_beside_12 : decode cX11_beside 12 = .ok (.bipush 12, 2) := by decide +kernel
theorem dX11_beside_14 : decode cX11_beside 14 = .ok (.irem, 1) := by decide +kernel
theorem dX11_beside_15 : decode cX11_beside 15 = .ok (.bipush 11, 2) := by decide +kernel
theorem dX11_beside_17 : decode cX11_beside 17 = .ok (.if_icmp .ge 14, 3) := by decide +kernel
theorem dX11_beside_20 : decode cX11_beside 20 = .ok (.aload_n 0, 1) := by decide +kernel
theorem dX11_beside_21 : decode cX11_beside 21 = .ok (.getfield 159, 3) := by decide +kernel
theorem dX11_beside_24 : decode cX11_beside 24 = .ok (.iload_n 3, 1) := by decide +kernel
theorem dX11_beside_25 : decode cX11_beside 25 = .ok (.iconst 1, 1) := by decide +kernel
theorem dX11_beside_26 : decode cX11_beside 26 = .ok (.iadd, 1) := by decide +kernel
theorem dX11_beside_27 : decode cX11_beside 27 = .ok (.iaload, 1) := by decide +kernel
theorem dX11_beside_28 : decode cX11_beside 28 = .ok (.goto 5, 3) := by decide +kernel
theorem dX11_beside_31 : decode cX11_beside 31 = .ok (.bipush (-9), 2) := by decide +kernel
theorem dX11_beside_33 : decode cX11_beside 33 = .ok (.ireturn, 1) := by decide +kernel
theorem dX11_beside_34 : decode cX11_beside 34 = .ok (.iload_n 2, 1) := by decide +kernel
theorem dX11_beside_35 : decode cX11_beside 35 = .ok (.iconst 1, 1) := by decide +kernel
theorem dX11_beside_36 : decode cX11_beside 36 = .ok (.if_icmp .ne 25, 3) := by decide +kernel
theorem dX11_beside_39 : decode cX11_beside 39 = .ok (.iload_n 3, 1) := by decide +kernel
theorem dX11_beside_40 : decode cX11_beside 40 = .ok (.sipush 132, 3) := by decide +kernel
theorem dX11_beside_43 : decode cX11_beside 43 = .ok (.if_icmp .ge 15, 3) := by decide +kernel
theorem dX11_beside_46 : decode cX11_beside 46 = .ok (.aload_n 0, 1) := by decide +kernel
theorem dX11_beside_47 : decode cX11_beside 47 = .ok (.getfield 159, 3) := by decide +kernel
theorem dX11_beside_50 : decode cX11_beside 50 = .ok (.iload_n 3, 1) := by decide +kernel
theorem dX11_beside_51 : decode cX11_beside 51 = .ok (.bipush 12, 2) := by decide +kernel
theorem dX11_beside_53 : decode cX11_beside 53 = .ok (.iadd, 1) := by decide +kernel
theorem dX11_beside_54 : decode cX11_beside 54 = .ok (.iaload, 1) := by decide +kernel
theorem dX11_beside_55 : decode cX11_beside 55 = .ok (.goto 5, 3) := by decide +kernel
theorem dX11_beside_58 : decode cX11_beside 58 = .ok (.bipush (-9), 2) := by decide +kernel
theorem dX11_beside_60 : decode cX11_beside 60 = .ok (.ireturn, 1) := by decide +kernel
theorem dX11_beside_61 : decode cX11_beside 61 = .ok (.iload_n 2, 1) := by decide +kernel
theorem dX11_beside_62 : decode cX11_beside 62 = .ok (.iconst 2, 1) := by decide +kernel
theorem dX11_beside_63 : decode cX11_beside 63 = .ok (.if_icmp .ne 24, 3) := by decide +kernel
theorem dX11_beside_66 : decode cX11_beside 66 = .ok (.iload_n 3, 1) := by decide +kernel
theorem dX11_beside_67 : decode cX11_beside 67 = .ok (.bipush 12, 2) := by decide +kernel
theorem dX11_beside_69 : decode cX11_beside 69 = .ok (.irem, 1) := by decide +kernel
theorem dX11_beside_70 : decode cX11_beside 70 = .ok (.ifCond .le 14, 3) := by decide +kernel
theorem dX11_beside_73 : decode cX11_beside 73 = .ok (.aload_n 0, 1) := by decide +kernel
theorem dX11_beside_74 : decode cX11_beside 74 = .ok (.getfield 159, 3) := by decide +kernel
theorem dX11_beside_77 : decode cX11_beside 77 = .ok (.iload_n 3, 1) := by decide +kernel
theorem dX11_beside_78 : decode cX11_beside 78 = .ok (.iconst 1, 1) := by decide +kernel
theorem dX11_beside_79 : decode cX11_beside 79 = .ok (.isub, 1) := by decide +kernel
theorem dX11_beside_80 : decode cX11_beside 80 = .ok (.iaload, 1) := by decide +kernel
theorem dX11_beside_81 : decode cX11_beside 81 = .ok (.goto 5, 3) := by decide +kernel
theorem dX11_beside_84 : decode cX11_beside 84 = .ok (.bipush (-9), 2) := by decide +kernel
theorem dX11_beside_86 : decode cX11_beside 86 = .ok (.ireturn, 1) := by decide +kernel
theorem dX11_beside_87 : decode cX11_beside 87 = .ok (.iload_n 3, 1) := by decide +kernel
theorem dX11_beside_88 : decode cX11_beside 88 = .ok (.bipush 12, 2) := by decide +kernel
theorem dX11_beside_90 : decode cX11_beside 90 = .ok (.if_icmp .lt 15, 3) := by decide +kernel
theorem dX11_beside_93 : decode cX11_beside 93 = .ok (.aload_n 0, 1) := by decide +kernel
theorem dX11_beside_94 : decode cX11_beside 94 = .ok (.getfield 159, 3) := by decide +kernel
theorem dX11_beside_97 : decode cX11_beside 97 = .ok (.iload_n 3, 1) := by decide +kernel
theorem dX11_beside_98 : decode cX11_beside 98 = .ok (.bipush 12, 2) := by decide +kernel
theorem dX11_beside_100 : decode cX11_beside 100 = .ok (.isub, 1) := by decide +kernel
theorem dX11_beside_101 : decode cX11_beside 101 = .ok (.iaload, 1) := by decide +kernel
theorem dX11_beside_102 : decode cX11_beside 102 = .ok (.goto 5, 3) := by decide +kernel
theorem dX11_beside_105 : decode cX11_beside 105 = .ok (.bipush (-9), 2) := by decide +kernel
theorem dX11_beside_107 : decode cX11_beside 107 = .ok (.ireturn, 1) := by decide +kernel
theorem dX11_minutes_0 : decode cX11_minutes 0 = .ok (.aload_n 0, 1) := by decide +kernel
theorem dX11_minutes_1 : decode cX11_minutes 1 = .ok (.iload_n 1, 1) := by decide +kernel
theorem dX11_minutes_2 : decode cX11_minutes 2 = .ok (.invokevirtual 233, 3) := by decide +kernel
theorem dX11_minutes_5 : decode cX11_minutes 5 = .ok (.ifCond .eq 30, 3) := by decide +kernel
theorem dX11_minutes_8 : decode cX11_minutes 8 = .ok (.aload_n 0, 1) := by decide +kernel
theorem dX11_minutes_9 : decode cX11_minutes 9 = .ok (.iload_n 2, 1) := by decide +kernel
theorem dX11_minutes_10 : decode cX11_minutes 10 = .ok (.invokevirtual 233, 3) := by decide +kernel
theorem dX11_minutes_13 : decode cX11_minutes 13 = .ok (.ifCond .eq 22, 3) := by decide +kernel
theorem dX11_minutes_16 : decode cX11_minutes 16 = .ok (.iload 4, 2) := by decide +kernel
theorem dX11_minutes_18 : decode cX11_minutes 18 = .ok (.i2l, 1) := by decide +kernel
theorem dX11_minutes_19 : decode cX11_minutes 19 = .ok (.lconst 0, 1) := by decide +kernel
