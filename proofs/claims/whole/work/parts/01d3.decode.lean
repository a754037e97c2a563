theorem dX11_turner_16 : decode cX11_turner 16 = .ok (.iload_n 1, 1) := by decide +kernel
theorem dX11_turner_17 : decode cX11_turner 17 = .ok (.iload_n 2, 1) := by decide +kernel
theorem dX11_turner_18 : decode cX11_turner 18 = .ok (.if_icmp .eq 43, 3) := by decide +kernel
theorem dX11_turner_21 : decode cX11_turner 21 = .ok (.iload_n 3, 1) := by decide +kernel
theorem dX11_turner_22 : decode cX11_turner 22 = .ok (.iconst 0, 1) := by decide +kernel
theorem dX11_turner_23 : decode cX11_turner 23 = .ok (.sipush 4095, 3) := by decide +kernel
theorem dX11_turner_26 : decode cX11_turner 26 = .ok (.invokestatic 110, 3) := by decide +kernel
theorem dX11_turner_29 : decode cX11_turner 29 = .ok (.ifCond .eq 32, 3) := by decide +kernel
theorem dX11_turner_32 : decode cX11_turner 32 = .ok (.iload 4, 2) := by decide +kernel
theorem dX11_turner_34 : decode cX11_turner 34 = .ok (.iconst 0, 1) := by decide +kernel
theorem dX11_turner_35 : decode cX11_turner 35 = .ok (.sipush 9999, 3) := by decide +kernel
theorem dX11_turner_38 : decode cX11_turner 38 = .ok (.invokestatic 110, 3) := by decide +kernel
theorem dX11_turner_41 : decode cX11_turner 41 = .ok (.ifCond .eq 20, 3) := by decide +kernel
theorem dX11_turner_44 : decode cX11_turner 44 = .ok (.iload 5, 2) := by decide +kernel
theorem dX11_turner_46 : decode cX11_turner 46 = .ok (.invokestatic 124, 3) := by decide +kernel
theorem dX11_turner_49 : decode cX11_turner 49 = .ok (.ifCond .eq 12, 3) := by decide +kernel
theorem dX11_turner_52 : decode cX11_turner 52 = .ok (.aload_n 0, 1) := by decide +kernel
theorem dX11_turner_53 : decode cX11_turner 53 = .ok (.getfield 133, 3) := by decide +kernel
theorem dX11_turner_56 : decode cX11_turner 56 = .ok (.bipush 24, 2) := by decide +kernel
theorem dX11_turner_58 : decode cX11_turner 58 = .ok (.if_icmp .ne 5, 3) := by decide +kernel
theorem dX11_turner_61 : decode cX11_turner 61 = .ok (.iconst (-1), 1) := by decide +kernel
theorem dX11_turner_62 : decode cX11_turner 62 = .ok (.ireturn, 1) := by decide +kernel
theorem dX11_turner_63 : decode cX11_turner 63 = .ok (.aload_n 0, 1) := by decide +kernel
theorem dX11_turner_64 : decode cX11_turner 64 = .ok (.getfield 54, 3) := by decide +kernel
theorem dX11_turner_67 : decode cX11_turner 67 = .ok (.aload_n 0, 1) := by decide +kernel
theorem dX11_turner_68 : decode cX11_turner 68 = .ok (.getfield 133, 3) := by decide +kernel
theorem dX11_turner_71 : decode cX11_turner 71 = .ok (.iload_n 1, 1) := by decide +kernel
theorem dX11_turner_72 : decode cX11_turner 72 = .ok (.iastore, 1) := by decide +kernel
theorem dX11_turner_73 : decode cX11_turner 73 = .ok (.aload_n 0, 1) := by decide +kernel
theorem dX11_turner_74 : decode cX11_turner 74 = .ok (.getfield 57, 3) := by decide +kernel
theorem dX11_turner_77 : decode cX11_turner 77 = .ok (.aload_n 0, 1) := by decide +kernel
theorem dX11_turner_78 : decode cX11_turner 78 = .ok (.getfield 133, 3) := by decide +kernel
theorem dX11_turner_81 : decode cX11_turner 81 = .ok (.iload_n 2, 1) := by decide +kernel
theorem dX11_turner_82 : decode cX11_turner 82 = .ok (.iastore, 1) := by decide +kernel
theorem dX11_turner_83 : decode cX11_turner 83 = .ok (.aload_n 0, 1) := by decide +kernel
theorem dX11_turner_84 : decode cX11_turner 84 = .ok (.getfield 60, 3) := by decide +kernel
theorem dX11_turner_87 : decode cX11_turner 87 = .ok (.aload_n 0, 1) := by decide +kernel
theorem dX11_turner_88 : decode cX11_turner 88 = .ok (.getfield 133, 3) := by decide +kernel
theorem dX11_turner_91 : decode cX11_turner 91 = .ok (.iload_n 3, 1) := by decide +kernel
theorem dX11_turner_92 : decode cX11_turner 92 = .ok (.iastore, 1) := by decide +kernel
theorem dX11_turner_93 : decode cX11_turner 93 = .ok (.aload_n 0, 1) := by decide +kernel
theorem dX11_turner_94 : decode cX11_turner 94 = .ok (.getfield 63, 3) := by decide +kernel
theorem dX11_turner_97 : decode cX11_turner 97 = .ok (.aload_n 0, 1) := by decide +kernel
theorem dX11_turner_98 : decode cX11_turner 98 = .ok (.getfield 133, 3) := by decide +kernel
theorem dX11_turner_101 : decode cX11_turner 101 = .ok (.iload 4, 2) := by decide +kernel
theorem dX11_turner_103 : decode cX11_turner 103 = .ok (.iastore, 1) := by decide +kernel
theorem dX11_turner_104 : decode cX11_turner 104 = .ok (.aload_n 0, 1) := by decide +kernel
theorem dX11_turner_105 : decode cX11_turner 105 = .ok (.getfield 66, 3) := by decide +kernel
theorem dX11_turner_108 : decode cX11_turner 108 = .ok (.aload_n 0, 1) := by decide +kernel
theorem dX11_turner_109 : decode cX11_turner 109 = .ok (.getfield 133, 3) := by decide +kernel
theorem dX11_turner_112 : decode cX11_turner 112 = .ok (.iload 5, 2) := by decide +kernel
theorem dX11_turner_114 : decode cX11_turner 114 = .ok (.iastore, 1) := by decide +kernel
theorem dX11_turner_115 : decode cX11_turner 115 = .ok (.aload_n 0, 1) := by decide +kernel
theorem dX11_turner_116 : decode cX11_turner 116 = .ok (.dup, 1) := by decide +kernel
theorem dX11_turner_117 : decode cX11_turner 117 = .ok (.getfield 133, 3) := by decide +kernel
theorem dX11_turner_120 : decode cX11_turner 120 = .ok (.iconst 1, 1) := by decide +kernel
theorem dX11_turner_121 : decode cX11_turner 121 = .ok (.iadd, 1) := by decide +kernel
theorem dX11_turner_122 : decode cX11_turner 122 = .ok (.putfield 133, 3) := by decide +kernel
theorem dX11_turner_125 : decode cX11_turner 125 = .ok (.aload_n 0, 1) := by decide +kernel
theorem dX11_turner_126 : decode cX11_turner 126 = .ok (.getfield 133, 3) := by decide +kernel
theorem dX11_turner_129 : decode cX11_turner 129 = .ok (.iconst 1, 1) := by decide +kernel
theorem dX11_turner_130 : decode cX11_turner 130 = .ok (.isub, 1) := by decide +kernel
theorem dX11_turner_131 : decode cX11_turner 131 = .ok (.ireturn, 1) := by decide +kernel
theorem dX11_year_0 : decode cX11_year 0 = .ok (.iload_n 1, 1) := by decide +kernel
theorem dX11_year_1 : decode cX11_year 1 = .ok (.aload_n 0, 1) := by decide +kernel
theorem dX11_year_2 : decode cX11_year 2 = .ok (.getfield 136, 3) := by decide +kernel
theorem dX11_year_5 : decode cX11_year 5 = .ok (.sipush 999, 3) := by decide +kernel
theorem dX11_year_8 : decode cX11_year 8 = .ok (.invokestatic 110, 3) := by decide +kernel
theorem dX11_year_11 : decode cX11_year 11 = .ok (.ifCond .ne 5, 3) := by decide +kernel
theorem dX11_year_14 : decode cX11_year 14 = .ok (.iconst 0, 1) := by decide +kernel
theorem dX11_year_15 : decode cX11_year 15 = .ok (.ireturn, 1) := by decide +kernel
theorem dX11_year_16 : decode cX11_year 16 = .ok (.aload_n 0, 1) := by decide +kernel
theorem dX11_year_17 : decode cX11_year 17 = .ok (.iload_n 1, 1) := by decide +kernel
theorem dX11_year_18 : decode cX11_year 18 = .ok (.putfield 136, 3) := by decide +kernel
theorem dX11_year_21 : decode cX11_year 21 = .ok (.iconst 1, 1) := by decide +kernel
theorem dX11_year_22 : decode cX11_year 22 = .ok (.ireturn, 1) := by decide +kernel
theorem dX11_byteAt_0 : decode cX11_byteAt 0 = .ok (.aload_n 0, 1) := by decide +kernel
theorem dX11_byteAt_1 : decode cX11_byteAt 1 = .ok (.getfield 30, 3) := by decide +kernel
theorem dX11_byteAt_4 : decode cX11_byteAt 4 = .ok (.bipush 60, 2) := by decide +kernel
theorem dX11_byteAt_6 : decode cX11_byteAt 6 = .ok (.iload_n 1, 1) := by decide +kernel
theorem dX11_byteAt_7 : decode cX11_byteAt 7 = .ok (.imul, 1) := by decide +kernel
theorem dX11_byteAt_8 : decode cX11_byteAt 8 = .ok (.iload_n 2, 1) := by decide +kernel
theorem dX11_byteAt_9 : decode cX11_byteAt 9 = .ok (.iadd, 1) := by decide +kernel
theorem dX11_byteAt_10 : decode cX11_byteAt 10 = .ok (.iaload, 1) := by decide +kernel
theorem dX11_byteAt_11 : decode cX11_byteAt 11 = .ok (.ireturn, 1) := by decide +kernel
theorem dX11_reads_0 : decode cX11_reads 0 = .ok (.aload_n 0, 1) := by decide +kernel
theorem dX11_reads_1 : decode cX11_reads 1 = .ok (.iconst 0, 1) := by decide +kernel
theorem dX11_reads_2 : decode cX11_reads 2 = .ok (.putfield 139, 3) := by decide +kernel
theorem dX11_reads_5 : decode cX11_reads 5 = .ok (.aload_n 0, 1) := by decide +kernel
theorem dX11_reads_6 : decode cX11_reads 6 = .ok (.iconst 0, 1) := by decide +kernel
theorem dX11_reads_7 : decode cX11_reads 7 = .ok (.putfield 142, 3) := by decide +kernel
theorem dX11_reads_10 : decode cX11_reads 10 = .ok (.aload_n 0, 1) := by decide +kernel
theorem dX11_reads_11 : decode cX11_reads 11 = .ok (.getfield 33, 3) := by decide +kernel
theorem dX11_reads_14 : decode cX11_reads 14 = .ok (.iload_n 1, 1) := by decide +kernel
theorem dX11_reads_15 : decode cX11_reads 15 = .ok (.iaload, 1) := by decide +kernel
theorem dX11_reads_16 : decode cX11_reads 16 = .ok (.aload_n 0, 1) := by decide +kernel
theorem dX11_reads_17 : decode cX11_reads 17 = .ok (.getfield 17, 3) := by decide +kernel
theorem dX11_reads_20 : decode cX11_reads 20 = .ok (.iload_n 2, 1) := by decide +kernel
theorem dX11_reads_21 : decode cX11_reads 21 = .ok (.iaload, 1) := by decide +kernel
theorem dX11_reads_22 : decode cX11_reads 22 = .ok (.if_icmp .ge 5, 3) := by decide +kernel
theorem dX11_reads_25 : decode cX11_reads 25 = .ok (.iconst 0, 1) := by decide +kernel
theorem dX11_reads_26 : decode cX11_reads 26 = .ok (.ireturn, 1) := by decide +kernel
theorem dX11_reads_27 : decode cX11_reads 27 = .ok (.iconst 0, 1) := by decide +kernel
theorem dX11_reads_28 : decode cX11_reads 28 = .ok (.istore_n 3, 1) := by decide +kernel
theorem dX11_reads_29 : decode cX11_reads 29 = .ok (.iload_n 3, 1) := by decide +kernel
theorem dX11_reads_30 : decode cX11_reads 30 = .ok (.aload_n 0, 1) := by decide +kernel
theorem dX11_reads_31 : decode cX11_reads 31 = .ok (.getfield 17, 3) := by decide +kernel
theorem dX11_reads_34 : decode cX11_reads 34 = .ok (.iload_n 2, 1) := by decide +kernel
theorem dX11_reads_35 : decode cX11_reads 35 = .ok (.iaload, 1) := by decide +kernel
theorem dX11_reads_36 : decode cX11_reads 36 = .ok (.if_icmp .ge 30, 3) := by decide +kernel
theorem dX11_reads_39 : decode cX11_reads 39 = .ok (.aload_n 0, 1) := by decide +kernel
theorem dX11_reads_40 : decode cX11_reads 40 = .ok (.iload_n 1, 1) := by decide +kernel
theorem dX11_reads_41 : decode cX11_reads 41 = .ok (.iload_n 3, 1) := by decide +kernel
theorem dX11_reads_42 : decode cX11_reads 42 = .ok (.invokevirtual 145, 3) := by decide +kernel
theorem dX11_reads_45 : decode cX11_reads 45 = .ok (.aload_n 0, 1) := by decide +kernel
theorem dX11_reads_46 : decode cX11_reads 46 = .ok (.getfield 13, 3) := by decide +kernel
theorem dX11_reads_49 : decode cX11_reads 49 = .ok (.iconst 4, 1) := by decide +kernel
theorem dX11_reads_50 : decode cX11_reads 50 = .ok (.iload_n 2, 1) := by decide +kernel
theorem dX11_reads_51 : decode cX11_reads 51 = .ok (.imul, 1) := by decide +kernel
theorem dX11_reads_52 : decode cX11_reads 52 = .ok (.iload_n 3, 1) := by decide +kernel
theorem dX11_reads_53 : decode cX11_reads 53 = .ok (.iadd, 1) := by decide +kernel
theorem dX11_reads_54 : decode cX11_reads 54 = .ok (.iaload, 1) := by decide +kernel
theorem dX11_reads_55 : decode cX11_reads 55 = .ok (.if_icmp .eq 5, 3) := by decide +kernel
theorem dX11_reads_58 : decode cX11_reads 58 = .ok (.iconst 0, 1) := by decide +kernel
theorem dX11_reads_59 : decode cX11_reads 59 = .ok (.ireturn, 1) := by decide +kernel
theorem dX11_reads_60 : decode cX11_reads 60 = .ok (.iinc 3 1, 3) := by decide +kernel
theorem dX11_reads_63 : decode cX11_reads 63 = .ok (.goto (-34), 3) := by decide +kernel
theorem dX11_reads_66 : decode cX11_reads 66 = .ok (.aload_n 0, 1) := by decide +kernel
theorem dX11_reads_67 : decode cX11_reads 67 = .ok (.getfield 33, 3) := by decide +kernel
theorem dX11_reads_70 : decode cX11_reads 70 = .ok (.iload_n 1, 1) := by decide +kernel
theorem dX11_reads_71 : decode cX11_reads 71 = .ok (.iaload, 1) := by decide +kernel
theorem dX11_reads_72 : decode cX11_reads 72 = .ok (.istore_n 3, 1) := by decide +kernel
theorem dX11_reads_73 : decode cX11_reads 73 = .ok (.aload_n 0, 1) := by decide +kernel
theorem dX11_reads_74 : decode cX11_reads 74 = .ok (.getfield 23, 3) := by decide +kernel
theorem dX11_reads_77 : decode cX11_reads 77 = .ok (.iload_n 2, 1) := by decide +kernel
theorem dX11_reads_78 : decode cX11_reads 78 = .ok (.baload, 1) := by decide +kernel
theorem dX11_reads_79 : decode cX11_reads 79 = .ok (.ifCond .eq 116, 3) := by decide +kernel
theorem dX11_reads_82 : decode cX11_reads 82 = .ok (.aload_n 0, 1) := by decide +kernel
theorem dX11_reads_83 : decode cX11_reads 83 = .ok (.getfield 33, 3) := by decide +kernel
theorem dX11_reads_86 : decode cX11_reads 86 = .ok (.iload_n 1, 1) := by decide +kernel
theorem dX11_reads_87 : decode cX11_reads 87 = .ok (.iaload, 1) := by decide +kernel
theorem dX11_reads_88 : decode cX11_reads 88 = .ok (.aload_n 0, 1) := by decide +kernel
theorem dX11_reads_89 : decode cX11_reads 89 = .ok (.getfield 17, 3) := by decide +kernel
theorem dX11_reads_92 : decode cX11_reads 92 = .ok (.iload_n 2, 1) := by decide +kernel
theorem dX11_reads_93 : decode cX11_reads 93 = .ok (.iaload, 1) := by decide +kernel
theorem dX11_reads_94 : decode cX11_reads 94 = .ok (.if_icmp .le 7, 3) := by decide +kernel
theorem dX11_reads_97 : decode cX11_reads 97 = .ok (.iconst 1, 1) := by decide +kernel
theorem dX11_reads_98 : decode cX11_reads 98 = .ok (.goto 4, 3) := by decide +kernel
theorem dX11_reads_101 : decode cX11_reads 101 = .ok (.iconst 0, 1) := by decide +kernel
theorem dX11_reads_102 : decode cX11_reads 102 = .ok (.istore 4, 2) := by decide +kernel
theorem dX11_reads_104 : decode cX11_reads 104 = .ok (.iconst 0, 1) := by decide +kernel
theorem dX11_reads_105 : decode cX11_reads 105 = .ok (.istore 5, 2) := by decide +kernel
theorem dX11_reads_107 : decode cX11_reads 107 = .ok (.iconst 0, 1) := by decide +kernel
theorem dX11_reads_108 : decode cX11_reads 108 = .ok (.istore 6, 2) := by decide +kernel
theorem dX11_reads_110 : decode cX11_reads 110 = .ok (.iload 6, 2) := by decide +kernel
theorem dX11_reads_112 : decode cX11_reads 112 = .ok (.aload_n 0, 1) := by decide +kernel
theorem dX11_reads_113 : decode cX11_reads 113 = .ok (.getfield 33, 3) := by decide +kernel
theorem dX11_reads_116 : decode cX11_reads 116 = .ok (.iload_n 1, 1) := by decide +kernel
theorem dX11_reads_117 : decode cX11_reads 117 = .ok (.iaload, 1) := by decide +kernel
theorem dX11_reads_118 : decode cX11_reads 118 = .ok (.iconst 1, 1) := by decide +kernel
theorem dX11_reads_119 : decode cX11_reads 119 = .ok (.isub, 1) := by decide +kernel
theorem dX11_reads_120 : decode cX11_reads 120 = .ok (.if_icmp .ge 21, 3) := by decide +kernel
theorem dX11_reads_123 : decode cX11_reads 123 = .ok (.iload 5, 2) := by decide +kernel
theorem dX11_reads_125 : decode cX11_reads 125 = .ok (.aload_n 0, 1) := by decide +kernel
theorem dX11_reads_126 : decode cX11_reads 126 = .ok (.iload_n 1, 1) := by decide +kernel
theorem dX11_reads_127 : decode cX11_reads 127 = .ok (.iload 6, 2) := by decide +kernel
theorem dX11_reads_129 : decode cX11_reads 129 = .ok (.invokevirtual 145, 3) := by decide +kernel
theorem dX11_reads_132 : decode cX11_reads 132 = .ok (.iadd, 1) := by decide +kernel
theorem dX11_reads_133 : decode cX11_reads 133 = .ok (.istore 5, 2) := by decide +kernel
theorem dX11_reads_135 : decode cX11_reads 135 = .ok (.iinc 6 1, 3) := by decide +kernel
theorem dX11_reads_138 : decode cX11_reads 138 = .ok (.goto (-28), 3) := by decide +kernel
theorem dX11_reads_141 : decode cX11_reads 141 = .ok (.aload_n 0, 1) := by decide +kernel
theorem dX11_reads_142 : decode cX11_reads 142 = .ok (.dup, 1) := by decide +kernel
theorem dX11_reads_143 : decode cX11_reads 143 = .ok (.getfield 142, 3) := by decide +kernel
theorem dX11_reads_146 : decode cX11_reads 146 = .ok (.iload 4, 2) := by decide +kernel
theorem dX11_reads_148 : decode cX11_reads 148 = .ok (.ifCond .eq 29, 3) := by decide +kernel
theorem dX11_reads_151 : decode cX11_reads 151 = .ok (.iload 5, 2) := by decide +kernel
theorem dX11_reads_153 : decode cX11_reads 153 = .ok (.sipush 256, 3) := by decide +kernel
theorem dX11_reads_156 : decode cX11_reads 156 = .ok (.irem, 1) := by decide +kernel
theorem dX11_reads_157 : decode cX11_reads 157 = .ok (.aload_n 0, 1) := by decide +kernel
theorem dX11_reads_158 : decode cX11_reads 158 = .ok (.iload_n 1, 1) := by decide +kernel
theorem dX11_reads_159 : decode cX11_reads 159 = .ok (.aload_n 0, 1) := by decide +kernel
theorem dX11_reads_160 : decode cX11_reads 160 = .ok (.getfield 33, 3) := by decide +kernel
theorem dX11_reads_163 : decode cX11_reads 163 = .ok (.iload_n 1, 1) := by decide +kernel
theorem dX11_reads_164 : decode cX11_reads 164 = .ok (.iaload, 1) := by decide +kernel
theorem dX11_reads_165 : decode cX11_reads 165 = .ok (.iconst 1, 1) := by decide +kernel
theorem dX11_reads_166 : decode cX11_reads 166 = .ok (.isub, 1) := by decide +kernel
theorem dX11_reads_167 : decode cX11_reads 167 = .ok (.invokevirtual 145, 3) := by decide +kernel
theorem dX11_reads_170 : decode cX11_reads 170 = .ok (.if_icmp .ne 7, 3) := by decide +kernel
theorem dX11_reads_173 : decode cX11_reads 173 = .ok (.iconst 0, 1) := by decide +kernel
theorem dX11_reads_174 : decode cX11_reads 174 = .ok (.goto 4, 3) := by decide +kernel
theorem dX11_reads_177 : decode cX11_reads 177 = .ok (.iconst 1, 1) := by decide +kernel
theorem dX11_reads_178 : decode cX11_reads 178 = .ok (.iadd, 1) := by decide +kernel
theorem dX11_reads_179 : decode cX11_reads 179 = .ok (.putfield 142, 3) := by decide +kernel
theorem dX11_reads_182 : decode cX11_reads 182 = .ok (.iload_n 3, 1) := by decide +kernel
theorem dX11_reads_183 : decode cX11_reads 183 = .ok (.iload 4, 2) := by decide +kernel
theorem dX11_reads_185 : decode cX11_reads 185 = .ok (.ifCond .eq 7, 3) := by decide +kernel
theorem dX11_reads_188 : decode cX11_reads 188 = .ok (.iconst 1, 1) := by decide +kernel
theorem dX11_reads_189 : decode cX11_reads 189 = .ok (.goto 4, 3) := by decide +kernel
theorem dX11_reads_192 : decode cX11_reads 192 = .ok (.iconst 0, 1) := by decide +kernel
theorem dX11_reads_193 : decode cX11_reads 193 = .ok (.isub, 1) := by decide +kernel
theorem dX11_reads_194 : decode cX11_reads 194 = .ok (.istore_n 3, 1) := by decide +kernel
theorem dX11_reads_195 : decode cX11_reads 195 = .ok (.aload_n 0, 1) := by decide +kernel
theorem dX11_reads_196 : decode cX11_reads 196 = .ok (.getfield 17, 3) := by decide +kernel
theorem dX11_reads_199 : decode cX11_reads 199 = .ok (.iload_n 2, 1) := by decide +kernel
theorem dX11_reads_200 : decode cX11_reads 200 = .ok (.iaload, 1) := by decide +kernel
theorem dX11_reads_201 : decode cX11_reads 201 = .ok (.istore 4, 2) := by decide +kernel
theorem dX11_reads_203 : decode cX11_reads 203 = .ok (.iload 4, 2) := by decide +kernel
theorem dX11_reads_205 : decode cX11_reads 205 = .ok (.iload_n 3, 1) := by decide +kernel
theorem dX11_reads_206 : decode cX11_reads 206 = .ok (.if_icmp .ge 182, 3) := by decide +kernel
theorem dX11_reads_209 : decode cX11_reads 209 = .ok (.aload_n 0, 1) := by decide +kernel
theorem dX11_reads_210 : decode cX11_reads 210 = .ok (.iload_n 1, 1) := by decide +kernel
theorem dX11_reads_211 : decode cX11_reads 211 = .ok (.iload 4, 2) := by decide +kernel
theorem dX11_reads_213 : decode cX11_reads 213 = .ok (.invokevirtual 145, 3) := by decide +kernel
theorem dX11_reads_216 : decode cX11_reads 216 = .ok (.istore 5, 2) := by decide +kernel
theorem dX11_reads_218 : decode cX11_reads 218 = .ok (.iload 4, 2) := by decide +kernel
theorem dX11_reads_220 : decode cX11_reads 220 = .ok (.iconst 1, 1) := by decide +kernel
theorem dX11_reads_221 : decode cX11_reads 221 = .ok (.iadd, 1) := by decide +kernel
theorem dX11_reads_222 : decode cX11_reads 222 = .ok (.iload_n 3, 1) := by decide +kernel
theorem dX11_reads_223 : decode cX11_reads 223 = .ok (.if_icmp .ge 15, 3) := by decide +kernel
theorem dX11_reads_226 : decode cX11_reads 226 = .ok (.aload_n 0, 1) := by decide +kernel
theorem dX11_reads_227 : decode cX11_reads 227 = .ok (.iload_n 1, 1) := by decide +kernel
theorem dX11_reads_228 : decode cX11_reads 228 = .ok (.iload 4, 2) := by decide +kernel
theorem dX11_reads_230 : decode cX11_reads 230 = .ok (.iconst 1, 1) := by decide +kernel
theorem dX11_reads_231 : decode cX11_reads 231 = .ok (.iadd, 1) := by decide +kernel
theorem dX11_reads_232 : decode cX11_reads 232 = .ok (.invokevirtual 145, 3) := by decide +kernel
theorem dX11_reads_235 : decode cX11_reads 235 = .ok (.goto 5, 3) := by decide +kernel
theorem dX11_reads_238 : decode cX11_reads 238 = .ok (.bipush 60, 2) := by decide +kernel
theorem dX11_reads_240 : decode cX11_reads 240 = .ok (.istore 6, 2) := by decide +kernel
theorem dX11_reads_242 : decode cX11_reads 242 = .ok (.iload 4, 2) := by decide +kernel
theorem dX11_reads_244 : decode cX11_reads 244 = .ok (.iconst 2, 1) := by decide +kernel
theorem dX11_reads_245 : decode cX11_reads 245 = .ok (.iadd, 1) := by decide +kernel
theorem dX11_reads_246 : decode cX11_reads 246 = .ok (.iload 6, 2) := by decide +kernel
theorem dX11_reads_248 : decode cX11_reads 248 = .ok (.iadd, 1) := by decide +kernel
theorem dX11_reads_249 : decode cX11_reads 249 = .ok (.iload_n 3, 1) := by decide +kernel
theorem dX11_reads_250 : decode cX11_reads 250 = .ok (.if_icmp .le 7, 3) := by decide +kernel
theorem dX11_reads_253 : decode cX11_reads 253 = .ok (.iconst 1, 1) := by decide +kernel
theorem dX11_reads_254 : decode cX11_reads 254 = .ok (.goto 4, 3) := by decide +kernel
theorem dX11_reads_257 : decode cX11_reads 257 = .ok (.iconst 0, 1) := by decide +kernel
theorem dX11_reads_258 : decode cX11_reads 258 = .ok (.istore 7, 2) := by decide +kernel
theorem dX11_reads_260 : decode cX11_reads 260 = .ok (.iload 5, 2) := by decide +kernel
theorem dX11_reads_262 : decode cX11_reads 262 = .ok (.bipush 12, 2) := by decide +kernel
theorem dX11_reads_264 : decode cX11_reads 264 = .ok (.if_icmp .ge 21, 3) := by decide +kernel
theorem dX11_reads_267 : decode cX11_reads 267 = .ok (.aload_n 0, 1) := by decide +kernel
theorem dX11_reads_268 : decode cX11_reads 268 = .ok (.getfield 20, 3) := by decide +kernel
theorem dX11_reads_271 : decode cX11_reads 271 = .ok (.iload_n 2, 1) := by decide +kernel
theorem dX11_reads_272 : decode cX11_reads 272 = .ok (.iaload, 1) := by decide +kernel
theorem dX11_reads_273 : decode cX11_reads 273 = .ok (.iload 5, 2) := by decide +kernel
theorem dX11_reads_275 : decode cX11_reads 275 = .ok (.invokestatic 149, 3) := by decide +kernel
theorem dX11_reads_278 : decode cX11_reads 278 = .ok (.ifCond .eq 7, 3) := by decide +kernel
theorem dX11_reads_281 : decode cX11_reads 281 = .ok (.iconst 1, 1) := by decide +kernel
theorem dX11_reads_282 : decode cX11_reads 282 = .ok (.goto 4, 3) := by decide +kernel
theorem dX11_reads_285 : decode cX11_reads 285 = .ok (.iconst 0, 1) := by decide +kernel
theorem dX11_reads_286 : decode cX11_reads 286 = .ok (.istore 8, 2) := by decide +kernel
theorem dX11_reads_288 : decode cX11_reads 288 = .ok (.aload_n 0, 1) := by decide +kernel
theorem dX11_reads_289 : decode cX11_reads 289 = .ok (.dup, 1) := by decide +kernel
theorem dX11_reads_290 : decode cX11_reads 290 = .ok (.getfield 142, 3) := by decide +kernel
theorem dX11_reads_293 : decode cX11_reads 293 = .ok (.iload 8, 2) := by decide +kernel
theorem dX11_reads_295 : decode cX11_reads 295 = .ok (.ifCond .eq 12, 3) := by decide +kernel
theorem dX11_reads_298 : decode cX11_reads 298 = .ok (.iload 7, 2) := by decide +kernel
theorem dX11_reads_300 : decode cX11_reads 300 = .ok (.ifCond .ne 7, 3) := by decide +kernel
theorem dX11_reads_303 : decode cX11_reads 303 = .ok (.iconst 0, 1) := by decide +kernel
theorem dX11_reads_304 : decode cX11_reads 304 = .ok (.goto 4, 3) := by decide +kernel
theorem dX11_reads_307 : decode cX11_reads 307 = .ok (.iconst 1, 1) := by decide +kernel
theorem dX11_reads_308 : decode cX11_reads 308 = .ok (.iadd, 1) := by decide +kernel
theorem dX11_reads_309 : decode cX11_reads 309 = .ok (.putfield 142, 3) := by decide +kernel
theorem dX11_reads_312 : decode cX11_reads 312 = .ok (.iload 8, 2) := by decide +kernel
theorem dX11_reads_314 : decode cX11_reads 314 = .ok (.ifCond .eq 53, 3) := by decide +kernel
theorem dX11_reads_317 : decode cX11_reads 317 = .ok (.iload 7, 2) := by decide +kernel
theorem dX11_reads_319 : decode cX11_reads 319 = .ok (.ifCond .ne 48, 3) := by decide +kernel
theorem dX11_reads_322 : decode cX11_reads 322 = .ok (.aload_n 0, 1) := by decide +kernel
theorem dX11_reads_323 : decode cX11_reads 323 = .ok (.getfield 69, 3) := by decide +kernel
theorem dX11_reads_326 : decode cX11_reads 326 = .ok (.aload_n 0, 1) := by decide +kernel
theorem dX11_reads_327 : decode cX11_reads 327 = .ok (.getfield 139, 3) := by decide +kernel
theorem dX11_reads_330 : decode cX11_reads 330 = .ok (.iload 5, 2) := by decide +kernel
theorem dX11_reads_332 : decode cX11_reads 332 = .ok (.iastore, 1) := by decide +kernel
theorem dX11_reads_333 : decode cX11_reads 333 = .ok (.aload_n 0, 1) := by decide +kernel
theorem dX11_reads_334 : decode cX11_reads 334 = .ok (.getfield 72, 3) := by decide +kernel
theorem dX11_reads_337 : decode cX11_reads 337 = .ok (.aload_n 0, 1) := by decide +kernel
theorem dX11_reads_338 : decode cX11_reads 338 = .ok (.getfield 139, 3) := by decide +kernel
theorem dX11_reads_341 : decode cX11_reads 341 = .ok (.iload 4, 2) := by decide +kernel
theorem dX11_reads_343 : decode cX11_reads 343 = .ok (.iconst 2, 1) := by decide +kernel
theorem dX11_reads_344 : decode cX11_reads 344 = .ok (.iadd, 1) := by decide +kernel
theorem dX11_reads_345 : decode cX11_reads 345 = .ok (.iastore, 1) := by decide +kernel
theorem dX11_reads_346 : decode cX11_reads 346 = .ok (.aload_n 0, 1) := by decide +kernel
theorem dX11_reads_347 : decode cX11_reads 347 = .ok (.getfield 75, 3) := by decide +kernel
theorem dX11_reads_350 : decode cX11_reads 350 = .ok (.aload_n 0, 1) := by decide +kernel
theorem dX11_reads_351 : decode cX11_reads 351 = .ok (.getfield 139, 3) := by decide +kernel
theorem dX11_reads_354 : decode cX11_reads 354 = .ok (.iload 6, 2) := by decide +kernel
theorem dX11_reads_356 : decode cX11_reads 356 = .ok (.iastore, 1) := by decide +kernel
theorem dX11_reads_357 : decode cX11_reads 357 = .ok (.aload_n 0, 1) := by decide +kernel
theorem dX11_reads_358 : decode cX11_reads 358 = .ok (.dup, 1) := by decide +kernel
theorem dX11_reads_359 : decode cX11_reads 359 = .ok (.getfield 139, 3) := by decide +kernel
theorem dX11_reads_362 : decode cX11_reads 362 = .ok (.iconst 1, 1) := by decide +kernel
theorem dX11_reads_363 : decode cX11_reads 363 = .ok (.iadd, 1) := by decide +kernel
theorem dX11_reads_364 : decode cX11_reads 364 = .ok (.putfield 139, 3) := by decide +kernel
theorem dX11_reads_367 : decode cX11_reads 367 = .ok (.iload 7, 2) := by decide +kernel
theorem dX11_reads_369 : decode cX11_reads 369 = .ok (.ifCond .eq 7, 3) := by decide +kernel
theorem dX11_reads_372 : decode cX11_reads 372 = .ok (.iload_n 3, 1) := by decide +kernel
theorem dX11_reads_373 : decode cX11_reads 373 = .ok (.goto 10, 3) := by decide +kernel
theorem dX11_reads_376 : decode cX11_reads 376 = .ok (.iload 4, 2) := by decide +kernel
theorem dX11_reads_378 : decode cX11_reads 378 = .ok (.iconst 2, 1) := by decide +kernel
theorem dX11_reads_379 : decode cX11_reads 379 = .ok (.iadd, 1) := by decide +kernel
theorem dX11_reads_380 : decode cX11_reads 380 = .ok (.iload 6, 2) := by decide +kernel
theorem dX11_reads_382 : decode cX11_reads 382 = .ok (.iadd, 1) := by decide +kernel
theorem dX11_reads_383 : decode cX11_reads 383 = .ok (.istore 4, 2) := by decide +kernel
theorem dX11_reads_385 : decode cX11_reads 385 = .ok (.goto (-182), 3) := by decide +kernel
theorem dX11_reads_388 : decode cX11_reads 388 = .ok (.iconst 1, 1) := by decide +kernel
theorem dX11_reads_389 : decode cX11_reads 389 = .ok (.ireturn, 1) := by decide +kernel
theorem dX11_bends_0 : decode cX11_bends 0 = .ok (.aload_n 0, 1) := by decide +kernel
theorem dX11_bends_1 : decode cX11_bends 1 = .ok (.iload_n 1, 1) := by decide +kernel
theorem dX11_bends_2 : decode cX11_bends 2 = .ok (.invokevirtual 120, 3) := by decide +kernel
theorem dX11_bends_5 : decode cX11_bends 5 = .ok (.ifCond .eq 11, 3) := by decide +kernel
theorem dX11_bends_8 : decode cX11_bends 8 = .ok (.aload_n 0, 1) := by decide +kernel
theorem dX11_bends_9 : decode cX11_bends 9 = .ok (.iload_n 2, 1) := by decide +kernel
theorem dX11_bends_10 : decode cX11_bends 10 = .ok (.invokevirtual 127, 3) := by decide +kernel
theorem dX11_bends_13 : decode cX11_bends 13 = .ok (.ifCond .ne 5, 3) := by decide +kernel
theorem dX11_bends_16 : decode cX11_bends 16 = .ok (.iconst (-1), 1) := by decide +kernel
theorem dX11_bends_17 : decode cX11_bends 17 = .ok (.ireturn, 1) := by decide +kernel
theorem dX11_bends_18 : decode cX11_bends 18 = .ok (.aload_n 0, 1) := by decide +kernel
theorem dX11_bends_19 : decode cX11_bends 19 = .ok (.iload_n 1, 1) := by decide +kernel
theorem dX11_bends_20 : decode cX11_bends 20 = .ok (.iload_n 2, 1) := by decide +kernel
theorem dX11_bends_21 : decode cX11_bends 21 = .ok (.invokevirtual 153, 3) := by decide +kernel
theorem dX11_bends_24 : decode cX11_bends 24 = .ok (.ifCond .eq 10, 3) := by decide +kernel
theorem dX11_bends_27 : decode cX11_bends 27 = .ok (.aload_n 0, 1) := by decide +kernel
theorem dX11_bends_28 : decode cX11_bends 28 = .ok (.getfield 142, 3) := by decide +kernel
theorem dX11_bends_31 : decode cX11_bends 31 = .ok (.goto 5, 3) := by decide +kernel
theorem dX11_bends_34 : decode cX11_bends 34 = .ok (.bipush (-2), 2) := by decide +kernel
theorem dX11_bends_36 : decode cX11_bends 36 = .ok (.ireturn, 1) := by decide +kernel
theorem dX11_knows_0 : decode cX11_knows 0 = .ok (.iconst (-1), 1) := by decide +kernel
theorem dX11_knows_1 : decode cX11_knows 1 = .ok (.istore_n 2, 1) := by decide +kernel
theorem dX11_knows_2 : decode cX11_knows 2 = .ok (.iconst 0, 1) := by decide +kernel
theorem dX11_knows_3 : decode cX11_knows 3 = .ok (.istore_n 3, 1) := by decide +kernel
theorem dX11_knows_4 : decode cX11_knows 4 = .ok (.iconst 0, 1) := by decide +kernel
theorem dX11_knows_5 : decode cX11_knows 5 = .ok (.istore 4, 2) := by decide +kernel
theorem dX11_knows_7 : decode cX11_knows 7 = .ok (.iload 4, 2) := by decide +kernel
theorem dX11_knows_9 : decode cX11_knows 9 = .ok (.aload_n 0, 1) := by decide +kernel
theorem dX11_knows_10 : decode cX11_knows 10 = .ok (.getfield 114, 3) := by decide +kernel
theorem dX11_knows_13 : decode cX11_knows 13 = .ok (.if_icmp .ge 57, 3) := by decide +kernel
theorem dX11_knows_16 : decode cX11_knows 16 = .ok (.aload_n 0, 1) := by decide +kernel
theorem dX11_knows_17 : decode cX11_knows 17 = .ok (.iload_n 1, 1) := by decide +kernel
theorem dX11_knows_18 : decode cX11_knows 18 = .ok (.iload 4, 2) := by decide +kernel
theorem dX11_knows_20 : decode cX11_knows 20 = .ok (.invokevirtual 153, 3) := by decide +kernel
theorem dX11_knows_23 : decode cX11_knows 23 = .ok (.ifCond .eq 41, 3) := by decide +kernel
theorem dX11_knows_26 : decode cX11_knows 26 = .ok (.aload_n 0, 1) := by decide +kernel
theorem dX11_knows_27 : decode cX11_knows 27 = .ok (.getfield 142, 3) := by decide +kernel
theorem dX11_knows_30 : decode cX11_knows 30 = .ok (.aload_n 0, 1) := by decide +kernel
theorem dX11_knows_31 : decode cX11_knows 31 = .ok (.getfield 27, 3) := by decide +kernel
theorem dX11_knows_34 : decode cX11_knows 34 = .ok (.iload 4, 2) := by decide +kernel
theorem dX11_knows_36 : decode cX11_knows 36 = .ok (.iaload, 1) := by decide +kernel
theorem dX11_knows_37 : decode cX11_knows 37 = .ok (.if_icmp .gt 27, 3) := by decide +kernel
theorem dX11_knows_40 : decode cX11_knows 40 = .ok (.iload_n 2, 1) := by decide +kernel
theorem dX11_knows_41 : decode cX11_knows 41 = .ok (.iconst (-1), 1) := by decide +kernel
theorem dX11_knows_42 : decode cX11_knows 42 = .ok (.if_icmp .eq 14, 3) := by decide +kernel
theorem dX11_knows_45 : decode cX11_knows 45 = .ok (.aload_n 0, 1) := by decide +kernel
theorem dX11_knows_46 : decode cX11_knows 46 = .ok (.getfield 142, 3) := by decide +kernel
theorem dX11_knows_49 : decode cX11_knows 49 = .ok (.iload_n 3, 1) := by decide +kernel
theorem dX11_knows_50 : decode cX11_knows 50 = .ok (.if_icmp .lt 6, 3) := by decide +kernel
theorem dX11_knows_53 : decode cX11_knows 53 = .ok (.goto 11, 3) := by decide +kernel
theorem dX11_knows_56 : decode cX11_knows 56 = .ok (.iload 4, 2) := by decide +kernel
theorem dX11_knows_58 : decode cX11_knows 58 = .ok (.istore_n 2, 1) := by decide +kernel
theorem dX11_knows_59 : decode cX11_knows 59 = .ok (.aload_n 0, 1) := by decide +kernel
theorem dX11_knows_60 : decode cX11_knows 60 = .ok (.getfield 142, 3) := by decide +kernel
theorem dX11_knows_63 : decode cX11_knows 63 = .ok (.istore_n 3, 1) := by decide +kernel
theorem dX11_knows_64 : decode cX11_knows 64 = .ok (.iinc 4 1, 3) := by decide +kernel
theorem dX11_knows_67 : decode cX11_knows 67 = .ok (.goto (-60), 3) := by decide +kernel
theorem dX11_knows_70 : decode cX11_knows 70 = .ok (.iload_n 2, 1) := by decide +kernel
theorem dX11_knows_71 : decode cX11_knows 71 = .ok (.iconst (-1), 1) := by decide +kernel
theorem dX11_knows_72 : decode cX11_knows 72 = .ok (.if_icmp .ne 11, 3) := by decide +kernel
theorem dX11_knows_75 : decode cX11_knows 75 = .ok (.aload_n 0, 1) := by decide +kernel
theorem dX11_knows_76 : decode cX11_knows 76 = .ok (.iconst 0, 1) := by decide +kernel
theorem dX11_knows_77 : decode cX11_knows 77 = .ok (.putfield 139, 3) := by decide +kernel
theorem dX11_knows_80 : decode cX11_knows 80 = .ok (.goto 11, 3) := by decide +kernel
theorem dX11_knows_83 : decode cX11_knows 83 = .ok (.aload_n 0, 1) := by decide +kernel
theorem dX11_knows_84 : decode cX11_knows 84 = .ok (.iload_n 1, 1) := by decide +kernel
theorem dX11_knows_85 : decode cX11_knows 85 = .ok (.iload_n 2, 1) := by decide +kernel
theorem dX11_knows_86 : decode cX11_knows 86 = .ok (.invokevirtual 153, 3) := by decide +kernel
theorem dX11_knows_89 : decode cX11_knows 89 = .ok (.istore 4, 2) := by decide +kernel
theorem dX11_knows_91 : decode cX11_knows 91 = .ok (.iload_n 2, 1) := by decide +kernel
theorem dX11_knows_92 : decode cX11_knows 92 = .ok (.ireturn, 1) := by decide +kernel
theorem dX11_know_0 : decode cX11_know 0 = .ok (.aload_n 0, 1) := by decide +kernel
theorem dX11_know_1 : decode cX11_know 1 = .ok (.iload_n 1, 1) := by decide +kernel
theorem dX11_know_2 : decode cX11_know 2 = .ok (.invokevirtual 120, 3) := by decide +kernel
theorem dX11_know_5 : decode cX11_know 5 = .ok (.ifCond .eq 11, 3) := by decide +kernel
theorem dX11_know_8 : decode cX11_know 8 = .ok (.aload_n 0, 1) := by decide +kernel
theorem dX11_know_9 : decode cX11_know 9 = .ok (.iload_n 1, 1) := by decide +kernel
theorem dX11_know_10 : decode cX11_know 10 = .ok (.invokevirtual 156, 3) := by decide +kernel
theorem dX11_know_13 : decode cX11_know 13 = .ok (.goto 4, 3) := by decide +kernel
theorem dX11_know_16 : decode cX11_know 16 = .ok (.iconst (-1), 1) := by decide +kernel
theorem dX11_know_17 : decode cX11_know 17 = .ok (.ireturn, 1) := by decide +kernel
theorem dX11_record_0 : decode cX11_record 0 = .ok (.aload_n 0, 1) := by decide +kernel
theorem dX11_record_1 : decode cX11_record 1 = .ok (.iload_n 1, 1) := by decide +kernel
theorem dX11_record_2 : decode cX11_record 2 = .ok (.invokevirtual 120, 3) := by decide +kernel
theorem dX11_record_5 : decode cX11_record 5 = .ok (.ifCond .eq 26, 3) := by decide +kernel
theorem dX11_record_8 : decode cX11_record 8 = .ok (.aload_n 0, 1) := by decide +kernel
theorem dX11_record_9 : decode cX11_record 9 = .ok (.iload_n 1, 1) := by decide +kernel
theorem dX11_record_10 : decode cX11_record 10 = .ok (.invokevirtual 156, 3) := by decide +kernel
theorem dX11_record_13 : decode cX11_record 13 = .ok (.iconst (-1), 1) := by decide +kernel
theorem dX11_record_14 : decode cX11_record 14 = .ok (.if_icmp .eq 17, 3) := by decide +kernel
theorem dX11_record_17 : decode cX11_record 17 = .ok (.iload_n 2, 1) := by decide +kernel
theorem dX11_record_18 : decode cX11_record 18 = .ok (.iconst 0, 1) := by decide +kernel
theorem dX11_record_19 : decode cX11_record 19 = .ok (.aload_n 0, 1) := by decide +kernel
theorem dX11_record_20 : decode cX11_record 20 = .ok (.getfield 139, 3) := by decide +kernel
theorem dX11_record_23 : decode cX11_record 23 = .ok (.iconst 1, 1) := by decide +kernel
theorem dX11_record_24 : decode cX11_record 24 = .ok (.isub, 1) := by decide +kernel
theorem dX11_record_25 : decode cX11_record 25 = .ok (.invokestatic 110, 3) := by decide +kernel
theorem dX11_record_28 : decode cX11_record 28 = .ok (.ifCond .ne 5, 3) := by decide +kernel
theorem dX11_record_31 : decode cX11_record 31 = .ok (.iconst (-1), 1) := by decide +kernel
theorem dX11_record_32 : decode cX11_record 32 = .ok (.ireturn, 1) := by decide +kernel
theorem dX11_record_33 : decode cX11_record 33 = .ok (.iload_n 3, 1) := by decide +kernel
theorem dX11_record_34 : decode cX11_record 34 = .ok (.ifCond .ne 12, 3) := by decide +kernel
theorem dX11_record_37 : decode cX11_record 37 = .ok (.aload_n 0, 1) := by decide +kernel
theorem dX11_record_38 : decode cX11_record 38 = .ok (.getfield 69, 3) := by decide +kernel
theorem dX11_record_41 : decode cX11_record 41 = .ok (.iload_n 2, 1) := by decide +kernel
theorem dX11_record_42 : decode cX11_record 42 = .ok (.iaload, 1) := by decide +kernel
theorem dX11_record_43 : decode cX11_record 43 = .ok (.goto 32, 3) := by decide +kernel
theorem dX11_record_46 : decode cX11_record 46 = .ok (.iload_n 3, 1) := by decide +kernel
theorem dX11_record_47 : decode cX11_record 47 = .ok (.iconst 1, 1) := by decide +kernel
theorem dX11_record_48 : decode cX11_record 48 = .ok (.if_icmp .ne 12, 3) := by decide +kernel
theorem dX11_record_51 : decode cX11_record 51 = .ok (.aload_n 0, 1) := by decide +kernel
theorem dX11_record_52 : decode cX11_record 52 = .ok (.getfield 75, 3) := by decide +kernel
theorem dX11_record_55 : decode cX11_record 55 = .ok (.iload_n 2, 1) := by decide +kernel
theorem dX11_record_56 : decode cX11_record 56 = .ok (.iaload, 1) := by decide +kernel
theorem dX11_record_57 : decode cX11_record 57 = .ok (.goto 18, 3) := by decide +kernel
theorem dX11_record_60 : decode cX11_record 60 = .ok (.iload_n 3, 1) := by decide +kernel
theorem dX11_record_61 : decode cX11_record 61 = .ok (.iconst 2, 1) := by decide +kernel
theorem dX11_record_62 : decode cX11_record 62 = .ok (.if_icmp .ne 12, 3) := by decide +kernel
theorem dX11_record_65 : decode cX11_record 65 = .ok (.aload_n 0, 1) := by decide +kernel
theorem dX11_record_66 : decode cX11_record 66 = .ok (.getfield 72, 3) := by decide +kernel
theorem dX11_record_69 : decode cX11_record 69 = .ok (.iload_n 2, 1) := by decide +kernel
theorem dX11_record_70 : decode cX11_record 70 = .ok (.iaload, 1) := by decide +kernel
theorem dX11_record_71 : decode cX11_record 71 = .ok (.goto 4, 3) := by decide +kernel
theorem dX11_record_74 : decode cX11_record 74 = .ok (.iconst (-1), 1) := by decide +kernel
theorem dX11_record_75 : decode cX11_record 75 = .ok (.ireturn, 1) := by decide +kernel
theorem dX11_properties_0 : decode cX11_properties 0 = .ok (.aload_n 0, 1) := by decide +kernel
theorem dX11_properties_1 : decode cX11_properties 1 = .ok (.iload_n 1, 1) := by decide +kernel
theorem dX11_properties_2 : decode cX11_properties 2 = .ok (.invokevirtual 156, 3) := by decide +kernel
theorem dX11_properties_5 : decode cX11_properties 5 = .ok (.istore_n 2, 1) := by decide +kernel
theorem dX11_properties_6 : decode cX11_properties 6 = .ok (.iconst 0, 1) := by decide +kernel
theorem dX11_properties_7 : decode cX11_properties 7 = .ok (.istore_n 3, 1) := by decide +kernel
theorem dX11_properties_8 : decode cX11_properties 8 = .ok (.iconst 0, 1) := by decide +kernel
theorem dX11_properties_9 : decode cX11_properties 9 = .ok (.istore 4, 2) := by decide +kernel
theorem dX11_properties_11 : decode cX11_properties 11 = .ok (.iload 4, 2) := by decide +kernel
theorem dX11_properties_13 : decode cX11_properties 13 = .ok (.aload_n 0, 1) := by decide +kernel
theorem dX11_properties_14 : decode cX11_properties 14 = .ok (.getfield 139, 3) := by decide +kernel
theorem dX11_properties_17 : decode cX11_properties 17 = .ok (.if_icmp .ge 21, 3) := by decide +kernel
theorem dX11_properties_20 : decode cX11_properties 20 = .ok (.iload_n 3, 1) := by decide +kernel
theorem dX11_properties_21 : decode cX11_properties 21 = .ok (.iconst 1, 1) := by decide +kernel
theorem dX11_properties_22 : decode cX11_properties 22 = .ok (.aload_n 0, 1) := by decide +kernel
theorem dX11_properties_23 : decode cX11_properties 23 = .ok (.getfield 69, 3) := by decide +kernel
theorem dX11_properties_26 : decode cX11_properties 26 = .ok (.iload 4, 2) := by decide +kernel
theorem dX11_properties_28 : decode cX11_properties 28 = .ok (.iaload, 1) := by decide +kernel
theorem dX11_properties_29 : decode cX11_properties 29 = .ok (.ishl, 1) := by decide +kernel
theorem dX11_properties_30 : decode cX11_properties 30 = .ok (.ior, 1) := by decide +kernel
theorem dX11_properties_31 : decode cX11_properties 31 = .ok (.istore_n 3, 1) := by decide +kernel
theorem dX11_properties_32 : decode cX11_properties 32 = .ok (.iinc 4 1, 3) := by decide +kernel
theorem dX11_properties_35 : decode cX11_properties 35 = .ok (.goto (-24), 3) := by decide +kernel
theorem dX11_properties_38 : decode cX11_properties 38 = .ok (.iload_n 2, 1) := by decide +kernel
theorem dX11_properties_39 : decode cX11_properties 39 = .ok (.iconst (-1), 1) := by decide +kernel
theorem dX11_properties_40 : decode cX11_properties 40 = .ok (.if_icmp .ne 7, 3) := by decide +kernel
theorem dX11_properties_43 : decode cX11_properties 43 = .ok (.iconst 0, 1) := by decide +kernel
theorem dX11_properties_44 : decode cX11_properties 44 = .ok (.goto 4, 3) := by decide +kernel
theorem dX11_properties_47 : decode cX11_properties 47 = .ok (.iload_n 3, 1) := by decide +kernel
theorem dX11_properties_48 : decode cX11_properties 48 = .ok (.ireturn, 1) := by decide +kernel
theorem dX11_turn_0 : decode cX11_turn 0 = .ok (.aload_n 0, 1) := by decide +kernel
theorem dX11_turn_1 : decode cX11_turn 1 = .ok (.iload_n 1, 1) := by decide +kernel
theorem dX11_turn_2 : decode cX11_turn 2 = .ok (.invokevirtual 120, 3) := by decide +kernel
theorem dX11_turn_5 : decode cX11_turn 5 = .ok (.ifCond .eq 58, 3) := by decide +kernel
theorem dX11_turn_8 : decode cX11_turn 8 = .ok (.iload_n 2, 1) := by decide +kernel
theorem dX11_turn_9 : decode cX11_turn 9 = .ok (.iconst 0, 1) := by decide +kernel
theorem dX11_turn_10 : decode cX11_turn 10 = .ok (.aload_n 0, 1) := by decide +kernel
theorem dX11_turn_11 : decode cX11_turn 11 = .ok (.getfield 133, 3) := by decide +kernel
theorem dX11_turn_14 : decode cX11_turn 14 = .ok (.iconst 1, 1) := by decide +kernel
theorem dX11_turn_15 : decode cX11_turn 15 = .ok (.isub, 1) := by decide +kernel
theorem dX11_turn_16 : decode cX11_turn 16 = .ok (.invokestatic 110, 3) := by decide +kernel
theorem dX11_turn_19 : decode cX11_turn 19 = .ok (.ifCond .eq 44, 3) := by decide +kernel
theorem dX11_turn_22 : decode cX11_turn 22 = .ok (.aload_n 0, 1) := by decide +kernel
theorem dX11_turn_23 : decode cX11_turn 23 = .ok (.iload_n 1, 1) := by decide +kernel
theorem dX11_turn_24 : decode cX11_turn 24 = .ok (.invokevirtual 156, 3) := by decide +kernel
theorem dX11_turn_27 : decode cX11_turn 27 = .ok (.aload_n 0, 1) := by decide +kernel
theorem dX11_turn_28 : decode cX11_turn 28 = .ok (.getfield 54, 3) := by decide +kernel
theorem dX11_turn_31 : decode cX11_turn 31 = .ok (.iload_n 2, 1) := by decide +kernel
theorem dX11_turn_32 : decode cX11_turn 32 = .ok (.iaload, 1) := by decide +kernel
theorem dX11_turn_33 : decode cX11_turn 33 = .ok (.if_icmp .ne 30, 3) := by decide +kernel
theorem dX11_turn_36 : decode cX11_turn 36 = .ok (.aload_n 0, 1) := by decide +kernel
theorem dX11_turn_37 : decode cX11_turn 37 = .ok (.getfield 42, 3) := by decide +kernel
theorem dX11_turn_40 : decode cX11_turn 40 = .ok (.aload_n 0, 1) := by decide +kernel
theorem dX11_turn_41 : decode cX11_turn 41 = .ok (.getfield 66, 3) := by decide +kernel
theorem dX11_turn_44 : decode cX11_turn 44 = .ok (.iload_n 2, 1) := by decide +kernel
theorem dX11_turn_45 : decode cX11_turn 45 = .ok (.iaload, 1) := by decide +kernel
theorem dX11_turn_46 : decode cX11_turn 46 = .ok (.iaload, 1) := by decide +kernel
theorem dX11_turn_47 : decode cX11_turn 47 = .ok (.aload_n 0, 1) := by decide +kernel
theorem dX11_turn_48 : decode cX11_turn 48 = .ok (.getfield 136, 3) := by decide +kernel
theorem dX11_turn_51 : decode cX11_turn 51 = .ok (.if_icmp .lt 12, 3) := by decide +kernel
theorem dX11_turn_54 : decode cX11_turn 54 = .ok (.aload_n 0, 1) := by decide +kernel
theorem dX11_turn_55 : decode cX11_turn 55 = .ok (.getfield 117, 3) := by decide +kernel
theorem dX11_turn_58 : decode cX11_turn 58 = .ok (.bipush 40, 2) := by decide +kernel
theorem dX11_turn_60 : decode cX11_turn 60 = .ok (.if_icmp .ne 5, 3) := by decide +kernel
theorem dX11_turn_63 : decode cX11_turn 63 = .ok (.iconst (-1), 1) := by decide +kernel
theorem dX11_turn_64 : decode cX11_turn 64 = .ok (.ireturn, 1) := by decide +kernel
theorem dX11_turn_65 : decode cX11_turn 65 = .ok (.aload_n 0, 1) := by decide +kernel
theorem dX11_turn_66 : decode cX11_turn 66 = .ok (.getfield 57, 3) := by decide +kernel
theorem dX11_turn_69 : decode cX11_turn 69 = .ok (.iload_n 2, 1) := by decide +kernel
theorem dX11_turn_70 : decode cX11_turn 70 = .ok (.iaload, 1) := by decide +kernel
theorem dX11_turn_71 : decode cX11_turn 71 = .ok (.istore_n 3, 1) := by decide +kernel
theorem dX11_turn_72 : decode cX11_turn 72 = .ok (.aload_n 0, 1) := by decide +kernel
theorem dX11_turn_73 : decode cX11_turn 73 = .ok (.getfield 17, 3) := by decide +kernel
theorem dX11_turn_76 : decode cX11_turn 76 = .ok (.iload_n 3, 1) := by decide +kernel
theorem dX11_turn_77 : decode cX11_turn 77 = .ok (.iaload, 1) := by decide +kernel
theorem dX11_turn_78 : decode cX11_turn 78 = .ok (.aload_n 0, 1) := by decide +kernel
theorem dX11_turn_79 : decode cX11_turn 79 = .ok (.getfield 23, 3) := by decide +kernel
theorem dX11_turn_82 : decode cX11_turn 82 = .ok (.iload_n 3, 1) := by decide +kernel
theorem dX11_turn_83 : decode cX11_turn 83 = .ok (.baload, 1) := by decide +kernel
theorem dX11_turn_84 : decode cX11_turn 84 = .ok (.ifCond .eq 7, 3) := by decide +kernel
theorem dX11_turn_87 : decode cX11_turn 87 = .ok (.iconst 1, 1) := by decide +kernel
theorem dX11_turn_88 : decode cX11_turn 88 = .ok (.goto 4, 3) := by decide +kernel
theorem dX11_turn_91 : decode cX11_turn 91 = .ok (.iconst 0, 1) := by decide +kernel
theorem dX11_turn_92 : decode cX11_turn 92 = .ok (.iadd, 1) := by decide +kernel
theorem dX11_turn_93 : decode cX11_turn 93 = .ok (.istore 4, 2) := by decide +kernel
theorem dX11_turn_95 : decode cX11_turn 95 = .ok (.iconst 0, 1) := by decide +kernel
theorem dX11_turn_96 : decode cX11_turn 96 = .ok (.istore 5, 2) := by decide +kernel
theorem dX11_turn_98 : decode cX11_turn 98 = .ok (.iload 5, 2) := by decide +kernel
theorem dX11_turn_100 : decode cX11_turn 100 = .ok (.aload_n 0, 1) := by decide +kernel
theorem dX11_turn_101 : decode cX11_turn 101 = .ok (.getfield 139, 3) := by decide +kernel
theorem dX11_turn_104 : decode cX11_turn 104 = .ok (.if_icmp .ge 37, 3) := by decide +kernel
theorem dX11_turn_107 : decode cX11_turn 107 = .ok (.iload 4, 2) := by decide +kernel
theorem dX11_turn_109 : decode cX11_turn 109 = .ok (.aload_n 0, 1) := by decide +kernel
theorem dX11_turn_110 : decode cX11_turn 110 = .ok (.iload 5, 2) := by decide +kernel
theorem dX11_turn_112 : decode cX11_turn 112 = .ok (.iload_n 2, 1) := by decide +kernel
theorem dX11_turn_113 : decode cX11_turn 113 = .ok (.invokevirtual 160, 3) := by decide +kernel
theorem dX11_turn_116 : decode cX11_turn 116 = .ok (.ifCond .eq 15, 3) := by decide +kernel
theorem dX11_turn_119 : decode cX11_turn 119 = .ok (.iconst 2, 1) := by decide +kernel
theorem dX11_turn_120 : decode cX11_turn 120 = .ok (.aload_n 0, 1) := by decide +kernel
theorem dX11_turn_121 : decode cX11_turn 121 = .ok (.getfield 75, 3) := by decide +kernel
theorem dX11_turn_124 : decode cX11_turn 124 = .ok (.iload 5, 2) := by decide +kernel
theorem dX11_turn_126 : decode cX11_turn 126 = .ok (.iaload, 1) := by decide +kernel
theorem dX11_turn_127 : decode cX11_turn 127 = .ok (.iadd, 1) := by decide +kernel
theorem dX11_turn_128 : decode cX11_turn 128 = .ok (.goto 4, 3) := by decide +kernel
theorem dX11_turn_131 : decode cX11_turn 131 = .ok (.iconst 0, 1) := by decide +kernel
theorem dX11_turn_132 : decode cX11_turn 132 = .ok (.iadd, 1) := by decide +kernel
theorem dX11_turn_133 : decode cX11_turn 133 = .ok (.istore 4, 2) := by decide +kernel
theorem dX11_turn_135 : decode cX11_turn 135 = .ok (.iinc 5 1, 3) := by decide +kernel
theorem dX11_turn_138 : decode cX11_turn 138 = .ok (.goto (-40), 3) := by decide +kernel
theorem dX11_turn_141 : decode cX11_turn 141 = .ok (.iload 4, 2) := by decide +kernel
theorem dX11_turn_143 : decode cX11_turn 143 = .ok (.bipush 60, 2) := by decide +kernel
theorem dX11_turn_145 : decode cX11_turn 145 = .ok (.if_icmp .le 5, 3) := by decide +kernel
theorem dX11_turn_148 : decode cX11_turn 148 = .ok (.iconst (-1), 1) := by decide +kernel
theorem dX11_turn_149 : decode cX11_turn 149 = .ok (.ireturn, 1) := by decide +kernel
theorem dX11_turn_150 : decode cX11_turn 150 = .ok (.bipush 60, 2) := by decide +kernel
theorem dX11_turn_152 : decode cX11_turn 152 = .ok (.aload_n 0, 1) := by decide +kernel
theorem dX11_turn_153 : decode cX11_turn 153 = .ok (.getfield 117, 3) := by decide +kernel
theorem dX11_turn_156 : decode cX11_turn 156 = .ok (.imul, 1) := by decide +kernel
theorem dX11_turn_157 : decode cX11_turn 157 = .ok (.istore 5, 2) := by decide +kernel
theorem dX11_turn_159 : decode cX11_turn 159 = .ok (.iconst 0, 1) := by decide +kernel
theorem dX11_turn_160 : decode cX11_turn 160 = .ok (.istore 6, 2) := by decide +kernel
theorem dX11_turn_162 : decode cX11_turn 162 = .ok (.iload 6, 2) := by decide +kernel
theorem dX11_turn_164 : decode cX11_turn 164 = .ok (.aload_n 0, 1) := by decide +kernel
theorem dX11_turn_165 : decode cX11_turn 165 = .ok (.getfield 17, 3) := by decide +kernel
theorem dX11_turn_168 : decode cX11_turn 168 = .ok (.iload_n 3, 1) := by decide +kernel
theorem dX11_turn_169 : decode cX11_turn 169 = .ok (.iaload, 1) := by decide +kernel
theorem dX11_turn_170 : decode cX11_turn 170 = .ok (.if_icmp .ge 30, 3) := by decide +kernel
theorem dX11_turn_173 : decode cX11_turn 173 = .ok (.aload_n 0, 1) := by decide +kernel
theorem dX11_turn_174 : decode cX11_turn 174 = .ok (.getfield 30, 3) := by decide +kernel
theorem dX11_turn_177 : decode cX11_turn 177 = .ok (.iload 5, 2) := by decide +kernel
theorem dX11_turn_179 : decode cX11_turn 179 = .ok (.aload_n 0, 1) := by decide +kernel
theorem dX11_turn_180 : decode cX11_turn 180 = .ok (.getfield 13, 3) := by decide +kernel
theorem dX11_turn_183 : decode cX11_turn 183 = .ok (.iconst 4, 1) := by decide +kernel
theorem dX11_turn_184 : decode cX11_turn 184 = .ok (.iload_n 3, 1) := by decide +kernel
theorem dX11_turn_185 : decode cX11_turn 185 = .ok (.imul, 1) := by decide +kernel
theorem dX11_turn_186 : decode cX11_turn 186 = .ok (.iload 6, 2) := by decide +kernel
theorem dX11_turn_188 : decode cX11_turn 188 = .ok (.iadd, 1) := by decide +kernel
theorem dX11_turn_189 : decode cX11_turn 189 = .ok (.iaload, 1) := by decide +kernel
theorem dX11_turn_190 : decode cX11_turn 190 = .ok (.iastore, 1) := by decide +kernel
theorem dX11_turn_191 : decode cX11_turn 191 = .ok (.iinc 5 1, 3) := by decide +kernel
theorem dX11_turn_194 : decode cX11_turn 194 = .ok (.iinc 6 1, 3) := by decide +kernel
theorem dX11_turn_197 : decode cX11_turn 197 = .ok (.goto (-35), 3) := by decide +kernel
theorem dX11_turn_200 : decode cX11_turn 200 = .ok (.iconst 0, 1) := by decide +kernel
theorem dX11_turn_201 : decode cX11_turn 201 = .ok (.istore 6, 2) := by decide +kernel
theorem dX11_turn_203 : decode cX11_turn 203 = .ok (.iload 6, 2) := by decide +kernel
theorem dX11_turn_205 : decode cX11_turn 205 = .ok (.aload_n 0, 1) := by decide +kernel
theorem dX11_turn_206 : decode cX11_turn 206 = .ok (.getfield 139, 3) := by decide +kernel
theorem dX11_turn_209 : decode cX11_turn 209 = .ok (.if_icmp .ge 76, 3) := by decide +kernel
theorem dX11_turn_212 : decode cX11_turn 212 = .ok (.aload_n 0, 1) := by decide +kernel
theorem dX11_turn_213 : decode cX11_turn 213 = .ok (.iload 6, 2) := by decide +kernel
theorem dX11_turn_215 : decode cX11_turn 215 = .ok (.iload_n 2, 1) := by decide +kernel
theorem dX11_turn_216 : decode cX11_turn 216 = .ok (.invokevirtual 160, 3) := by decide +kernel
theorem dX11_turn_219 : decode cX11_turn 219 = .ok (.ifCond .ne 6, 3) := by decide +kernel
theorem dX11_turn_222 : decode cX11_turn 222 = .ok (.goto 57, 3) := by decide +kernel
theorem dX11_turn_225 : decode cX11_turn 225 = .ok (.aload_n 0, 1) := by decide +kernel
theorem dX11_turn_226 : decode cX11_turn 226 = .ok (.getfield 72, 3) := by decide +kernel
theorem dX11_turn_229 : decode cX11_turn 229 = .ok (.iload 6, 2) := by decide +kernel
theorem dX11_turn_231 : decode cX11_turn 231 = .ok (.iaload, 1) := by decide +kernel
theorem dX11_turn_232 : decode cX11_turn 232 = .ok (.iconst 2, 1) := by decide +kernel
theorem dX11_turn_233 : decode cX11_turn 233 = .ok (.isub, 1) := by decide +kernel
theorem dX11_turn_234 : decode cX11_turn 234 = .ok (.istore 7, 2) := by decide +kernel
theorem dX11_turn_236 : decode cX11_turn 236 = .ok (.iload 7, 2) := by decide +kernel
theorem dX11_turn_238 : decode cX11_turn 238 = .ok (.aload_n 0, 1) := by decide +kernel
theorem dX11_turn_239 : decode cX11_turn 239 = .ok (.getfield 72, 3) := by decide +kernel
theorem dX11_turn_242 : decode cX11_turn 242 = .ok (.iload 6, 2) := by decide +kernel
theorem dX11_turn_244 : decode cX11_turn 244 = .ok (.iaload, 1) := by decide +kernel
theorem dX11_turn_245 : decode cX11_turn 245 = .ok (.aload_n 0, 1) := by decide +kernel
theorem dX11_turn_246 : decode cX11_turn 246 = .ok (.getfield 75, 3) := by decide +kernel
theorem dX11_turn_249 : decode cX11_turn 249 = .ok (.iload 6, 2) := by decide +kernel
theorem dX11_turn_251 : decode cX11_turn 251 = .ok (.iaload, 1) := by decide +kernel
theorem dX11_turn_252 : decode cX11_turn 252 = .ok (.iadd, 1) := by decide +kernel
theorem dX11_turn_253 : decode cX11_turn 253 = .ok (.if_icmp .ge 26, 3) := by decide +kernel
theorem dX11_turn_256 : decode cX11_turn 256 = .ok (.aload_n 0, 1) := by decide +kernel
theorem dX11_turn_257 : decode cX11_turn 257 = .ok (.getfield 30, 3) := by decide +kernel
theorem dX11_turn_260 : decode cX11_turn 260 = .ok (.iload 5, 2) := by decide +kernel
theorem dX11_turn_262 : decode cX11_turn 262 = .ok (.aload_n 0, 1) := by decide +kernel
theorem dX11_turn_263 : decode cX11_turn 263 = .ok (.iload_n 1, 1) := by decide +kernel
theorem dX11_turn_264 : decode cX11_turn 264 = .ok (.iload 7, 2) := by decide +kernel
theorem dX11_turn_266 : decode cX11_turn 266 = .ok (.invokevirtual 145, 3) := by decide +kernel
theorem dX11_turn_269 : decode cX11_turn 269 = .ok (.iastore, 1) := by decide +kernel
theorem dX11_turn_270 : decode cX11_turn 270 = .ok (.iinc 5 1, 3) := by decide +kernel
theorem dX11_turn_273 : decode cX11_turn 273 = .ok (.iinc 7 1, 3) := by decide +kernel
theorem dX11_turn_276 : decode cX11_turn 276 = .ok (.goto (-40), 3) := by decide +kernel
theorem dX11_turn_279 : decode cX11_turn 279 = .ok (.iinc 6 1, 3) := by decide +kernel
theorem dX11_turn_282 : decode cX11_turn 282 = .ok (.goto (-79), 3) := by decide +kernel
theorem dX11_turn_285 : decode cX11_turn 285 = .ok (.iconst 0, 1) := by decide +kernel
theorem dX11_turn_286 : decode cX11_turn 286 = .ok (.istore 6, 2) := by decide +kernel
theorem dX11_turn_288 : decode cX11_turn 288 = .ok (.bipush 60, 2) := by decide +kernel
theorem dX11_turn_290 : decode cX11_turn 290 = .ok (.aload_n 0, 1) := by decide +kernel
theorem dX11_turn_291 : decode cX11_turn 291 = .ok (.getfield 117, 3) := by decide +kernel
theorem dX11_turn_294 : decode cX11_turn 294 = .ok (.imul, 1) := by decide +kernel
theorem dX11_turn_295 : decode cX11_turn 295 = .ok (.istore 7, 2) := by decide +kernel
theorem dX11_turn_297 : decode cX11_turn 297 = .ok (.iload 7, 2) := by decide +kernel
theorem dX11_turn_299 : decode cX11_turn 299 = .ok (.iload 5, 2) := by decide +kernel
theorem dX11_turn_301 : decode cX11_turn 301 = .ok (.if_icmp .ge 21, 3) := by decide +kernel
theorem dX11_turn_304 : decode cX11_turn 304 = .ok (.iload 6, 2) := by decide +kernel
theorem dX11_turn_306 : decode cX11_turn 306 = .ok (.aload_n 0, 1) := by decide +kernel
theorem dX11_turn_307 : decode cX11_turn 307 = .ok (.getfield 30, 3) := by decide +kernel
theorem dX11_turn_310 : decode cX11_turn 310 = .ok (.iload 7, 2) := by decide +kernel
theorem dX11_turn_312 : decode cX11_turn 312 = .ok (.iaload, 1) := by decide +kernel
theorem dX11_turn_313 : decode cX11_turn 313 = .ok (.iadd, 1) := by decide +kernel
theorem dX11_turn_314 : decode cX11_turn 314 = .ok (.istore 6, 2) := by decide +kernel
theorem dX11_turn_316 : decode cX11_turn 316 = .ok (.iinc 7 1, 3) := by decide +kernel
theorem dX11_turn_319 : decode cX11_turn 319 = .ok (.goto (-22), 3) := by decide +kernel
theorem dX11_turn_322 : decode cX11_turn 322 = .ok (.aload_n 0, 1) := by decide +kernel
theorem dX11_turn_323 : decode cX11_turn 323 = .ok (.getfield 23, 3) := by decide +kernel
theorem dX11_turn_326 : decode cX11_turn 326 = .ok (.iload_n 3, 1) := by decide +kernel
theorem dX11_turn_327 : decode cX11_turn 327 = .ok (.baload, 1) := by decide +kernel
theorem dX11_turn_328 : decode cX11_turn 328 = .ok (.ifCond .eq 16, 3) := by decide +kernel
theorem dX11_turn_331 : decode cX11_turn 331 = .ok (.aload_n 0, 1) := by decide +kernel
theorem dX11_turn_332 : decode cX11_turn 332 = .ok (.getfield 30, 3) := by decide +kernel
theorem dX11_turn_335 : decode cX11_turn 335 = .ok (.iload 5, 2) := by decide +kernel
theorem dX11_turn_337 : decode cX11_turn 337 = .ok (.iload 6, 2) := by decide +kernel
theorem dX11_turn_339 : decode cX11_turn 339 = .ok (.sipush 256, 3) := by decide +kernel
theorem dX11_turn_342 : decode cX11_turn 342 = .ok (.irem, 1) := by decide +kernel
theorem dX11_turn_343 : decode cX11_turn 343 = .ok (.iastore, 1) := by decide +kernel
theorem dX11_turn_344 : decode cX11_turn 344 = .ok (.aload_n 0, 1) := by decide +kernel
theorem dX11_turn_345 : decode cX11_turn 345 = .ok (.getfield 33, 3) := by decide +kernel
theorem dX11_turn_348 : decode cX11_turn 348 = .ok (.aload_n 0, 1) := by decide +kernel
theorem dX11_turn_349 : decode cX11_turn 349 = .ok (.getfield 117, 3) := by decide +kernel
theorem dX11_turn_352 : decode cX11_turn 352 = .ok (.iload 4, 2) := by decide +kernel
theorem dX11_turn_354 : decode cX11_turn 354 = .ok (.iastore, 1) := by decide +kernel
theorem dX11_turn_355 : decode cX11_turn 355 = .ok (.aload_n 0, 1) := by decide +kernel
theorem dX11_turn_356 : decode cX11_turn 356 = .ok (.getfield 39, 3) := by decide +kernel
theorem dX11_turn_359 : decode cX11_turn 359 = .ok (.aload_n 0, 1) := by decide +kernel
theorem dX11_turn_360 : decode cX11_turn 360 = .ok (.getfield 117, 3) := by decide +kernel
theorem dX11_turn_363 : decode cX11_turn 363 = .ok (.iload_n 1, 1) := by decide +kernel
theorem dX11_turn_364 : decode cX11_turn 364 = .ok (.iastore, 1) := by decide +kernel
theorem dX11_turn_365 : decode cX11_turn 365 = .ok (.aload_n 0, 1) := by decide +kernel
theorem dX11_turn_366 : decode cX11_turn 366 = .ok (.dup, 1) := by decide +kernel
theorem dX11_turn_367 : decode cX11_turn 367 = .ok (.getfield 117, 3) := by decide +kernel
theorem dX11_turn_370 : decode cX11_turn 370 = .ok (.iconst 1, 1) := by decide +kernel
theorem dX11_turn_371 : decode cX11_turn 371 = .ok (.iadd, 1) := by decide +kernel
theorem dX11_turn_372 : decode cX11_turn 372 = .ok (.putfield 117, 3) := by decide +kernel
theorem dX11_turn_375 : decode cX11_turn 375 = .ok (.aload_n 0, 1) := by decide +kernel
theorem dX11_turn_376 : decode cX11_turn 376 = .ok (.getfield 117, 3) := by decide +kernel
theorem dX11_turn_379 : decode cX11_turn 379 = .ok (.iconst 1, 1) := by decide +kernel
theorem dX11_turn_380 : decode cX11_turn 380 = .ok (.isub, 1) := by decide +kernel
theorem dX11_turn_381 : decode cX11_turn 381 = .ok (.ireturn, 1) := by decide +kernel
theorem dX11_goes_0 : decode cX11_goes 0 = .ok (.aload_n 0, 1) := by decide +kernel
theorem dX11_goes_1 : decode cX11_goes 1 = .ok (.getfield 20, 3) := by decide +kernel
theorem dX11_goes_4 : decode cX11_goes 4 = .ok (.aload_n 0, 1) := by decide +kernel
theorem dX11_goes_5 : decode cX11_goes 5 = .ok (.getfield 57, 3) := by decide +kernel
theorem dX11_goes_8 : decode cX11_goes 8 = .ok (.iload_n 2, 1) := by decide +kernel
theorem dX11_goes_9 : decode cX11_goes 9 = .ok (.iaload, 1) := by decide +kernel
theorem dX11_goes_10 : decode cX11_goes 10 = .ok (.iaload, 1) := by decide +kernel
theorem dX11_goes_11 : decode cX11_goes 11 = .ok (.aload_n 0, 1) := by decide +kernel
theorem dX11_goes_12 : decode cX11_goes 12 = .ok (.getfield 69, 3) := by decide +kernel
theorem dX11_goes_15 : decode cX11_goes 15 = .ok (.iload_n 1, 1) := by decide +kernel
theorem dX11_goes_16 : decode cX11_goes 16 = .ok (.iaload, 1) := by decide +kernel
theorem dX11_goes_17 : decode cX11_goes 17 = .ok (.invokestatic 149, 3) := by decide +kernel
theorem dX11_goes_20 : decode cX11_goes 20 = .ok (.ifCond .eq 25, 3) := by decide +kernel
theorem dX11_goes_23 : decode cX11_goes 23 = .ok (.aload_n 0, 1) := by decide +kernel
theorem dX11_goes_24 : decode cX11_goes 24 = .ok (.getfield 60, 3) := by decide +kernel
theorem dX11_goes_27 : decode cX11_goes 27 = .ok (.iload_n 2, 1) := by decide +kernel
theorem dX11_goes_28 : decode cX11_goes 28 = .ok (.iaload, 1) := by decide +kernel
theorem dX11_goes_29 : decode cX11_goes 29 = .ok (.aload_n 0, 1) := by decide +kernel
theorem dX11_goes_30 : decode cX11_goes 30 = .ok (.getfield 69, 3) := by decide +kernel
theorem dX11_goes_33 : decode cX11_goes 33 = .ok (.iload_n 1, 1) := by decide +kernel
theorem dX11_goes_34 : decode cX11_goes 34 = .ok (.iaload, 1) := by decide +kernel
theorem dX11_goes_35 : decode cX11_goes 35 = .ok (.invokestatic 149, 3) := by decide +kernel
theorem dX11_goes_38 : decode cX11_goes 38 = .ok (.ifCond .ne 7, 3) := by decide +kernel
theorem dX11_goes_41 : decode cX11_goes 41 = .ok (.iconst 1, 1) := by decide +kernel
theorem dX11_goes_42 : decode cX11_goes 42 = .ok (.goto 4, 3) := by decide +kernel
theorem dX11_goes_45 : decode cX11_goes 45 = .ok (.iconst 0, 1) := by decide +kernel
theorem dX11_goes_46 : decode cX11_goes 46 = .ok (.ireturn, 1) := by decide +kernel
theorem dX11_areAlike_0 : decode cX11_areAlike 0 = .ok (.aload_n 0, 1) := by decide +kernel
theorem dX11_areAlike_1 : decode cX11_areAlike 1 = .ok (.getfield 84, 3) := by decide +kernel
theorem dX11_areAlike_4 : decode cX11_areAlike 4 = .ok (.iload_n 2, 1) := by decide +kernel
theorem dX11_areAlike_5 : decode cX11_areAlike 5 = .ok (.iaload, 1) := by decide +kernel
theorem dX11_areAlike_6 : decode cX11_areAlike 6 = .ok (.aload_n 0, 1) := by decide +kernel
theorem dX11_areAlike_7 : decode cX11_areAlike 7 = .ok (.getfield 75, 3) := by decide +kernel
theorem dX11_areAlike_10 : decode cX11_areAlike 10 = .ok (.iload 4, 2) := by decide +kernel
theorem dX11_areAlike_12 : decode cX11_areAlike 12 = .ok (.iaload, 1) := by decide +kernel
theorem dX11_areAlike_13 : decode cX11_areAlike 13 = .ok (.if_icmp .eq 5, 3) := by decide +kernel
theorem dX11_areAlike_16 : decode cX11_areAlike 16 = .ok (.iconst 0, 1) := by decide +kernel
theorem dX11_areAlike_17 : decode cX11_areAlike 17 = .ok (.ireturn, 1) := by decide +kernel
theorem dX11_areAlike_18 : decode cX11_areAlike 18 = .ok (.iconst 0, 1) := by decide +kernel
theorem dX11_areAlike_19 : decode cX11_areAlike 19 = .ok (.istore 5, 2) := by decide +kernel
theorem dX11_areAlike_21 : decode cX11_areAlike 21 = .ok (.iload 5, 2) := by decide +kernel
theorem dX11_areAlike_23 : decode cX11_areAlike 23 = .ok (.aload_n 0, 1) := by decide +kernel
theorem dX11_areAlike_24 : decode cX11_areAlike 24 = .ok (.getfield 75, 3) := by decide +kernel
theorem dX11_areAlike_27 : decode cX11_areAlike 27 = .ok (.iload 4, 2) := by decide +kernel
theorem dX11_areAlike_29 : decode cX11_areAlike 29 = .ok (.iaload, 1) := by decide +kernel
theorem dX11_areAlike_30 : decode cX11_areAlike 30 = .ok (.if_icmp .ge 43, 3) := by decide +kernel
theorem dX11_areAlike_33 : decode cX11_areAlike 33 = .ok (.aload_n 0, 1) := by decide +kernel
theorem dX11_areAlike_34 : decode cX11_areAlike 34 = .ok (.iload_n 1, 1) := by decide +kernel
theorem dX11_areAlike_35 : decode cX11_areAlike 35 = .ok (.aload_n 0, 1) := by decide +kernel
theorem dX11_areAlike_36 : decode cX11_areAlike 36 = .ok (.getfield 81, 3) := by decide +kernel
theorem dX11_areAlike_39 : decode cX11_areAlike 39 = .ok (.iload_n 2, 1) := by decide +kernel
theorem dX11_areAlike_40 : decode cX11_areAlike 40 = .ok (.iaload, 1) := by decide +kernel
theorem dX11_areAlike_41 : decode cX11_areAlike 41 = .ok (.iload 5, 2) := by decide +kernel
theorem dX11_areAlike_43 : decode cX11_areAlike 43 = .ok (.iadd, 1) := by decide +kernel
theorem dX11_areAlike_44 : decode cX11_areAlike 44 = .ok (.invokevirtual 145, 3) := by decide +kernel
theorem dX11_areAlike_47 : decode cX11_areAlike 47 = .ok (.aload_n 0, 1) := by decide +kernel
theorem dX11_areAlike_48 : decode cX11_areAlike 48 = .ok (.iload_n 3, 1) := by decide +kernel
theorem dX11_areAlike_49 : decode cX11_areAlike 49 = .ok (.aload_n 0, 1) := by decide +kernel
theorem dX11_areAlike_50 : decode cX11_areAlike 50 = .ok (.getfield 72, 3) := by decide +kernel
theorem dX11_areAlike_53 : decode cX11_areAlike 53 = .ok (.iload 4, 2) := by decide +kernel
theorem dX11_areAlike_55 : decode cX11_areAlike 55 = .ok (.iaload, 1) := by decide +kernel
theorem dX11_areAlike_56 : decode cX11_areAlike 56 = .ok (.iload 5, 2) := by decide +kernel
theorem dX11_areAlike_58 : decode cX11_areAlike 58 = .ok (.iadd, 1) := by decide +kernel
theorem dX11_areAlike_59 : decode cX11_areAlike 59 = .ok (.invokevirtual 145, 3) := by decide +kernel
theorem dX11_areAlike_62 : decode cX11_areAlike 62 = .ok (.if_icmp .eq 5, 3) := by decide +kernel
theorem dX11_areAlike_65 : decode cX11_areAlike 65 = .ok (.iconst 0, 1) := by decide +kernel
theorem dX11_areAlike_66 : decode cX11_areAlike 66 = .ok (.ireturn, 1) := by decide +kernel
theorem dX11_areAlike_67 : decode cX11_areAlike 67 = .ok (.iinc 5 1, 3) := by decide +kernel
theorem dX11_areAlike_70 : decode cX11_areAlike 70 = .ok (.goto (-49), 3) := by decide +kernel
theorem dX11_areAlike_73 : decode cX11_areAlike 73 = .ok (.iconst 1, 1) := by decide +kernel
theorem dX11_areAlike_74 : decode cX11_areAlike 74 = .ok (.ireturn, 1) := by decide +kernel
theorem dX11_isKept_0 : decode cX11_isKept 0 = .ok (.iconst 0, 1) := by decide +kernel
theorem dX11_isKept_1 : decode cX11_isKept 1 = .ok (.istore 4, 2) := by decide +kernel
theorem dX11_isKept_3 : decode cX11_isKept 3 = .ok (.iconst 0, 1) := by decide +kernel
theorem dX11_isKept_4 : decode cX11_isKept 4 = .ok (.istore 5, 2) := by decide +kernel
theorem dX11_isKept_6 : decode cX11_isKept 6 = .ok (.iconst 0, 1) := by decide +kernel
theorem dX11_isKept_7 : decode cX11_isKept 7 = .ok (.istore 6, 2) := by decide +kernel
theorem dX11_isKept_9 : decode cX11_isKept 9 = .ok (.iload 6, 2) := by decide +kernel
theorem dX11_isKept_11 : decode cX11_isKept 11 = .ok (.aload_n 0, 1) := by decide +kernel
theorem dX11_isKept_12 : decode cX11_isKept 12 = .ok (.getfield 163, 3) := by decide +kernel
theorem dX11_isKept_15 : decode cX11_isKept 15 = .ok (.if_icmp .ge 79, 3) := by decide +kernel
theorem dX11_isKept_18 : decode cX11_isKept 18 = .ok (.aload_n 0, 1) := by decide +kernel
theorem dX11_isKept_19 : decode cX11_isKept 19 = .ok (.getfield 78, 3) := by decide +kernel
theorem dX11_isKept_22 : decode cX11_isKept 22 = .ok (.iload 6, 2) := by decide +kernel
theorem dX11_isKept_24 : decode cX11_isKept 24 = .ok (.iaload, 1) := by decide +kernel
theorem dX11_isKept_25 : decode cX11_isKept 25 = .ok (.iload_n 3, 1) := by decide +kernel
theorem dX11_isKept_26 : decode cX11_isKept 26 = .ok (.if_icmp .eq 6, 3) := by decide +kernel
theorem dX11_isKept_29 : decode cX11_isKept 29 = .ok (.goto 59, 3) := by decide +kernel
theorem dX11_isKept_32 : decode cX11_isKept 32 = .ok (.iload 4, 2) := by decide +kernel
theorem dX11_isKept_34 : decode cX11_isKept 34 = .ok (.aload_n 0, 1) := by decide +kernel
theorem dX11_isKept_35 : decode cX11_isKept 35 = .ok (.getfield 139, 3) := by decide +kernel
theorem dX11_isKept_38 : decode cX11_isKept 38 = .ok (.if_icmp .ge 20, 3) := by decide +kernel
theorem dX11_isKept_41 : decode cX11_isKept 41 = .ok (.aload_n 0, 1) := by decide +kernel
theorem dX11_isKept_42 : decode cX11_isKept 42 = .ok (.getfield 69, 3) := by decide +kernel
theorem dX11_isKept_45 : decode cX11_isKept 45 = .ok (.iload 4, 2) := by decide +kernel
theorem dX11_isKept_47 : decode cX11_isKept 47 = .ok (.iaload, 1) := by decide +kernel
theorem dX11_isKept_48 : decode cX11_isKept 48 = .ok (.iload_n 3, 1) := by decide +kernel
theorem dX11_isKept_49 : decode cX11_isKept 49 = .ok (.if_icmp .eq 9, 3) := by decide +kernel
theorem dX11_isKept_52 : decode cX11_isKept 52 = .ok (.iinc 4 1, 3) := by decide +kernel
theorem dX11_isKept_55 : decode cX11_isKept 55 = .ok (.goto (-23), 3) := by decide +kernel
theorem dX11_isKept_58 : decode cX11_isKept 58 = .ok (.iload 4, 2) := by decide +kernel
theorem dX11_isKept_60 : decode cX11_isKept 60 = .ok (.aload_n 0, 1) := by decide +kernel
theorem dX11_isKept_61 : decode cX11_isKept 61 = .ok (.getfield 139, 3) := by decide +kernel
theorem dX11_isKept_64 : decode cX11_isKept 64 = .ok (.if_icmp .eq 16, 3) := by decide +kernel
theorem dX11_isKept_67 : decode cX11_isKept 67 = .ok (.aload_n 0, 1) := by decide +kernel
theorem dX11_isKept_68 : decode cX11_isKept 68 = .ok (.iload_n 1, 1) := by decide +kernel
theorem dX11_isKept_69 : decode cX11_isKept 69 = .ok (.iload 6, 2) := by decide +kernel
theorem dX11_isKept_71 : decode cX11_isKept 71 = .ok (.iload_n 2, 1) := by decide +kernel
theorem dX11_isKept_72 : decode cX11_isKept 72 = .ok (.iload 4, 2) := by decide +kernel
theorem dX11_isKept_74 : decode cX11_isKept 74 = .ok (.invokevirtual 166, 3) := by decide +kernel
theorem dX11_isKept_77 : decode cX11_isKept 77 = .ok (.ifCond .ne 5, 3) := by decide +kernel
theorem dX11_isKept_80 : decode cX11_isKept 80 = .ok (.iconst 0, 1) := by decide +kernel
theorem dX11_isKept_81 : decode cX11_isKept 81 = .ok (.ireturn, 1) := by decide +kernel
theorem dX11_isKept_82 : decode cX11_isKept 82 = .ok (.iinc 4 1, 3) := by decide +kernel
theorem dX11_isKept_85 : decode cX11_isKept 85 = .ok (.iinc 5 1, 3) := by decide +kernel
theorem dX11_isKept_88 : decode cX11_isKept 88 = .ok (.iinc 6 1, 3) := by decide +kernel
theorem dX11_isKept_91 : decode cX11_isKept 91 = .ok (.goto (-82), 3) := by decide +kernel
theorem dX11_isKept_94 : decode cX11_isKept 94 = .ok (.iload 4, 2) := by decide +kernel
theorem dX11_isKept_96 : decode cX11_isKept 96 = .ok (.aload_n 0, 1) := by decide +kernel
theorem dX11_isKept_97 : decode cX11_isKept 97 = .ok (.getfield 139, 3) := by decide +kernel
theorem dX11_isKept_100 : decode cX11_isKept 100 = .ok (.if_icmp .ge 20, 3) := by decide +kernel
theorem dX11_isKept_103 : decode cX11_isKept 103 = .ok (.aload_n 0, 1) := by decide +kernel
theorem dX11_isKept_104 : decode cX11_isKept 104 = .ok (.getfield 69, 3) := by decide +kernel
theorem dX11_isKept_107 : decode cX11_isKept 107 = .ok (.iload 4, 2) := by decide +kernel
theorem dX11_isKept_109 : decode cX11_isKept 109 = .ok (.iaload, 1) := by decide +kernel
theorem dX11_isKept_110 : decode cX11_isKept 110 = .ok (.iload_n 3, 1) := by decide +kernel
theorem dX11_isKept_111 : decode cX11_isKept 111 = .ok (.if_icmp .eq 9, 3) := by decide +kernel
theorem dX11_isKept_114 : decode cX11_isKept 114 = .ok (.iinc 4 1, 3) := by decide +kernel
theorem dX11_isKept_117 : decode cX11_isKept 117 = .ok (.goto (-23), 3) := by decide +kernel
theorem dX11_isKept_120 : decode cX11_isKept 120 = .ok (.iload 5, 2) := by decide +kernel
theorem dX11_isKept_122 : decode cX11_isKept 122 = .ok (.ifCond .le 16, 3) := by decide +kernel
theorem dX11_isKept_125 : decode cX11_isKept 125 = .ok (.iload 4, 2) := by decide +kernel
theorem dX11_isKept_127 : decode cX11_isKept 127 = .ok (.aload_n 0, 1) := by decide +kernel
theorem dX11_isKept_128 : decode cX11_isKept 128 = .ok (.getfield 139, 3) := by decide +kernel
theorem dX11_isKept_131 : decode cX11_isKept 131 = .ok (.if_icmp .ne 7, 3) := by decide +kernel
theorem dX11_isKept_134 : decode cX11_isKept 134 = .ok (.iconst 1, 1) := by decide +kernel
theorem dX11_isKept_135 : decode cX11_isKept 135 = .ok (.goto 4, 3) := by decide +kernel
theorem dX11_isKept_138 : decode cX11_isKept 138 = .ok (.iconst 0, 1) := by decide +kernel
theorem dX11_isKept_139 : decode cX11_isKept 139 = .ok (.ireturn, 1) := by decide +kernel
theorem dX11_kept_0 : decode cX11_kept 0 = .ok (.aload_n 0, 1) := by decide +kernel
theorem dX11_kept_1 : decode cX11_kept 1 = .ok (.iload_n 1, 1) := by decide +kernel
theorem dX11_kept_2 : decode cX11_kept 2 = .ok (.invokevirtual 120, 3) := by decide +kernel
theorem dX11_kept_5 : decode cX11_kept 5 = .ok (.ifCond .eq 11, 3) := by decide +kernel
theorem dX11_kept_8 : decode cX11_kept 8 = .ok (.aload_n 0, 1) := by decide +kernel
theorem dX11_kept_9 : decode cX11_kept 9 = .ok (.iload_n 2, 1) := by decide +kernel
theorem dX11_kept_10 : decode cX11_kept 10 = .ok (.invokevirtual 120, 3) := by decide +kernel
theorem dX11_kept_13 : decode cX11_kept 13 = .ok (.ifCond .ne 5, 3) := by decide +kernel
theorem dX11_kept_16 : decode cX11_kept 16 = .ok (.iconst (-1), 1) := by decide +kernel
theorem dX11_kept_17 : decode cX11_kept 17 = .ok (.ireturn, 1) := by decide +kernel
theorem dX11_kept_18 : decode cX11_kept 18 = .ok (.aload_n 0, 1) := by decide +kernel
theorem dX11_kept_19 : decode cX11_kept 19 = .ok (.iload_n 1, 1) := by decide +kernel
theorem dX11_kept_20 : decode cX11_kept 20 = .ok (.invokevirtual 156, 3) := by decide +kernel
theorem dX11_kept_23 : decode cX11_kept 23 = .ok (.istore_n 3, 1) := by decide +kernel
theorem dX11_kept_24 : decode cX11_kept 24 = .ok (.aload_n 0, 1) := by decide +kernel
theorem dX11_kept_25 : decode cX11_kept 25 = .ok (.iload_n 3, 1) := by decide +kernel
theorem dX11_kept_26 : decode cX11_kept 26 = .ok (.iconst (-1), 1) := by decide +kernel
theorem dX11_kept_27 : decode cX11_kept 27 = .ok (.if_icmp .ne 7, 3) := by decide +kernel
theorem dX11_kept_30 : decode cX11_kept 30 = .ok (.iconst 0, 1) := by decide +kernel
theorem dX11_kept_31 : decode cX11_kept 31 = .ok (.goto 7, 3) := by decide +kernel
theorem dX11_kept_34 : decode cX11_kept 34 = .ok (.aload_n 0, 1) := by decide +kernel
theorem dX11_kept_35 : decode cX11_kept 35 = .ok (.getfield 139, 3) := by decide +kernel
theorem dX11_kept_38 : decode cX11_kept 38 = .ok (.putfield 163, 3) := by decide +kernel
theorem dX11_kept_41 : decode cX11_kept 41 = .ok (.iconst 0, 1) := by decide +kernel
theorem dX11_kept_42 : decode cX11_kept 42 = .ok (.istore 4, 2) := by decide +kernel
theorem dX11_kept_44 : decode cX11_kept 44 = .ok (.iload 4, 2) := by decide +kernel
theorem dX11_kept_46 : decode cX11_kept 46 = .ok (.aload_n 0, 1) := by decide +kernel
theorem dX11_kept_47 : decode cX11_kept 47 = .ok (.getfield 163, 3) := by decide +kernel
theorem dX11_kept_50 : decode cX11_kept 50 = .ok (.if_icmp .ge 51, 3) := by decide +kernel
theorem dX11_kept_53 : decode cX11_kept 53 = .ok (.aload_n 0, 1) := by decide +kernel
theorem dX11_kept_54 : decode cX11_kept 54 = .ok (.getfield 78, 3) := by decide +kernel
theorem dX11_kept_57 : decode cX11_kept 57 = .ok (.iload 4, 2) := by decide +kernel
theorem dX11_kept_59 : decode cX11_kept 59 = .ok (.aload_n 0, 1) := by decide +kernel
theorem dX11_kept_60 : decode cX11_kept 60 = .ok (.getfield 69, 3) := by decide +kernel
theorem dX11_kept_63 : decode cX11_kept 63 = .ok (.iload 4, 2) := by decide +kernel
theorem dX11_kept_65 : decode cX11_kept 65 = .ok (.iaload, 1) := by decide +kernel
theorem dX11_kept_66 : decode cX11_kept 66 = .ok (.iastore, 1) := by decide +kernel
theorem dX11_kept_67 : decode cX11_kept 67 = .ok (.aload_n 0, 1) := by decide +kernel
theorem dX11_kept_68 : decode cX11_kept 68 = .ok (.getfield 81, 3) := by decide +kernel
theorem dX11_kept_71 : decode cX11_kept 71 = .ok (.iload 4, 2) := by decide +kernel
theorem dX11_kept_73 : decode cX11_kept 73 = .ok (.aload_n 0, 1) := by decide +kernel
theorem dX11_kept_74 : decode cX11_kept 74 = .ok (.getfield 72, 3) := by decide +kernel
theorem dX11_kept_77 : decode cX11_kept 77 = .ok (.iload 4, 2) := by decide +kernel
theorem dX11_kept_79 : decode cX11_kept 79 = .ok (.iaload, 1) := by decide +kernel
theorem dX11_kept_80 : decode cX11_kept 80 = .ok (.iastore, 1) := by decide +kernel
theorem dX11_kept_81 : decode cX11_kept 81 = .ok (.aload_n 0, 1) := by decide +kernel
theorem dX11_kept_82 : decode cX11_kept 82 = .ok (.getfield 84, 3) := by decide +kernel
theorem dX11_kept_85 : decode cX11_kept 85 = .ok (.iload 4, 2) := by decide +kernel
theorem dX11_kept_87 : decode cX11_kept 87 = .ok (.aload_n 0, 1) := by decide +kernel
theorem dX11_kept_88 : decode cX11_kept 88 = .ok (.getfield 75, 3) := by decide +kernel
theorem dX11_kept_91 : decode cX11_kept 91 = .ok (.iload 4, 2) := by decide +kernel
theorem dX11_kept_93 : decode cX11_kept 93 = .ok (.iaload, 1) := by decide +kernel
theorem dX11_kept_94 : decode cX11_kept 94 = .ok (.iastore, 1) := by decide +kernel
theorem dX11_kept_95 : decode cX11_kept 95 = .ok (.iinc 4 1, 3) := by decide +kernel
theorem dX11_kept_98 : decode cX11_kept 98 = .ok (.goto (-54), 3) := by decide +kernel
theorem dX11_kept_101 : decode cX11_kept 101 = .ok (.aload_n 0, 1) := by decide +kernel
theorem dX11_kept_102 : decode cX11_kept 102 = .ok (.iload_n 2, 1) := by decide +kernel
theorem dX11_kept_103 : decode cX11_kept 103 = .ok (.invokevirtual 156, 3) := by decide +kernel
theorem dX11_kept_106 : decode cX11_kept 106 = .ok (.istore 4, 2) := by decide +kernel
theorem dX11_kept_108 : decode cX11_kept 108 = .ok (.iconst 0, 1) := by decide +kernel
theorem dX11_kept_109 : decode cX11_kept 109 = .ok (.istore 5, 2) := by decide +kernel
theorem dX11_kept_111 : decode cX11_kept 111 = .ok (.iconst 0, 1) := by decide +kernel
theorem dX11_kept_112 : decode cX11_kept 112 = .ok (.istore 6, 2) := by decide +kernel
theorem dX11_kept_114 : decode cX11_kept 114 = .ok (.iload 6, 2) := by decide +kernel
theorem dX11_kept_116 : decode cX11_kept 116 = .ok (.bipush 12, 2) := by decide +kernel
theorem dX11_kept_118 : decode cX11_kept 118 = .ok (.if_icmp .ge 29, 3) := by decide +kernel
theorem dX11_kept_121 : decode cX11_kept 121 = .ok (.aload_n 0, 1) := by decide +kernel
theorem dX11_kept_122 : decode cX11_kept 122 = .ok (.iload_n 1, 1) := by decide +kernel
theorem dX11_kept_123 : decode cX11_kept 123 = .ok (.iload_n 2, 1) := by decide +kernel
theorem dX11_kept_124 : decode cX11_kept 124 = .ok (.iload 6, 2) := by decide +kernel
theorem dX11_kept_126 : decode cX11_kept 126 = .ok (.invokevirtual 170, 3) := by decide +kernel
theorem dX11_kept_129 : decode cX11_kept 129 = .ok (.ifCond .eq 12, 3) := by decide +kernel
theorem dX11_kept_132 : decode cX11_kept 132 = .ok (.iload 5, 2) := by decide +kernel
theorem dX11_kept_134 : decode cX11_kept 134 = .ok (.iconst 1, 1) := by decide +kernel
theorem dX11_kept_135 : decode cX11_kept 135 = .ok (.iload 6, 2) := by decide +kernel
theorem dX11_kept_137 : decode cX11_kept 137 = .ok (.ishl, 1) := by decide +kernel
theorem dX11_kept_138 : decode cX11_kept 138 = .ok (.ior, 1) := by decide +kernel
theorem dX11_kept_139 : decode cX11_kept 139 = .ok (.istore 5, 2) := by decide +kernel
theorem dX11_kept_141 : decode cX11_kept 141 = .ok (.iinc 6 1, 3) := by decide +kernel
theorem dX11_kept_144 : decode cX11_kept 144 = .ok (.goto (-30), 3) := by decide +kernel
theorem dX11_kept_147 : decode cX11_kept 147 = .ok (.iload 5, 2) := by decide +kernel
theorem dX11_kept_149 : decode cX11_kept 149 = .ok (.ireturn, 1) := by decide +kernel
theorem dX11_mayTurn_0 : decode cX11_mayTurn 0 = .ok (.aload_n 0, 1) := by decide +kernel
theorem dX11_mayTurn_1 : decode cX11_mayTurn 1 = .ok (.getfield 42, 3) := by decide +kernel
theorem dX11_mayTurn_4 : decode cX11_mayTurn 4 = .ok (.aload_n 0, 1) := by decide +kernel
theorem dX11_mayTurn_5 : decode cX11_mayTurn 5 = .ok (.getfield 66, 3) := by decide +kernel
theorem dX11_mayTurn_8 : decode cX11_mayTurn 8 = .ok (.iload_n 1, 1) := by decide +kernel
theorem dX11_mayTurn_9 : decode cX11_mayTurn 9 = .ok (.iaload, 1) := by decide +kernel
