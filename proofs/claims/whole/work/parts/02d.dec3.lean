theorem dX12_multiplyBoth_84 : decode cX12_multiplyBoth 84 = .ok (.lastore, 1) := by decide +kernel
theorem dX12_multiplyBoth_85 : decode cX12_multiplyBoth 85 = .ok (.lload 5, 2) := by decide +kernel
theorem dX12_multiplyBoth_87 : decode cX12_multiplyBoth 87 = .ok (.ldc2_w 176, 3) := by decide +kernel
theorem dX12_multiplyBoth_90 : decode cX12_multiplyBoth 90 = .ok (.ldiv, 1) := by decide +kernel
theorem dX12_multiplyBoth_91 : decode cX12_multiplyBoth 91 = .ok (.lstore_n 2, 1) := by decide +kernel
theorem dX12_multiplyBoth_92 : decode cX12_multiplyBoth 92 = .ok (.iinc 4 1, 3) := by decide +kernel
theorem dX12_multiplyBoth_95 : decode cX12_multiplyBoth 95 = .ok (.goto (-60), 3) := by decide +kernel
theorem dX12_multiplyBoth_98 : decode cX12_multiplyBoth 98 = .ok (.aload_n 0, 1) := by decide +kernel
theorem dX12_multiplyBoth_99 : decode cX12_multiplyBoth 99 = .ok (.getfield 58, 3) := by decide +kernel
theorem dX12_multiplyBoth_102 : decode cX12_multiplyBoth 102 = .ok (.iload_n 1, 1) := by decide +kernel
theorem dX12_multiplyBoth_103 : decode cX12_multiplyBoth 103 = .ok (.bipush 10, 2) := by decide +kernel
theorem dX12_multiplyBoth_105 : decode cX12_multiplyBoth 105 = .ok (.iadd, 1) := by decide +kernel
theorem dX12_multiplyBoth_106 : decode cX12_multiplyBoth 106 = .ok (.dup2, 1) := by decide +kernel
theorem dX12_multiplyBoth_107 : decode cX12_multiplyBoth 107 = .ok (.laload, 1) := by decide +kernel
theorem dX12_multiplyBoth_108 : decode cX12_multiplyBoth 108 = .ok (.lload_n 2, 1) := by decide +kernel
theorem dX12_multiplyBoth_109 : decode cX12_multiplyBoth 109 = .ok (.ladd, 1) := by decide +kernel
theorem dX12_multiplyBoth_110 : decode cX12_multiplyBoth 110 = .ok (.lastore, 1) := by decide +kernel
theorem dX12_multiplyBoth_111 : decode cX12_multiplyBoth 111 = .ok (.iinc 1 1, 3) := by decide +kernel
theorem dX12_multiplyBoth_114 : decode cX12_multiplyBoth 114 = .ok (.goto (-90), 3) := by decide +kernel
theorem dX12_multiplyBoth_117 : decode cX12_multiplyBoth 117 = .ok (.iconst 0, 1) := by decide +kernel
theorem dX12_multiplyBoth_118 : decode cX12_multiplyBoth 118 = .ok (.istore_n 1, 1) := by decide +kernel
theorem dX12_multiplyBoth_119 : decode cX12_multiplyBoth 119 = .ok (.iload_n 1, 1) := by decide +kernel
theorem dX12_multiplyBoth_120 : decode cX12_multiplyBoth 120 = .ok (.bipush 100, 2) := by decide +kernel
theorem dX12_multiplyBoth_122 : decode cX12_multiplyBoth 122 = .ok (.if_icmp .ge 21, 3) := by decide +kernel
theorem dX12_multiplyBoth_125 : decode cX12_multiplyBoth 125 = .ok (.aload_n 0, 1) := by decide +kernel
theorem dX12_multiplyBoth_126 : decode cX12_multiplyBoth 126 = .ok (.getfield 52, 3) := by decide +kernel
theorem dX12_multiplyBoth_129 : decode cX12_multiplyBoth 129 = .ok (.iload_n 1, 1) := by decide +kernel
theorem dX12_multiplyBoth_130 : decode cX12_multiplyBoth 130 = .ok (.aload_n 0, 1) := by decide +kernel
theorem dX12_multiplyBoth_131 : decode cX12_multiplyBoth 131 = .ok (.getfield 58, 3) := by decide +kernel
theorem dX12_multiplyBoth_134 : decode cX12_multiplyBoth 134 = .ok (.iload_n 1, 1) := by decide +kernel
theorem dX12_multiplyBoth_135 : decode cX12_multiplyBoth 135 = .ok (.laload, 1) := by decide +kernel
theorem dX12_multiplyBoth_136 : decode cX12_multiplyBoth 136 = .ok (.lastore, 1) := by decide +kernel
theorem dX12_multiplyBoth_137 : decode cX12_multiplyBoth 137 = .ok (.iinc 1 1, 3) := by decide +kernel
theorem dX12_multiplyBoth_140 : decode cX12_multiplyBoth 140 = .ok (.goto (-21), 3) := by decide +kernel
theorem dX12_multiplyBoth_143 : decode cX12_multiplyBoth 143 = .ok (.return_, 1) := by decide +kernel
theorem dX12_compare_0 : decode cX12_compare 0 = .ok (.bipush 99, 2) := by decide +kernel
theorem dX12_compare_2 : decode cX12_compare 2 = .ok (.istore_n 2, 1) := by decide +kernel
theorem dX12_compare_3 : decode cX12_compare 3 = .ok (.iload_n 2, 1) := by decide +kernel
theorem dX12_compare_4 : decode cX12_compare 4 = .ok (.ifCond .lt 35, 3) := by decide +kernel
theorem dX12_compare_7 : decode cX12_compare 7 = .ok (.aload_n 0, 1) := by decide +kernel
theorem dX12_compare_8 : decode cX12_compare 8 = .ok (.iload_n 2, 1) := by decide +kernel
theorem dX12_compare_9 : decode cX12_compare 9 = .ok (.laload, 1) := by decide +kernel
theorem dX12_compare_10 : decode cX12_compare 10 = .ok (.aload_n 1, 1) := by decide +kernel
theorem dX12_compare_11 : decode cX12_compare 11 = .ok (.iload_n 2, 1) := by decide +kernel
theorem dX12_compare_12 : decode cX12_compare 12 = .ok (.laload, 1) := by decide +kernel
theorem dX12_compare_13 : decode cX12_compare 13 = .ok (.lcmp, 1) := by decide +kernel
theorem dX12_compare_14 : decode cX12_compare 14 = .ok (.ifCond .eq 19, 3) := by decide +kernel
theorem dX12_compare_17 : decode cX12_compare 17 = .ok (.aload_n 0, 1) := by decide +kernel
theorem dX12_compare_18 : decode cX12_compare 18 = .ok (.iload_n 2, 1) := by decide +kernel
theorem dX12_compare_19 : decode cX12_compare 19 = .ok (.laload, 1) := by decide +kernel
theorem dX12_compare_20 : decode cX12_compare 20 = .ok (.aload_n 1, 1) := by decide +kernel
theorem dX12_compare_21 : decode cX12_compare 21 = .ok (.iload_n 2, 1) := by decide +kernel
theorem dX12_compare_22 : decode cX12_compare 22 = .ok (.laload, 1) := by decide +kernel
theorem dX12_compare_23 : decode cX12_compare 23 = .ok (.lcmp, 1) := by decide +kernel
theorem dX12_compare_24 : decode cX12_compare 24 = .ok (.ifCond .ge 7, 3) := by decide +kernel
theorem dX12_compare_27 : decode cX12_compare 27 = .ok (.iconst (-1), 1) := by decide +kernel
theorem dX12_compare_28 : decode cX12_compare 28 = .ok (.goto 4, 3) := by decide +kernel
theorem dX12_compare_31 : decode cX12_compare 31 = .ok (.iconst 1, 1) := by decide +kernel
theorem dX12_compare_32 : decode cX12_compare 32 = .ok (.ireturn, 1) := by decide +kernel
theorem dX12_compare_33 : decode cX12_compare 33 = .ok (.iinc 2 (-1), 3) := by decide +kernel
theorem dX12_compare_36 : decode cX12_compare 36 = .ok (.goto (-33), 3) := by decide +kernel
theorem dX12_compare_39 : decode cX12_compare 39 = .ok (.iconst 0, 1) := by decide +kernel
theorem dX12_compare_40 : decode cX12_compare 40 = .ok (.ireturn, 1) := by decide +kernel
theorem dX12_findFactor_0 : decode cX12_findFactor 0 = .ok (.sipush 700, 3) := by decide +kernel
theorem dX12_findFactor_3 : decode cX12_findFactor 3 = .ok (.iconst 3, 1) := by decide +kernel
theorem dX12_findFactor_4 : decode cX12_findFactor 4 = .ok (.iload_n 1, 1) := by decide +kernel
theorem dX12_findFactor_5 : decode cX12_findFactor 5 = .ok (.imul, 1) := by decide +kernel
theorem dX12_findFactor_6 : decode cX12_findFactor 6 = .ok (.iadd, 1) := by decide +kernel
theorem dX12_findFactor_7 : decode cX12_findFactor 7 = .ok (.istore_n 3, 1) := by decide +kernel
theorem dX12_findFactor_8 : decode cX12_findFactor 8 = .ok (.sipush 720, 3) := by decide +kernel
theorem dX12_findFactor_11 : decode cX12_findFactor 11 = .ok (.iconst 4, 1) := by decide +kernel
theorem dX12_findFactor_12 : decode cX12_findFactor 12 = .ok (.iload_n 2, 1) := by decide +kernel
theorem dX12_findFactor_13 : decode cX12_findFactor 13 = .ok (.imul, 1) := by decide +kernel
theorem dX12_findFactor_14 : decode cX12_findFactor 14 = .ok (.iadd, 1) := by decide +kernel
theorem dX12_findFactor_15 : decode cX12_findFactor 15 = .ok (.istore 4, 2) := by decide +kernel
theorem dX12_findFactor_17 : decode cX12_findFactor 17 = .ok (.aload_n 0, 1) := by decide +kernel
theorem dX12_findFactor_18 : decode cX12_findFactor 18 = .ok (.getfield 13, 3) := by decide +kernel
theorem dX12_findFactor_21 : decode cX12_findFactor 21 = .ok (.iload_n 3, 1) := by decide +kernel
theorem dX12_findFactor_22 : decode cX12_findFactor 22 = .ok (.iconst 2, 1) := by decide +kernel
theorem dX12_findFactor_23 : decode cX12_findFactor 23 = .ok (.iadd, 1) := by decide +kernel
theorem dX12_findFactor_24 : decode cX12_findFactor 24 = .ok (.iaload, 1) := by decide +kernel
theorem dX12_findFactor_25 : decode cX12_findFactor 25 = .ok (.aload_n 0, 1) := by decide +kernel
theorem dX12_findFactor_26 : decode cX12_findFactor 26 = .ok (.getfield 13, 3) := by decide +kernel
theorem dX12_findFactor_29 : decode cX12_findFactor 29 = .ok (.iload 4, 2) := by decide +kernel
theorem dX12_findFactor_31 : decode cX12_findFactor 31 = .ok (.iconst 1, 1) := by decide +kernel
theorem dX12_findFactor_32 : decode cX12_findFactor 32 = .ok (.iadd, 1) := by decide +kernel
theorem dX12_findFactor_33 : decode cX12_findFactor 33 = .ok (.iaload, 1) := by decide +kernel
theorem dX12_findFactor_34 : decode cX12_findFactor 34 = .ok (.if_icmp .lt 14, 3) := by decide +kernel
theorem dX12_findFactor_37 : decode cX12_findFactor 37 = .ok (.aload_n 0, 1) := by decide +kernel
theorem dX12_findFactor_38 : decode cX12_findFactor 38 = .ok (.getfield 13, 3) := by decide +kernel
theorem dX12_findFactor_41 : decode cX12_findFactor 41 = .ok (.iload_n 3, 1) := by decide +kernel
theorem dX12_findFactor_42 : decode cX12_findFactor 42 = .ok (.iconst 1, 1) := by decide +kernel
theorem dX12_findFactor_43 : decode cX12_findFactor 43 = .ok (.iadd, 1) := by decide +kernel
theorem dX12_findFactor_44 : decode cX12_findFactor 44 = .ok (.iaload, 1) := by decide +kernel
theorem dX12_findFactor_45 : decode cX12_findFactor 45 = .ok (.goto 4, 3) := by decide +kernel
theorem dX12_findFactor_48 : decode cX12_findFactor 48 = .ok (.iconst 0, 1) := by decide +kernel
theorem dX12_findFactor_49 : decode cX12_findFactor 49 = .ok (.istore 5, 2) := by decide +kernel
theorem dX12_findFactor_51 : decode cX12_findFactor 51 = .ok (.aload_n 0, 1) := by decide +kernel
theorem dX12_findFactor_52 : decode cX12_findFactor 52 = .ok (.getfield 55, 3) := by decide +kernel
theorem dX12_findFactor_55 : decode cX12_findFactor 55 = .ok (.lconst 1, 1) := by decide +kernel
theorem dX12_findFactor_56 : decode cX12_findFactor 56 = .ok (.invokestatic 369, 3) := by decide +kernel
theorem dX12_findFactor_59 : decode cX12_findFactor 59 = .ok (.iconst 0, 1) := by decide +kernel
theorem dX12_findFactor_60 : decode cX12_findFactor 60 = .ok (.istore 6, 2) := by decide +kernel
theorem dX12_findFactor_62 : decode cX12_findFactor 62 = .ok (.iload 6, 2) := by decide +kernel
theorem dX12_findFactor_64 : decode cX12_findFactor 64 = .ok (.bipush 20, 2) := by decide +kernel
theorem dX12_findFactor_66 : decode cX12_findFactor 66 = .ok (.if_icmp .ge 41, 3) := by decide +kernel
theorem dX12_findFactor_69 : decode cX12_findFactor 69 = .ok (.aload_n 0, 1) := by decide +kernel
theorem dX12_findFactor_70 : decode cX12_findFactor 70 = .ok (.getfield 55, 3) := by decide +kernel
theorem dX12_findFactor_73 : decode cX12_findFactor 73 = .ok (.iload 6, 2) := by decide +kernel
theorem dX12_findFactor_75 : decode cX12_findFactor 75 = .ok (.iload 5, 2) := by decide +kernel
theorem dX12_findFactor_77 : decode cX12_findFactor 77 = .ok (.if_icmp .ge 18, 3) := by decide +kernel
theorem dX12_findFactor_80 : decode cX12_findFactor 80 = .ok (.ldc2_w 116, 3) := by decide +kernel
theorem dX12_findFactor_83 : decode cX12_findFactor 83 = .ok (.aload_n 0, 1) := by decide +kernel
theorem dX12_findFactor_84 : decode cX12_findFactor 84 = .ok (.getfield 13, 3) := by decide +kernel
theorem dX12_findFactor_87 : decode cX12_findFactor 87 = .ok (.iload 4, 2) := by decide +kernel
theorem dX12_findFactor_89 : decode cX12_findFactor 89 = .ok (.iaload, 1) := by decide +kernel
theorem dX12_findFactor_90 : decode cX12_findFactor 90 = .ok (.i2l, 1) := by decide +kernel
theorem dX12_findFactor_91 : decode cX12_findFactor 91 = .ok (.lsub, 1) := by decide +kernel
theorem dX12_findFactor_92 : decode cX12_findFactor 92 = .ok (.goto 6, 3) := by decide +kernel
theorem dX12_findFactor_95 : decode cX12_findFactor 95 = .ok (.ldc2_w 116, 3) := by decide +kernel
theorem dX12_findFactor_98 : decode cX12_findFactor 98 = .ok (.invokestatic 373, 3) := by decide +kernel
theorem dX12_findFactor_101 : decode cX12_findFactor 101 = .ok (.iinc 6 1, 3) := by decide +kernel
theorem dX12_findFactor_104 : decode cX12_findFactor 104 = .ok (.goto (-42), 3) := by decide +kernel
theorem dX12_findFactor_107 : decode cX12_findFactor 107 = .ok (.aload_n 0, 1) := by decide +kernel
theorem dX12_findFactor_108 : decode cX12_findFactor 108 = .ok (.getfield 55, 3) := by decide +kernel
theorem dX12_findFactor_111 : decode cX12_findFactor 111 = .ok (.ldc2_w 116, 3) := by decide +kernel
theorem dX12_findFactor_114 : decode cX12_findFactor 114 = .ok (.aload_n 0, 1) := by decide +kernel
theorem dX12_findFactor_115 : decode cX12_findFactor 115 = .ok (.getfield 13, 3) := by decide +kernel
theorem dX12_findFactor_118 : decode cX12_findFactor 118 = .ok (.iload 4, 2) := by decide +kernel
theorem dX12_findFactor_120 : decode cX12_findFactor 120 = .ok (.iconst 2, 1) := by decide +kernel
theorem dX12_findFactor_121 : decode cX12_findFactor 121 = .ok (.iadd, 1) := by decide +kernel
theorem dX12_findFactor_122 : decode cX12_findFactor 122 = .ok (.iaload, 1) := by decide +kernel
theorem dX12_findFactor_123 : decode cX12_findFactor 123 = .ok (.i2l, 1) := by decide +kernel
theorem dX12_findFactor_124 : decode cX12_findFactor 124 = .ok (.lsub, 1) := by decide +kernel
theorem dX12_findFactor_125 : decode cX12_findFactor 125 = .ok (.invokestatic 373, 3) := by decide +kernel
theorem dX12_findFactor_128 : decode cX12_findFactor 128 = .ok (.aload_n 0, 1) := by decide +kernel
theorem dX12_findFactor_129 : decode cX12_findFactor 129 = .ok (.getfield 13, 3) := by decide +kernel
theorem dX12_findFactor_132 : decode cX12_findFactor 132 = .ok (.iload 4, 2) := by decide +kernel
theorem dX12_findFactor_134 : decode cX12_findFactor 134 = .ok (.iconst 3, 1) := by decide +kernel
theorem dX12_findFactor_135 : decode cX12_findFactor 135 = .ok (.iadd, 1) := by decide +kernel
theorem dX12_findFactor_136 : decode cX12_findFactor 136 = .ok (.iaload, 1) := by decide +kernel
theorem dX12_findFactor_137 : decode cX12_findFactor 137 = .ok (.iconst 1, 1) := by decide +kernel
theorem dX12_findFactor_138 : decode cX12_findFactor 138 = .ok (.if_icmp .ne 97, 3) := by decide +kernel
theorem dX12_findFactor_141 : decode cX12_findFactor 141 = .ok (.aload_n 0, 1) := by decide +kernel
theorem dX12_findFactor_142 : decode cX12_findFactor 142 = .ok (.getfield 64, 3) := by decide +kernel
theorem dX12_findFactor_145 : decode cX12_findFactor 145 = .ok (.lconst 0, 1) := by decide +kernel
theorem dX12_findFactor_146 : decode cX12_findFactor 146 = .ok (.invokestatic 369, 3) := by decide +kernel
theorem dX12_findFactor_149 : decode cX12_findFactor 149 = .ok (.aload_n 0, 1) := by decide +kernel
theorem dX12_findFactor_150 : decode cX12_findFactor 150 = .ok (.getfield 64, 3) := by decide +kernel
theorem dX12_findFactor_153 : decode cX12_findFactor 153 = .ok (.bipush 7, 2) := by decide +kernel
theorem dX12_findFactor_155 : decode cX12_findFactor 155 = .ok (.lconst 1, 1) := by decide +kernel
theorem dX12_findFactor_156 : decode cX12_findFactor 156 = .ok (.lastore, 1) := by decide +kernel
theorem dX12_findFactor_157 : decode cX12_findFactor 157 = .ok (.lconst 0, 1) := by decide +kernel
theorem dX12_findFactor_158 : decode cX12_findFactor 158 = .ok (.lstore 6, 2) := by decide +kernel
theorem dX12_findFactor_160 : decode cX12_findFactor 160 = .ok (.iconst 0, 1) := by decide +kernel
theorem dX12_findFactor_161 : decode cX12_findFactor 161 = .ok (.istore 8, 2) := by decide +kernel
theorem dX12_findFactor_163 : decode cX12_findFactor 163 = .ok (.iload 8, 2) := by decide +kernel
theorem dX12_findFactor_165 : decode cX12_findFactor 165 = .ok (.bipush 100, 2) := by decide +kernel
theorem dX12_findFactor_167 : decode cX12_findFactor 167 = .ok (.if_icmp .ge 68, 3) := by decide +kernel
theorem dX12_findFactor_170 : decode cX12_findFactor 170 = .ok (.aload_n 0, 1) := by decide +kernel
theorem dX12_findFactor_171 : decode cX12_findFactor 171 = .ok (.getfield 64, 3) := by decide +kernel
theorem dX12_findFactor_174 : decode cX12_findFactor 174 = .ok (.iload 8, 2) := by decide +kernel
theorem dX12_findFactor_176 : decode cX12_findFactor 176 = .ok (.laload, 1) := by decide +kernel
theorem dX12_findFactor_177 : decode cX12_findFactor 177 = .ok (.aload_n 0, 1) := by decide +kernel
theorem dX12_findFactor_178 : decode cX12_findFactor 178 = .ok (.getfield 55, 3) := by decide +kernel
theorem dX12_findFactor_181 : decode cX12_findFactor 181 = .ok (.iload 8, 2) := by decide +kernel
theorem dX12_findFactor_183 : decode cX12_findFactor 183 = .ok (.laload, 1) := by decide +kernel
theorem dX12_findFactor_184 : decode cX12_findFactor 184 = .ok (.lsub, 1) := by decide +kernel
theorem dX12_findFactor_185 : decode cX12_findFactor 185 = .ok (.lload 6, 2) := by decide +kernel
theorem dX12_findFactor_187 : decode cX12_findFactor 187 = .ok (.lsub, 1) := by decide +kernel
theorem dX12_findFactor_188 : decode cX12_findFactor 188 = .ok (.lstore 9, 2) := by decide +kernel
theorem dX12_findFactor_190 : decode cX12_findFactor 190 = .ok (.lload 9, 2) := by decide +kernel
theorem dX12_findFactor_192 : decode cX12_findFactor 192 = .ok (.lconst 0, 1) := by decide +kernel
theorem dX12_findFactor_193 : decode cX12_findFactor 193 = .ok (.lcmp, 1) := by decide +kernel
theorem dX12_findFactor_194 : decode cX12_findFactor 194 = .ok (.ifCond .ge 7, 3) := by decide +kernel
theorem dX12_findFactor_197 : decode cX12_findFactor 197 = .ok (.lconst 1, 1) := by decide +kernel
theorem dX12_findFactor_198 : decode cX12_findFactor 198 = .ok (.goto 4, 3) := by decide +kernel
theorem dX12_findFactor_201 : decode cX12_findFactor 201 = .ok (.lconst 0, 1) := by decide +kernel
theorem dX12_findFactor_202 : decode cX12_findFactor 202 = .ok (.lstore 6, 2) := by decide +kernel
theorem dX12_findFactor_204 : decode cX12_findFactor 204 = .ok (.aload_n 0, 1) := by decide +kernel
theorem dX12_findFactor_205 : decode cX12_findFactor 205 = .ok (.getfield 55, 3) := by decide +kernel
theorem dX12_findFactor_208 : decode cX12_findFactor 208 = .ok (.iload 8, 2) := by decide +kernel
theorem dX12_findFactor_210 : decode cX12_findFactor 210 = .ok (.lload 9, 2) := by decide +kernel
theorem dX12_findFactor_212 : decode cX12_findFactor 212 = .ok (.lconst 0, 1) := by decide +kernel
theorem dX12_findFactor_213 : decode cX12_findFactor 213 = .ok (.lcmp, 1) := by decide +kernel
theorem dX12_findFactor_214 : decode cX12_findFactor 214 = .ok (.ifCond .ge 12, 3) := by decide +kernel
theorem dX12_findFactor_217 : decode cX12_findFactor 217 = .ok (.lload 9, 2) := by decide +kernel
theorem dX12_findFactor_219 : decode cX12_findFactor 219 = .ok (.ldc2_w 176, 3) := by decide +kernel
theorem dX12_findFactor_222 : decode cX12_findFactor 222 = .ok (.ladd, 1) := by decide +kernel
theorem dX12_findFactor_223 : decode cX12_findFactor 223 = .ok (.goto 5, 3) := by decide +kernel
theorem dX12_findFactor_226 : decode cX12_findFactor 226 = .ok (.lload 9, 2) := by decide +kernel
theorem dX12_findFactor_228 : decode cX12_findFactor 228 = .ok (.lastore, 1) := by decide +kernel
theorem dX12_findFactor_229 : decode cX12_findFactor 229 = .ok (.iinc 8 1, 3) := by decide +kernel
theorem dX12_findFactor_232 : decode cX12_findFactor 232 = .ok (.goto (-69), 3) := by decide +kernel
theorem dX12_findFactor_235 : decode cX12_findFactor 235 = .ok (.return_, 1) := by decide +kernel
theorem dX12_findCount_0 : decode cX12_findCount 0 = .ok (.aload_n 0, 1) := by decide +kernel
theorem dX12_findCount_1 : decode cX12_findCount 1 = .ok (.getfield 52, 3) := by decide +kernel
theorem dX12_findCount_4 : decode cX12_findCount 4 = .ok (.aload_n 0, 1) := by decide +kernel
theorem dX12_findCount_5 : decode cX12_findCount 5 = .ok (.getfield 13, 3) := by decide +kernel
theorem dX12_findCount_8 : decode cX12_findCount 8 = .ok (.sipush 700, 3) := by decide +kernel
theorem dX12_findCount_11 : decode cX12_findCount 11 = .ok (.iconst 3, 1) := by decide +kernel
theorem dX12_findCount_12 : decode cX12_findCount 12 = .ok (.iload_n 1, 1) := by decide +kernel
theorem dX12_findCount_13 : decode cX12_findCount 13 = .ok (.imul, 1) := by decide +kernel
theorem dX12_findCount_14 : decode cX12_findCount 14 = .ok (.iadd, 1) := by decide +kernel
theorem dX12_findCount_15 : decode cX12_findCount 15 = .ok (.iaload, 1) := by decide +kernel
theorem dX12_findCount_16 : decode cX12_findCount 16 = .ok (.i2l, 1) := by decide +kernel
theorem dX12_findCount_17 : decode cX12_findCount 17 = .ok (.invokestatic 369, 3) := by decide +kernel
theorem dX12_findCount_20 : decode cX12_findCount 20 = .ok (.iconst 0, 1) := by decide +kernel
theorem dX12_findCount_21 : decode cX12_findCount 21 = .ok (.istore_n 3, 1) := by decide +kernel
theorem dX12_findCount_22 : decode cX12_findCount 22 = .ok (.iload_n 3, 1) := by decide +kernel
theorem dX12_findCount_23 : decode cX12_findCount 23 = .ok (.aload_n 0, 1) := by decide +kernel
theorem dX12_findCount_24 : decode cX12_findCount 24 = .ok (.getfield 13, 3) := by decide +kernel
theorem dX12_findCount_27 : decode cX12_findCount 27 = .ok (.bipush 8, 2) := by decide +kernel
theorem dX12_findCount_29 : decode cX12_findCount 29 = .ok (.iaload, 1) := by decide +kernel
theorem dX12_findCount_30 : decode cX12_findCount 30 = .ok (.if_icmp .ge 24, 3) := by decide +kernel
theorem dX12_findCount_33 : decode cX12_findCount 33 = .ok (.iload_n 3, 1) := by decide +kernel
theorem dX12_findCount_34 : decode cX12_findCount 34 = .ok (.iload_n 2, 1) := by decide +kernel
theorem dX12_findCount_35 : decode cX12_findCount 35 = .ok (.if_icmp .eq 13, 3) := by decide +kernel
theorem dX12_findCount_38 : decode cX12_findCount 38 = .ok (.aload_n 0, 1) := by decide +kernel
theorem dX12_findCount_39 : decode cX12_findCount 39 = .ok (.iload_n 1, 1) := by decide +kernel
theorem dX12_findCount_40 : decode cX12_findCount 40 = .ok (.iload_n 3, 1) := by decide +kernel
theorem dX12_findCount_41 : decode cX12_findCount 41 = .ok (.invokevirtual 376, 3) := by decide +kernel
theorem dX12_findCount_44 : decode cX12_findCount 44 = .ok (.aload_n 0, 1) := by decide +kernel
theorem dX12_findCount_45 : decode cX12_findCount 45 = .ok (.invokevirtual 379, 3) := by decide +kernel
theorem dX12_findCount_48 : decode cX12_findCount 48 = .ok (.iinc 3 1, 3) := by decide +kernel
theorem dX12_findCount_51 : decode cX12_findCount 51 = .ok (.goto (-29), 3) := by decide +kernel
theorem dX12_findCount_54 : decode cX12_findCount 54 = .ok (.return_, 1) := by decide +kernel
theorem dX12_oddsOf_0 : decode cX12_oddsOf 0 = .ok (.aload_n 0, 1) := by decide +kernel
theorem dX12_oddsOf_1 : decode cX12_oddsOf 1 = .ok (.getfield 61, 3) := by decide +kernel
theorem dX12_oddsOf_4 : decode cX12_oddsOf 4 = .ok (.lconst 0, 1) := by decide +kernel
theorem dX12_oddsOf_5 : decode cX12_oddsOf 5 = .ok (.invokestatic 369, 3) := by decide +kernel
theorem dX12_oddsOf_8 : decode cX12_oddsOf 8 = .ok (.iconst 0, 1) := by decide +kernel
theorem dX12_oddsOf_9 : decode cX12_oddsOf 9 = .ok (.istore_n 3, 1) := by decide +kernel
theorem dX12_oddsOf_10 : decode cX12_oddsOf 10 = .ok (.iload_n 3, 1) := by decide +kernel
theorem dX12_oddsOf_11 : decode cX12_oddsOf 11 = .ok (.aload_n 0, 1) := by decide +kernel
theorem dX12_oddsOf_12 : decode cX12_oddsOf 12 = .ok (.getfield 13, 3) := by decide +kernel
theorem dX12_oddsOf_15 : decode cX12_oddsOf 15 = .ok (.bipush 7, 2) := by decide +kernel
theorem dX12_oddsOf_17 : decode cX12_oddsOf 17 = .ok (.iaload, 1) := by decide +kernel
theorem dX12_oddsOf_18 : decode cX12_oddsOf 18 = .ok (.if_icmp .ge 75, 3) := by decide +kernel
theorem dX12_oddsOf_21 : decode cX12_oddsOf 21 = .ok (.aload_n 0, 1) := by decide +kernel
theorem dX12_oddsOf_22 : decode cX12_oddsOf 22 = .ok (.iload_n 3, 1) := by decide +kernel
theorem dX12_oddsOf_23 : decode cX12_oddsOf 23 = .ok (.iload_n 2, 1) := by decide +kernel
theorem dX12_oddsOf_24 : decode cX12_oddsOf 24 = .ok (.invokevirtual 382, 3) := by decide +kernel
theorem dX12_oddsOf_27 : decode cX12_oddsOf 27 = .ok (.lconst 0, 1) := by decide +kernel
theorem dX12_oddsOf_28 : decode cX12_oddsOf 28 = .ok (.lstore 4, 2) := by decide +kernel
theorem dX12_oddsOf_30 : decode cX12_oddsOf 30 = .ok (.iconst 0, 1) := by decide +kernel
theorem dX12_oddsOf_31 : decode cX12_oddsOf 31 = .ok (.istore 6, 2) := by decide +kernel
theorem dX12_oddsOf_33 : decode cX12_oddsOf 33 = .ok (.iload 6, 2) := by decide +kernel
theorem dX12_oddsOf_35 : decode cX12_oddsOf 35 = .ok (.bipush 100, 2) := by decide +kernel
theorem dX12_oddsOf_37 : decode cX12_oddsOf 37 = .ok (.if_icmp .ge 50, 3) := by decide +kernel
theorem dX12_oddsOf_40 : decode cX12_oddsOf 40 = .ok (.aload_n 0, 1) := by decide +kernel
theorem dX12_oddsOf_41 : decode cX12_oddsOf 41 = .ok (.getfield 61, 3) := by decide +kernel
theorem dX12_oddsOf_44 : decode cX12_oddsOf 44 = .ok (.iload 6, 2) := by decide +kernel
theorem dX12_oddsOf_46 : decode cX12_oddsOf 46 = .ok (.laload, 1) := by decide +kernel
theorem dX12_oddsOf_47 : decode cX12_oddsOf 47 = .ok (.aload_n 0, 1) := by decide +kernel
theorem dX12_oddsOf_48 : decode cX12_oddsOf 48 = .ok (.getfield 52, 3) := by decide +kernel
theorem dX12_oddsOf_51 : decode cX12_oddsOf 51 = .ok (.iload 6, 2) := by decide +kernel
theorem dX12_oddsOf_53 : decode cX12_oddsOf 53 = .ok (.laload, 1) := by decide +kernel
theorem dX12_oddsOf_54 : decode cX12_oddsOf 54 = .ok (.ladd, 1) := by decide +kernel
theorem dX12_oddsOf_55 : decode cX12_oddsOf 55 = .ok (.lload 4, 2) := by decide +kernel
theorem dX12_oddsOf_57 : decode cX12_oddsOf 57 = .ok (.ladd, 1) := by decide +kernel
theorem dX12_oddsOf_58 : decode cX12_oddsOf 58 = .ok (.lstore 7, 2) := by decide +kernel
theorem dX12_oddsOf_60 : decode cX12_oddsOf 60 = .ok (.aload_n 0, 1) := by decide +kernel
theorem dX12_oddsOf_61 : decode cX12_oddsOf 61 = .ok (.getfield 61, 3) := by decide +kernel
theorem dX12_oddsOf_64 : decode cX12_oddsOf 64 = .ok (.iload 6, 2) := by decide +kernel
theorem dX12_oddsOf_66 : decode cX12_oddsOf 66 = .ok (.lload 7, 2) := by decide +kernel
theorem dX12_oddsOf_68 : decode cX12_oddsOf 68 = .ok (.ldc2_w 176, 3) := by decide +kernel
theorem dX12_oddsOf_71 : decode cX12_oddsOf 71 = .ok (.lrem, 1) := by decide +kernel
theorem dX12_oddsOf_72 : decode cX12_oddsOf 72 = .ok (.lastore, 1) := by decide +kernel
theorem dX12_oddsOf_73 : decode cX12_oddsOf 73 = .ok (.lload 7, 2) := by decide +kernel
theorem dX12_oddsOf_75 : decode cX12_oddsOf 75 = .ok (.ldc2_w 176, 3) := by decide +kernel
theorem dX12_oddsOf_78 : decode cX12_oddsOf 78 = .ok (.ldiv, 1) := by decide +kernel
theorem dX12_oddsOf_79 : decode cX12_oddsOf 79 = .ok (.lstore 4, 2) := by decide +kernel
theorem dX12_oddsOf_81 : decode cX12_oddsOf 81 = .ok (.iinc 6 1, 3) := by decide +kernel
theorem dX12_oddsOf_84 : decode cX12_oddsOf 84 = .ok (.goto (-51), 3) := by decide +kernel
theorem dX12_oddsOf_87 : decode cX12_oddsOf 87 = .ok (.iinc 3 1, 3) := by decide +kernel
theorem dX12_oddsOf_90 : decode cX12_oddsOf 90 = .ok (.goto (-80), 3) := by decide +kernel
theorem dX12_oddsOf_93 : decode cX12_oddsOf 93 = .ok (.aload_n 0, 1) := by decide +kernel
theorem dX12_oddsOf_94 : decode cX12_oddsOf 94 = .ok (.iload_n 1, 1) := by decide +kernel
theorem dX12_oddsOf_95 : decode cX12_oddsOf 95 = .ok (.iload_n 2, 1) := by decide +kernel
theorem dX12_oddsOf_96 : decode cX12_oddsOf 96 = .ok (.invokevirtual 382, 3) := by decide +kernel
theorem dX12_oddsOf_99 : decode cX12_oddsOf 99 = .ok (.aload_n 0, 1) := by decide +kernel
theorem dX12_oddsOf_100 : decode cX12_oddsOf 100 = .ok (.getfield 52, 3) := by decide +kernel
theorem dX12_oddsOf_103 : decode cX12_oddsOf 103 = .ok (.ldc2_w 176, 3) := by decide +kernel
theorem dX12_oddsOf_106 : decode cX12_oddsOf 106 = .ok (.invokestatic 373, 3) := by decide +kernel
theorem dX12_oddsOf_109 : decode cX12_oddsOf 109 = .ok (.iconst 0, 1) := by decide +kernel
theorem dX12_oddsOf_110 : decode cX12_oddsOf 110 = .ok (.istore_n 3, 1) := by decide +kernel
theorem dX12_oddsOf_111 : decode cX12_oddsOf 111 = .ok (.ldc_w 385, 3) := by decide +kernel
theorem dX12_oddsOf_114 : decode cX12_oddsOf 114 = .ok (.istore 4, 2) := by decide +kernel
theorem dX12_oddsOf_116 : decode cX12_oddsOf 116 = .ok (.iload_n 3, 1) := by decide +kernel
theorem dX12_oddsOf_117 : decode cX12_oddsOf 117 = .ok (.iload 4, 2) := by decide +kernel
theorem dX12_oddsOf_119 : decode cX12_oddsOf 119 = .ok (.if_icmp .ge 82, 3) := by decide +kernel
theorem dX12_oddsOf_122 : decode cX12_oddsOf 122 = .ok (.iload_n 3, 1) := by decide +kernel
theorem dX12_oddsOf_123 : decode cX12_oddsOf 123 = .ok (.iload 4, 2) := by decide +kernel
theorem dX12_oddsOf_125 : decode cX12_oddsOf 125 = .ok (.iadd, 1) := by decide +kernel
theorem dX12_oddsOf_126 : decode cX12_oddsOf 126 = .ok (.iconst 1, 1) := by decide +kernel
theorem dX12_oddsOf_127 : decode cX12_oddsOf 127 = .ok (.iadd, 1) := by decide +kernel
theorem dX12_oddsOf_128 : decode cX12_oddsOf 128 = .ok (.iconst 2, 1) := by decide +kernel
theorem dX12_oddsOf_129 : decode cX12_oddsOf 129 = .ok (.idiv, 1) := by decide +kernel
theorem dX12_oddsOf_130 : decode cX12_oddsOf 130 = .ok (.istore 5, 2) := by decide +kernel
theorem dX12_oddsOf_132 : decode cX12_oddsOf 132 = .ok (.iconst 0, 1) := by decide +kernel
theorem dX12_oddsOf_133 : decode cX12_oddsOf 133 = .ok (.istore 6, 2) := by decide +kernel
theorem dX12_oddsOf_135 : decode cX12_oddsOf 135 = .ok (.iload 6, 2) := by decide +kernel
theorem dX12_oddsOf_137 : decode cX12_oddsOf 137 = .ok (.bipush 100, 2) := by decide +kernel
theorem dX12_oddsOf_139 : decode cX12_oddsOf 139 = .ok (.if_icmp .ge 23, 3) := by decide +kernel
theorem dX12_oddsOf_142 : decode cX12_oddsOf 142 = .ok (.aload_n 0, 1) := by decide +kernel
theorem dX12_oddsOf_143 : decode cX12_oddsOf 143 = .ok (.getfield 64, 3) := by decide +kernel
theorem dX12_oddsOf_146 : decode cX12_oddsOf 146 = .ok (.iload 6, 2) := by decide +kernel
theorem dX12_oddsOf_148 : decode cX12_oddsOf 148 = .ok (.aload_n 0, 1) := by decide +kernel
theorem dX12_oddsOf_149 : decode cX12_oddsOf 149 = .ok (.getfield 61, 3) := by decide +kernel
theorem dX12_oddsOf_152 : decode cX12_oddsOf 152 = .ok (.iload 6, 2) := by decide +kernel
theorem dX12_oddsOf_154 : decode cX12_oddsOf 154 = .ok (.laload, 1) := by decide +kernel
theorem dX12_oddsOf_155 : decode cX12_oddsOf 155 = .ok (.lastore, 1) := by decide +kernel
theorem dX12_oddsOf_156 : decode cX12_oddsOf 156 = .ok (.iinc 6 1, 3) := by decide +kernel
theorem dX12_oddsOf_159 : decode cX12_oddsOf 159 = .ok (.goto (-24), 3) := by decide +kernel
theorem dX12_oddsOf_162 : decode cX12_oddsOf 162 = .ok (.aload_n 0, 1) := by decide +kernel
theorem dX12_oddsOf_163 : decode cX12_oddsOf 163 = .ok (.getfield 64, 3) := by decide +kernel
theorem dX12_oddsOf_166 : decode cX12_oddsOf 166 = .ok (.iload 5, 2) := by decide +kernel
theorem dX12_oddsOf_168 : decode cX12_oddsOf 168 = .ok (.i2l, 1) := by decide +kernel
theorem dX12_oddsOf_169 : decode cX12_oddsOf 169 = .ok (.invokestatic 373, 3) := by decide +kernel
theorem dX12_oddsOf_172 : decode cX12_oddsOf 172 = .ok (.aload_n 0, 1) := by decide +kernel
theorem dX12_oddsOf_173 : decode cX12_oddsOf 173 = .ok (.getfield 64, 3) := by decide +kernel
theorem dX12_oddsOf_176 : decode cX12_oddsOf 176 = .ok (.aload_n 0, 1) := by decide +kernel
theorem dX12_oddsOf_177 : decode cX12_oddsOf 177 = .ok (.getfield 52, 3) := by decide +kernel
theorem dX12_oddsOf_180 : decode cX12_oddsOf 180 = .ok (.invokestatic 386, 3) := by decide +kernel
theorem dX12_oddsOf_183 : decode cX12_oddsOf 183 = .ok (.ifCond .gt 9, 3) := by decide +kernel
theorem dX12_oddsOf_186 : decode cX12_oddsOf 186 = .ok (.iload 5, 2) := by decide +kernel
theorem dX12_oddsOf_188 : decode cX12_oddsOf 188 = .ok (.istore_n 3, 1) := by decide +kernel
theorem dX12_oddsOf_189 : decode cX12_oddsOf 189 = .ok (.goto 9, 3) := by decide +kernel
theorem dX12_oddsOf_192 : decode cX12_oddsOf 192 = .ok (.iload 5, 2) := by decide +kernel
theorem dX12_oddsOf_194 : decode cX12_oddsOf 194 = .ok (.iconst 1, 1) := by decide +kernel
theorem dX12_oddsOf_195 : decode cX12_oddsOf 195 = .ok (.isub, 1) := by decide +kernel
theorem dX12_oddsOf_196 : decode cX12_oddsOf 196 = .ok (.istore 4, 2) := by decide +kernel
theorem dX12_oddsOf_198 : decode cX12_oddsOf 198 = .ok (.goto (-82), 3) := by decide +kernel
theorem dX12_oddsOf_201 : decode cX12_oddsOf 201 = .ok (.aload_n 0, 1) := by decide +kernel
theorem dX12_oddsOf_202 : decode cX12_oddsOf 202 = .ok (.getfield 64, 3) := by decide +kernel
theorem dX12_oddsOf_205 : decode cX12_oddsOf 205 = .ok (.lconst 0, 1) := by decide +kernel
theorem dX12_oddsOf_206 : decode cX12_oddsOf 206 = .ok (.invokestatic 369, 3) := by decide +kernel
theorem dX12_oddsOf_209 : decode cX12_oddsOf 209 = .ok (.aload_n 0, 1) := by decide +kernel
theorem dX12_oddsOf_210 : decode cX12_oddsOf 210 = .ok (.getfield 61, 3) := by decide +kernel
theorem dX12_oddsOf_213 : decode cX12_oddsOf 213 = .ok (.aload_n 0, 1) := by decide +kernel
theorem dX12_oddsOf_214 : decode cX12_oddsOf 214 = .ok (.getfield 64, 3) := by decide +kernel
theorem dX12_oddsOf_217 : decode cX12_oddsOf 217 = .ok (.invokestatic 386, 3) := by decide +kernel
theorem dX12_oddsOf_220 : decode cX12_oddsOf 220 = .ok (.ifCond .ne 7, 3) := by decide +kernel
theorem dX12_oddsOf_223 : decode cX12_oddsOf 223 = .ok (.iconst 0, 1) := by decide +kernel
theorem dX12_oddsOf_224 : decode cX12_oddsOf 224 = .ok (.goto 4, 3) := by decide +kernel
theorem dX12_oddsOf_227 : decode cX12_oddsOf 227 = .ok (.iload_n 3, 1) := by decide +kernel
theorem dX12_oddsOf_228 : decode cX12_oddsOf 228 = .ok (.ireturn, 1) := by decide +kernel
theorem dX12_story_0 : decode cX12_story 0 = .ok (.aload_n 0, 1) := by decide +kernel
theorem dX12_story_1 : decode cX12_story 1 = .ok (.iconst 0, 1) := by decide +kernel
theorem dX12_story_2 : decode cX12_story 2 = .ok (.putfield 76, 3) := by decide +kernel
theorem dX12_story_5 : decode cX12_story 5 = .ok (.iload_n 1, 1) := by decide +kernel
theorem dX12_story_6 : decode cX12_story 6 = .ok (.i2l, 1) := by decide +kernel
theorem dX12_story_7 : decode cX12_story 7 = .ok (.lconst 0, 1) := by decide +kernel
theorem dX12_story_8 : decode cX12_story 8 = .ok (.ldc2_w 116, 3) := by decide +kernel
theorem dX12_story_11 : decode cX12_story 11 = .ok (.invokestatic 82, 3) := by decide +kernel
theorem dX12_story_14 : decode cX12_story 14 = .ok (.ifCond .eq 27, 3) := by decide +kernel
theorem dX12_story_17 : decode cX12_story 17 = .ok (.iload_n 2, 1) := by decide +kernel
theorem dX12_story_18 : decode cX12_story 18 = .ok (.i2l, 1) := by decide +kernel
theorem dX12_story_19 : decode cX12_story 19 = .ok (.lconst 0, 1) := by decide +kernel
theorem dX12_story_20 : decode cX12_story 20 = .ok (.ldc2_w 199, 3) := by decide +kernel
theorem dX12_story_23 : decode cX12_story 23 = .ok (.invokestatic 82, 3) := by decide +kernel
theorem dX12_story_26 : decode cX12_story 26 = .ok (.ifCond .eq 15, 3) := by decide +kernel
theorem dX12_story_29 : decode cX12_story 29 = .ok (.iload_n 3, 1) := by decide +kernel
theorem dX12_story_30 : decode cX12_story 30 = .ok (.i2l, 1) := by decide +kernel
theorem dX12_story_31 : decode cX12_story 31 = .ok (.lconst 1, 1) := by decide +kernel
theorem dX12_story_32 : decode cX12_story 32 = .ok (.ldc2_w 334, 3) := by decide +kernel
theorem dX12_story_35 : decode cX12_story 35 = .ok (.invokestatic 82, 3) := by decide +kernel
theorem dX12_story_38 : decode cX12_story 38 = .ok (.ifCond .ne 9, 3) := by decide +kernel
theorem dX12_story_41 : decode cX12_story 41 = .ok (.aload_n 0, 1) := by decide +kernel
theorem dX12_story_42 : decode cX12_story 42 = .ok (.iconst (-1), 1) := by decide +kernel
theorem dX12_story_43 : decode cX12_story 43 = .ok (.invokevirtual 86, 3) := by decide +kernel
theorem dX12_story_46 : decode cX12_story 46 = .ok (.ireturn, 1) := by decide +kernel
theorem dX12_story_47 : decode cX12_story 47 = .ok (.aload_n 0, 1) := by decide +kernel
theorem dX12_story_48 : decode cX12_story 48 = .ok (.bipush 7, 2) := by decide +kernel
theorem dX12_story_50 : decode cX12_story 50 = .ok (.bipush 6, 2) := by decide +kernel
theorem dX12_story_52 : decode cX12_story 52 = .ok (.sipush 700, 3) := by decide +kernel
theorem dX12_story_55 : decode cX12_story 55 = .ok (.iconst 3, 1) := by decide +kernel
theorem dX12_story_56 : decode cX12_story 56 = .ok (.iload_n 1, 1) := by decide +kernel
theorem dX12_story_57 : decode cX12_story 57 = .ok (.iload_n 2, 1) := by decide +kernel
theorem dX12_story_58 : decode cX12_story 58 = .ok (.iload_n 3, 1) := by decide +kernel
theorem dX12_story_59 : decode cX12_story 59 = .ok (.iconst 0, 1) := by decide +kernel
theorem dX12_story_60 : decode cX12_story 60 = .ok (.invokevirtual 109, 3) := by decide +kernel
theorem dX12_story_63 : decode cX12_story 63 = .ok (.ireturn, 1) := by decide +kernel
theorem dX12_isNet_0 : decode cX12_isNet 0 = .ok (.iload_n 0, 1) := by decide +kernel
theorem dX12_isNet_1 : decode cX12_isNet 1 = .ok (.i2l, 1) := by decide +kernel
theorem dX12_isNet_2 : decode cX12_isNet 2 = .ok (.lconst 0, 1) := by decide +kernel
theorem dX12_isNet_3 : decode cX12_isNet 3 = .ok (.ldc2_w 116, 3) := by decide +kernel
theorem dX12_isNet_6 : decode cX12_isNet 6 = .ok (.invokestatic 82, 3) := by decide +kernel
theorem dX12_isNet_9 : decode cX12_isNet 9 = .ok (.ifCond .eq 31, 3) := by decide +kernel
theorem dX12_isNet_12 : decode cX12_isNet 12 = .ok (.iload_n 1, 1) := by decide +kernel
theorem dX12_isNet_13 : decode cX12_isNet 13 = .ok (.i2l, 1) := by decide +kernel
theorem dX12_isNet_14 : decode cX12_isNet 14 = .ok (.lconst 1, 1) := by decide +kernel
theorem dX12_isNet_15 : decode cX12_isNet 15 = .ok (.ldc2_w 334, 3) := by decide +kernel
theorem dX12_isNet_18 : decode cX12_isNet 18 = .ok (.invokestatic 82, 3) := by decide +kernel
theorem dX12_isNet_21 : decode cX12_isNet 21 = .ok (.ifCond .eq 19, 3) := by decide +kernel
theorem dX12_isNet_24 : decode cX12_isNet 24 = .ok (.iload_n 2, 1) := by decide +kernel
theorem dX12_isNet_25 : decode cX12_isNet 25 = .ok (.i2l, 1) := by decide +kernel
theorem dX12_isNet_26 : decode cX12_isNet 26 = .ok (.lconst 0, 1) := by decide +kernel
theorem dX12_isNet_27 : decode cX12_isNet 27 = .ok (.ldc2_w 118, 3) := by decide +kernel
theorem dX12_isNet_30 : decode cX12_isNet 30 = .ok (.invokestatic 82, 3) := by decide +kernel
theorem dX12_isNet_33 : decode cX12_isNet 33 = .ok (.ifCond .eq 7, 3) := by decide +kernel
theorem dX12_isNet_36 : decode cX12_isNet 36 = .ok (.iconst 1, 1) := by decide +kernel
theorem dX12_isNet_37 : decode cX12_isNet 37 = .ok (.goto 4, 3) := by decide +kernel
theorem dX12_isNet_40 : decode cX12_isNet 40 = .ok (.iconst 0, 1) := by decide +kernel
theorem dX12_isNet_41 : decode cX12_isNet 41 = .ok (.ireturn, 1) := by decide +kernel
theorem dX12_sweep_0 : decode cX12_sweep 0 = .ok (.aload_n 0, 1) := by decide +kernel
theorem dX12_sweep_1 : decode cX12_sweep 1 = .ok (.iconst 0, 1) := by decide +kernel
theorem dX12_sweep_2 : decode cX12_sweep 2 = .ok (.putfield 76, 3) := by decide +kernel
theorem dX12_sweep_5 : decode cX12_sweep 5 = .ok (.iload_n 1, 1) := by decide +kernel
theorem dX12_sweep_6 : decode cX12_sweep 6 = .ok (.iload_n 2, 1) := by decide +kernel
theorem dX12_sweep_7 : decode cX12_sweep 7 = .ok (.iload_n 3, 1) := by decide +kernel
theorem dX12_sweep_8 : decode cX12_sweep 8 = .ok (.invokestatic 390, 3) := by decide +kernel
theorem dX12_sweep_11 : decode cX12_sweep 11 = .ok (.ifCond .eq 14, 3) := by decide +kernel
theorem dX12_sweep_14 : decode cX12_sweep 14 = .ok (.iload 4, 2) := by decide +kernel
theorem dX12_sweep_16 : decode cX12_sweep 16 = .ok (.i2l, 1) := by decide +kernel
theorem dX12_sweep_17 : decode cX12_sweep 17 = .ok (.lconst 0, 1) := by decide +kernel
theorem dX12_sweep_18 : decode cX12_sweep 18 = .ok (.lconst 1, 1) := by decide +kernel
theorem dX12_sweep_19 : decode cX12_sweep 19 = .ok (.invokestatic 82, 3) := by decide +kernel
theorem dX12_sweep_22 : decode cX12_sweep 22 = .ok (.ifCond .ne 9, 3) := by decide +kernel
theorem dX12_sweep_25 : decode cX12_sweep 25 = .ok (.aload_n 0, 1) := by decide +kernel
theorem dX12_sweep_26 : decode cX12_sweep 26 = .ok (.iconst (-1), 1) := by decide +kernel
theorem dX12_sweep_27 : decode cX12_sweep 27 = .ok (.invokevirtual 86, 3) := by decide +kernel
theorem dX12_sweep_30 : decode cX12_sweep 30 = .ok (.ireturn, 1) := by decide +kernel
theorem dX12_sweep_31 : decode cX12_sweep 31 = .ok (.aload_n 0, 1) := by decide +kernel
theorem dX12_sweep_32 : decode cX12_sweep 32 = .ok (.bipush 8, 2) := by decide +kernel
theorem dX12_sweep_34 : decode cX12_sweep 34 = .ok (.bipush 12, 2) := by decide +kernel
theorem dX12_sweep_36 : decode cX12_sweep 36 = .ok (.sipush 720, 3) := by decide +kernel
theorem dX12_sweep_39 : decode cX12_sweep 39 = .ok (.iconst 4, 1) := by decide +kernel
theorem dX12_sweep_40 : decode cX12_sweep 40 = .ok (.iload_n 1, 1) := by decide +kernel
theorem dX12_sweep_41 : decode cX12_sweep 41 = .ok (.iload_n 2, 1) := by decide +kernel
theorem dX12_sweep_42 : decode cX12_sweep 42 = .ok (.iload_n 3, 1) := by decide +kernel
theorem dX12_sweep_43 : decode cX12_sweep 43 = .ok (.iload 4, 2) := by decide +kernel
theorem dX12_sweep_45 : decode cX12_sweep 45 = .ok (.invokevirtual 109, 3) := by decide +kernel
theorem dX12_sweep_48 : decode cX12_sweep 48 = .ok (.ireturn, 1) := by decide +kernel
theorem dX12_likely_0 : decode cX12_likely 0 = .ok (.aload_n 0, 1) := by decide +kernel
theorem dX12_likely_1 : decode cX12_likely 1 = .ok (.iconst 0, 1) := by decide +kernel
theorem dX12_likely_2 : decode cX12_likely 2 = .ok (.putfield 76, 3) := by decide +kernel
theorem dX12_likely_5 : decode cX12_likely 5 = .ok (.aload_n 0, 1) := by decide +kernel
theorem dX12_likely_6 : decode cX12_likely 6 = .ok (.bipush 7, 2) := by decide +kernel
theorem dX12_likely_8 : decode cX12_likely 8 = .ok (.iload_n 1, 1) := by decide +kernel
theorem dX12_likely_9 : decode cX12_likely 9 = .ok (.invokevirtual 122, 3) := by decide +kernel
theorem dX12_likely_12 : decode cX12_likely 12 = .ok (.ifCond .eq 12, 3) := by decide +kernel
theorem dX12_likely_15 : decode cX12_likely 15 = .ok (.aload_n 0, 1) := by decide +kernel
theorem dX12_likely_16 : decode cX12_likely 16 = .ok (.iload_n 1, 1) := by decide +kernel
theorem dX12_likely_17 : decode cX12_likely 17 = .ok (.iconst (-1), 1) := by decide +kernel
theorem dX12_likely_18 : decode cX12_likely 18 = .ok (.invokevirtual 394, 3) := by decide +kernel
theorem dX12_likely_21 : decode cX12_likely 21 = .ok (.goto 4, 3) := by decide +kernel
theorem dX12_likely_24 : decode cX12_likely 24 = .ok (.iconst (-1), 1) := by decide +kernel
theorem dX12_likely_25 : decode cX12_likely 25 = .ok (.ireturn, 1) := by decide +kernel
theorem dX12_moved_0 : decode cX12_moved 0 = .ok (.aload_n 0, 1) := by decide +kernel
theorem dX12_moved_1 : decode cX12_moved 1 = .ok (.iconst 0, 1) := by decide +kernel
theorem dX12_moved_2 : decode cX12_moved 2 = .ok (.putfield 76, 3) := by decide +kernel
theorem dX12_moved_5 : decode cX12_moved 5 = .ok (.aload_n 0, 1) := by decide +kernel
theorem dX12_moved_6 : decode cX12_moved 6 = .ok (.bipush 7, 2) := by decide +kernel
theorem dX12_moved_8 : decode cX12_moved 8 = .ok (.iload_n 1, 1) := by decide +kernel
theorem dX12_moved_9 : decode cX12_moved 9 = .ok (.invokevirtual 122, 3) := by decide +kernel
theorem dX12_moved_12 : decode cX12_moved 12 = .ok (.ifCond .eq 13, 3) := by decide +kernel
theorem dX12_moved_15 : decode cX12_moved 15 = .ok (.aload_n 0, 1) := by decide +kernel
theorem dX12_moved_16 : decode cX12_moved 16 = .ok (.bipush 8, 2) := by decide +kernel
theorem dX12_moved_18 : decode cX12_moved 18 = .ok (.iload_n 2, 1) := by decide +kernel
theorem dX12_moved_19 : decode cX12_moved 19 = .ok (.invokevirtual 122, 3) := by decide +kernel
theorem dX12_moved_22 : decode cX12_moved 22 = .ok (.ifCond .ne 7, 3) := by decide +kernel
theorem dX12_moved_25 : decode cX12_moved 25 = .ok (.ldc_w 397, 3) := by decide +kernel
theorem dX12_moved_28 : decode cX12_moved 28 = .ok (.ireturn, 1) := by decide +kernel
theorem dX12_moved_29 : decode cX12_moved 29 = .ok (.aload_n 0, 1) := by decide +kernel
theorem dX12_moved_30 : decode cX12_moved 30 = .ok (.iload_n 1, 1) := by decide +kernel
theorem dX12_moved_31 : decode cX12_moved 31 = .ok (.iconst (-1), 1) := by decide +kernel
theorem dX12_moved_32 : decode cX12_moved 32 = .ok (.invokevirtual 394, 3) := by decide +kernel
theorem dX12_moved_35 : decode cX12_moved 35 = .ok (.aload_n 0, 1) := by decide +kernel
theorem dX12_moved_36 : decode cX12_moved 36 = .ok (.iload_n 1, 1) := by decide +kernel
theorem dX12_moved_37 : decode cX12_moved 37 = .ok (.iload_n 2, 1) := by decide +kernel
theorem dX12_moved_38 : decode cX12_moved 38 = .ok (.invokevirtual 394, 3) := by decide +kernel
theorem dX12_moved_41 : decode cX12_moved 41 = .ok (.isub, 1) := by decide +kernel
theorem dX12_moved_42 : decode cX12_moved 42 = .ok (.ireturn, 1) := by decide +kernel
theorem dX12_kin_0 : decode cX12_kin 0 = .ok (.aload_n 0, 1) := by decide +kernel
theorem dX12_kin_1 : decode cX12_kin 1 = .ok (.iconst 0, 1) := by decide +kernel
theorem dX12_kin_2 : decode cX12_kin 2 = .ok (.putfield 76, 3) := by decide +kernel
theorem dX12_kin_5 : decode cX12_kin 5 = .ok (.iload_n 1, 1) := by decide +kernel
theorem dX12_kin_6 : decode cX12_kin 6 = .ok (.i2l, 1) := by decide +kernel
theorem dX12_kin_7 : decode cX12_kin 7 = .ok (.lconst 0, 1) := by decide +kernel
theorem dX12_kin_8 : decode cX12_kin 8 = .ok (.ldc2_w 100, 3) := by decide +kernel
theorem dX12_kin_11 : decode cX12_kin 11 = .ok (.invokestatic 82, 3) := by decide +kernel
theorem dX12_kin_14 : decode cX12_kin 14 = .ok (.ifCond .eq 45, 3) := by decide +kernel
theorem dX12_kin_17 : decode cX12_kin 17 = .ok (.iload_n 2, 1) := by decide +kernel
theorem dX12_kin_18 : decode cX12_kin 18 = .ok (.i2l, 1) := by decide +kernel
theorem dX12_kin_19 : decode cX12_kin 19 = .ok (.iload_n 1, 1) := by decide +kernel
theorem dX12_kin_20 : decode cX12_kin 20 = .ok (.iconst 2, 1) := by decide +kernel
theorem dX12_kin_21 : decode cX12_kin 21 = .ok (.if_icmp .ne 7, 3) := by decide +kernel
theorem dX12_kin_24 : decode cX12_kin 24 = .ok (.lconst 1, 1) := by decide +kernel
theorem dX12_kin_25 : decode cX12_kin 25 = .ok (.goto 4, 3) := by decide +kernel
theorem dX12_kin_28 : decode cX12_kin 28 = .ok (.lconst 0, 1) := by decide +kernel
theorem dX12_kin_29 : decode cX12_kin 29 = .ok (.iload_n 1, 1) := by decide +kernel
theorem dX12_kin_30 : decode cX12_kin 30 = .ok (.ifCond .ne 9, 3) := by decide +kernel
theorem dX12_kin_33 : decode cX12_kin 33 = .ok (.ldc2_w 398, 3) := by decide +kernel
theorem dX12_kin_36 : decode cX12_kin 36 = .ok (.goto 17, 3) := by decide +kernel
theorem dX12_kin_39 : decode cX12_kin 39 = .ok (.iload_n 1, 1) := by decide +kernel
theorem dX12_kin_40 : decode cX12_kin 40 = .ok (.iconst 1, 1) := by decide +kernel
theorem dX12_kin_41 : decode cX12_kin 41 = .ok (.if_icmp .ne 9, 3) := by decide +kernel
theorem dX12_kin_44 : decode cX12_kin 44 = .ok (.ldc2_w 400, 3) := by decide +kernel
theorem dX12_kin_47 : decode cX12_kin 47 = .ok (.goto 6, 3) := by decide +kernel
theorem dX12_kin_50 : decode cX12_kin 50 = .ok (.ldc2_w 116, 3) := by decide +kernel
theorem dX12_kin_53 : decode cX12_kin 53 = .ok (.invokestatic 82, 3) := by decide +kernel
theorem dX12_kin_56 : decode cX12_kin 56 = .ok (.ifCond .ne 9, 3) := by decide +kernel
theorem dX12_kin_59 : decode cX12_kin 59 = .ok (.aload_n 0, 1) := by decide +kernel
theorem dX12_kin_60 : decode cX12_kin 60 = .ok (.iconst (-1), 1) := by decide +kernel
theorem dX12_kin_61 : decode cX12_kin 61 = .ok (.invokevirtual 86, 3) := by decide +kernel
theorem dX12_kin_64 : decode cX12_kin 64 = .ok (.ireturn, 1) := by decide +kernel
theorem dX12_kin_65 : decode cX12_kin 65 = .ok (.aload_n 0, 1) := by decide +kernel
theorem dX12_kin_66 : decode cX12_kin 66 = .ok (.getfield 13, 3) := by decide +kernel
theorem dX12_kin_69 : decode cX12_kin 69 = .ok (.bipush 10, 2) := by decide +kernel
theorem dX12_kin_71 : decode cX12_kin 71 = .ok (.iload_n 1, 1) := by decide +kernel
theorem dX12_kin_72 : decode cX12_kin 72 = .ok (.iadd, 1) := by decide +kernel
theorem dX12_kin_73 : decode cX12_kin 73 = .ok (.iaload, 1) := by decide +kernel
theorem dX12_kin_74 : decode cX12_kin 74 = .ok (.istore_n 3, 1) := by decide +kernel
theorem dX12_kin_75 : decode cX12_kin 75 = .ok (.aload_n 0, 1) := by decide +kernel
theorem dX12_kin_76 : decode cX12_kin 76 = .ok (.getfield 13, 3) := by decide +kernel
theorem dX12_kin_79 : decode cX12_kin 79 = .ok (.bipush 10, 2) := by decide +kernel
theorem dX12_kin_81 : decode cX12_kin 81 = .ok (.iload_n 1, 1) := by decide +kernel
theorem dX12_kin_82 : decode cX12_kin 82 = .ok (.iadd, 1) := by decide +kernel
theorem dX12_kin_83 : decode cX12_kin 83 = .ok (.iload_n 2, 1) := by decide +kernel
theorem dX12_kin_84 : decode cX12_kin 84 = .ok (.iastore, 1) := by decide +kernel
theorem dX12_kin_85 : decode cX12_kin 85 = .ok (.aload_n 0, 1) := by decide +kernel
theorem dX12_kin_86 : decode cX12_kin 86 = .ok (.iload_n 3, 1) := by decide +kernel
theorem dX12_kin_87 : decode cX12_kin 87 = .ok (.invokevirtual 86, 3) := by decide +kernel
theorem dX12_kin_90 : decode cX12_kin 90 = .ok (.ireturn, 1) := by decide +kernel
theorem dX12_lot_0 : decode cX12_lot 0 = .ok (.aload_n 0, 1) := by decide +kernel
theorem dX12_lot_1 : decode cX12_lot 1 = .ok (.iconst 0, 1) := by decide +kernel
theorem dX12_lot_2 : decode cX12_lot 2 = .ok (.putfield 76, 3) := by decide +kernel
theorem dX12_lot_5 : decode cX12_lot 5 = .ok (.iload_n 1, 1) := by decide +kernel
theorem dX12_lot_6 : decode cX12_lot 6 = .ok (.i2l, 1) := by decide +kernel
theorem dX12_lot_7 : decode cX12_lot 7 = .ok (.lconst 0, 1) := by decide +kernel
theorem dX12_lot_8 : decode cX12_lot 8 = .ok (.ldc2_w 334, 3) := by decide +kernel
theorem dX12_lot_11 : decode cX12_lot 11 = .ok (.invokestatic 82, 3) := by decide +kernel
theorem dX12_lot_14 : decode cX12_lot 14 = .ok (.ifCond .ne 5, 3) := by decide +kernel
theorem dX12_lot_17 : decode cX12_lot 17 = .ok (.iconst (-1), 1) := by decide +kernel
theorem dX12_lot_18 : decode cX12_lot 18 = .ok (.ireturn, 1) := by decide +kernel
theorem dX12_lot_19 : decode cX12_lot 19 = .ok (.iload_n 1, 1) := by decide +kernel
theorem dX12_lot_20 : decode cX12_lot 20 = .ok (.ifCond .le 21, 3) := by decide +kernel
theorem dX12_lot_23 : decode cX12_lot 23 = .ok (.aload_n 0, 1) := by decide +kernel
theorem dX12_lot_24 : decode cX12_lot 24 = .ok (.getfield 13, 3) := by decide +kernel
theorem dX12_lot_27 : decode cX12_lot 27 = .ok (.bipush 11, 2) := by decide +kernel
theorem dX12_lot_29 : decode cX12_lot 29 = .ok (.iaload, 1) := by decide +kernel
theorem dX12_lot_30 : decode cX12_lot 30 = .ok (.iload_n 1, 1) := by decide +kernel
theorem dX12_lot_31 : decode cX12_lot 31 = .ok (.aload_n 0, 1) := by decide +kernel
theorem dX12_lot_32 : decode cX12_lot 32 = .ok (.getfield 13, 3) := by decide +kernel
theorem dX12_lot_35 : decode cX12_lot 35 = .ok (.bipush 12, 2) := by decide +kernel
theorem dX12_lot_37 : decode cX12_lot 37 = .ok (.iaload, 1) := by decide +kernel
theorem dX12_lot_38 : decode cX12_lot 38 = .ok (.imul, 1) := by decide +kernel
theorem dX12_lot_39 : decode cX12_lot 39 = .ok (.idiv, 1) := by decide +kernel
theorem dX12_lot_40 : decode cX12_lot 40 = .ok (.ireturn, 1) := by decide +kernel
theorem dX12_lot_41 : decode cX12_lot 41 = .ok (.iconst 0, 1) := by decide +kernel
theorem dX12_lot_42 : decode cX12_lot 42 = .ok (.istore_n 2, 1) := by decide +kernel
theorem dX12_lot_43 : decode cX12_lot 43 = .ok (.iconst 0, 1) := by decide +kernel
theorem dX12_lot_44 : decode cX12_lot 44 = .ok (.istore_n 3, 1) := by decide +kernel
theorem dX12_lot_45 : decode cX12_lot 45 = .ok (.iload_n 3, 1) := by decide +kernel
theorem dX12_lot_46 : decode cX12_lot 46 = .ok (.aload_n 0, 1) := by decide +kernel
theorem dX12_lot_47 : decode cX12_lot 47 = .ok (.getfield 13, 3) := by decide +kernel
theorem dX12_lot_50 : decode cX12_lot 50 = .ok (.bipush 7, 2) := by decide +kernel
theorem dX12_lot_52 : decode cX12_lot 52 = .ok (.iaload, 1) := by decide +kernel
theorem dX12_lot_53 : decode cX12_lot 53 = .ok (.if_icmp .ge 99, 3) := by decide +kernel
theorem dX12_lot_56 : decode cX12_lot 56 = .ok (.aload_n 0, 1) := by decide +kernel
theorem dX12_lot_57 : decode cX12_lot 57 = .ok (.getfield 13, 3) := by decide +kernel
theorem dX12_lot_60 : decode cX12_lot 60 = .ok (.sipush 700, 3) := by decide +kernel
theorem dX12_lot_63 : decode cX12_lot 63 = .ok (.iconst 3, 1) := by decide +kernel
theorem dX12_lot_64 : decode cX12_lot 64 = .ok (.iload_n 3, 1) := by decide +kernel
theorem dX12_lot_65 : decode cX12_lot 65 = .ok (.imul, 1) := by decide +kernel
theorem dX12_lot_66 : decode cX12_lot 66 = .ok (.iadd, 1) := by decide +kernel
theorem dX12_lot_67 : decode cX12_lot 67 = .ok (.iconst 1, 1) := by decide +kernel
theorem dX12_lot_68 : decode cX12_lot 68 = .ok (.iadd, 1) := by decide +kernel
theorem dX12_lot_69 : decode cX12_lot 69 = .ok (.iaload, 1) := by decide +kernel
theorem dX12_lot_70 : decode cX12_lot 70 = .ok (.istore 4, 2) := by decide +kernel
theorem dX12_lot_72 : decode cX12_lot 72 = .ok (.iload 4, 2) := by decide +kernel
theorem dX12_lot_74 : decode cX12_lot 74 = .ok (.ifCond .eq 50, 3) := by decide +kernel
theorem dX12_lot_77 : decode cX12_lot 77 = .ok (.iload 4, 2) := by decide +kernel
theorem dX12_lot_79 : decode cX12_lot 79 = .ok (.aload_n 0, 1) := by decide +kernel
theorem dX12_lot_80 : decode cX12_lot 80 = .ok (.getfield 13, 3) := by decide +kernel
theorem dX12_lot_83 : decode cX12_lot 83 = .ok (.bipush 10, 2) := by decide +kernel
theorem dX12_lot_85 : decode cX12_lot 85 = .ok (.iaload, 1) := by decide +kernel
theorem dX12_lot_86 : decode cX12_lot 86 = .ok (.if_icmp .lt 42, 3) := by decide +kernel
theorem dX12_lot_89 : decode cX12_lot 89 = .ok (.iload 4, 2) := by decide +kernel
theorem dX12_lot_91 : decode cX12_lot 91 = .ok (.aload_n 0, 1) := by decide +kernel
theorem dX12_lot_92 : decode cX12_lot 92 = .ok (.getfield 13, 3) := by decide +kernel
theorem dX12_lot_95 : decode cX12_lot 95 = .ok (.sipush 700, 3) := by decide +kernel
theorem dX12_lot_98 : decode cX12_lot 98 = .ok (.iconst 3, 1) := by decide +kernel
theorem dX12_lot_99 : decode cX12_lot 99 = .ok (.iload_n 3, 1) := by decide +kernel
theorem dX12_lot_100 : decode cX12_lot 100 = .ok (.imul, 1) := by decide +kernel
theorem dX12_lot_101 : decode cX12_lot 101 = .ok (.iadd, 1) := by decide +kernel
theorem dX12_lot_102 : decode cX12_lot 102 = .ok (.iconst 2, 1) := by decide +kernel
theorem dX12_lot_103 : decode cX12_lot 103 = .ok (.iadd, 1) := by decide +kernel
theorem dX12_lot_104 : decode cX12_lot 104 = .ok (.iaload, 1) := by decide +kernel
theorem dX12_lot_105 : decode cX12_lot 105 = .ok (.imul, 1) := by decide +kernel
theorem dX12_lot_106 : decode cX12_lot 106 = .ok (.aload_n 0, 1) := by decide +kernel
theorem dX12_lot_107 : decode cX12_lot 107 = .ok (.getfield 13, 3) := by decide +kernel
theorem dX12_lot_110 : decode cX12_lot 110 = .ok (.bipush 12, 2) := by decide +kernel
theorem dX12_lot_112 : decode cX12_lot 112 = .ok (.iaload, 1) := by decide +kernel
theorem dX12_lot_113 : decode cX12_lot 113 = .ok (.imul, 1) := by decide +kernel
theorem dX12_lot_114 : decode cX12_lot 114 = .ok (.aload_n 0, 1) := by decide +kernel
theorem dX12_lot_115 : decode cX12_lot 115 = .ok (.getfield 13, 3) := by decide +kernel
theorem dX12_lot_118 : decode cX12_lot 118 = .ok (.bipush 11, 2) := by decide +kernel
theorem dX12_lot_120 : decode cX12_lot 120 = .ok (.iaload, 1) := by decide +kernel
theorem dX12_lot_121 : decode cX12_lot 121 = .ok (.if_icmp .gt 7, 3) := by decide +kernel
theorem dX12_lot_124 : decode cX12_lot 124 = .ok (.iconst 1, 1) := by decide +kernel
theorem dX12_lot_125 : decode cX12_lot 125 = .ok (.goto 4, 3) := by decide +kernel
theorem dX12_lot_128 : decode cX12_lot 128 = .ok (.iconst 0, 1) := by decide +kernel
theorem dX12_lot_129 : decode cX12_lot 129 = .ok (.istore 5, 2) := by decide +kernel
theorem dX12_lot_131 : decode cX12_lot 131 = .ok (.iload_n 2, 1) := by decide +kernel
theorem dX12_lot_132 : decode cX12_lot 132 = .ok (.iload 5, 2) := by decide +kernel
theorem dX12_lot_134 : decode cX12_lot 134 = .ok (.ifCond .eq 9, 3) := by decide +kernel
theorem dX12_lot_137 : decode cX12_lot 137 = .ok (.iconst 1, 1) := by decide +kernel
theorem dX12_lot_138 : decode cX12_lot 138 = .ok (.iload_n 3, 1) := by decide +kernel
theorem dX12_lot_139 : decode cX12_lot 139 = .ok (.ishl, 1) := by decide +kernel
theorem dX12_lot_140 : decode cX12_lot 140 = .ok (.goto 4, 3) := by decide +kernel
theorem dX12_lot_143 : decode cX12_lot 143 = .ok (.iconst 0, 1) := by decide +kernel
theorem dX12_lot_144 : decode cX12_lot 144 = .ok (.ior, 1) := by decide +kernel
theorem dX12_lot_145 : decode cX12_lot 145 = .ok (.istore_n 2, 1) := by decide +kernel
theorem dX12_lot_146 : decode cX12_lot 146 = .ok (.iinc 3 1, 3) := by decide +kernel
theorem dX12_lot_149 : decode cX12_lot 149 = .ok (.goto (-104), 3) := by decide +kernel
theorem dX12_lot_152 : decode cX12_lot 152 = .ok (.iload_n 2, 1) := by decide +kernel
theorem dX12_lot_153 : decode cX12_lot 153 = .ok (.ireturn, 1) := by decide +kernel
theorem dX12_offer_0 : decode cX12_offer 0 = .ok (.aload_n 0, 1) := by decide +kernel
theorem dX12_offer_1 : decode cX12_offer 1 = .ok (.iconst 0, 1) := by decide +kernel
theorem dX12_offer_2 : decode cX12_offer 2 = .ok (.putfield 76, 3) := by decide +kernel
theorem dX12_offer_5 : decode cX12_offer 5 = .ok (.iload_n 1, 1) := by decide +kernel
theorem dX12_offer_6 : decode cX12_offer 6 = .ok (.iload_n 2, 1) := by decide +kernel
theorem dX12_offer_7 : decode cX12_offer 7 = .ok (.iload_n 3, 1) := by decide +kernel
theorem dX12_offer_8 : decode cX12_offer 8 = .ok (.invokestatic 390, 3) := by decide +kernel
theorem dX12_offer_11 : decode cX12_offer 11 = .ok (.ifCond .eq 16, 3) := by decide +kernel
theorem dX12_offer_14 : decode cX12_offer 14 = .ok (.iload 4, 2) := by decide +kernel
theorem dX12_offer_16 : decode cX12_offer 16 = .ok (.i2l, 1) := by decide +kernel
theorem dX12_offer_17 : decode cX12_offer 17 = .ok (.lconst 1, 1) := by decide +kernel
theorem dX12_offer_18 : decode cX12_offer 18 = .ok (.ldc2_w 116, 3) := by decide +kernel
theorem dX12_offer_21 : decode cX12_offer 21 = .ok (.invokestatic 82, 3) := by decide +kernel
theorem dX12_offer_24 : decode cX12_offer 24 = .ok (.ifCond .ne 9, 3) := by decide +kernel
theorem dX12_offer_27 : decode cX12_offer 27 = .ok (.aload_n 0, 1) := by decide +kernel
theorem dX12_offer_28 : decode cX12_offer 28 = .ok (.iconst (-1), 1) := by decide +kernel
theorem dX12_offer_29 : decode cX12_offer 29 = .ok (.invokevirtual 86, 3) := by decide +kernel
theorem dX12_offer_32 : decode cX12_offer 32 = .ok (.ireturn, 1) := by decide +kernel
theorem dX12_offer_33 : decode cX12_offer 33 = .ok (.aload_n 0, 1) := by decide +kernel
theorem dX12_offer_34 : decode cX12_offer 34 = .ok (.bipush 9, 2) := by decide +kernel
theorem dX12_offer_36 : decode cX12_offer 36 = .ok (.bipush 10, 2) := by decide +kernel
theorem dX12_offer_38 : decode cX12_offer 38 = .ok (.sipush 770, 3) := by decide +kernel
theorem dX12_offer_41 : decode cX12_offer 41 = .ok (.iconst 4, 1) := by decide +kernel
theorem dX12_offer_42 : decode cX12_offer 42 = .ok (.iload_n 1, 1) := by decide +kernel
theorem dX12_offer_43 : decode cX12_offer 43 = .ok (.iload_n 2, 1) := by decide +kernel
theorem dX12_offer_44 : decode cX12_offer 44 = .ok (.iload_n 3, 1) := by decide +kernel
theorem dX12_offer_45 : decode cX12_offer 45 = .ok (.iload 4, 2) := by decide +kernel
theorem dX12_offer_47 : decode cX12_offer 47 = .ok (.invokevirtual 109, 3) := by decide +kernel
theorem dX12_offer_50 : decode cX12_offer 50 = .ok (.ireturn, 1) := by decide +kernel
theorem dX12_findOdds_0 : decode cX12_findOdds 0 = .ok (.iconst 0, 1) := by decide +kernel
theorem dX12_findOdds_1 : decode cX12_findOdds 1 = .ok (.istore_n 1, 1) := by decide +kernel
theorem dX12_findOdds_2 : decode cX12_findOdds 2 = .ok (.iload_n 1, 1) := by decide +kernel
theorem dX12_findOdds_3 : decode cX12_findOdds 3 = .ok (.aload_n 0, 1) := by decide +kernel
theorem dX12_findOdds_4 : decode cX12_findOdds 4 = .ok (.getfield 13, 3) := by decide +kernel
theorem dX12_findOdds_7 : decode cX12_findOdds 7 = .ok (.bipush 7, 2) := by decide +kernel
theorem dX12_findOdds_9 : decode cX12_findOdds 9 = .ok (.iaload, 1) := by decide +kernel
theorem dX12_findOdds_10 : decode cX12_findOdds 10 = .ok (.if_icmp .ge 21, 3) := by decide +kernel
theorem dX12_findOdds_13 : decode cX12_findOdds 13 = .ok (.aload_n 0, 1) := by decide +kernel
theorem dX12_findOdds_14 : decode cX12_findOdds 14 = .ok (.getfield 67, 3) := by decide +kernel
theorem dX12_findOdds_17 : decode cX12_findOdds 17 = .ok (.iload_n 1, 1) := by decide +kernel
theorem dX12_findOdds_18 : decode cX12_findOdds 18 = .ok (.aload_n 0, 1) := by decide +kernel
theorem dX12_findOdds_19 : decode cX12_findOdds 19 = .ok (.iload_n 1, 1) := by decide +kernel
theorem dX12_findOdds_20 : decode cX12_findOdds 20 = .ok (.iconst (-1), 1) := by decide +kernel
theorem dX12_findOdds_21 : decode cX12_findOdds 21 = .ok (.invokevirtual 394, 3) := by decide +kernel
theorem dX12_findOdds_24 : decode cX12_findOdds 24 = .ok (.iastore, 1) := by decide +kernel
theorem dX12_findOdds_25 : decode cX12_findOdds 25 = .ok (.iinc 1 1, 3) := by decide +kernel
theorem dX12_findOdds_28 : decode cX12_findOdds 28 = .ok (.goto (-26), 3) := by decide +kernel
theorem dX12_findOdds_31 : decode cX12_findOdds 31 = .ok (.return_, 1) := by decide +kernel
theorem dX12_silent_0 : decode cX12_silent 0 = .ok (.ldc2_w 176, 3) := by decide +kernel
theorem dX12_silent_3 : decode cX12_silent 3 = .ok (.lstore_n 3, 1) := by decide +kernel
theorem dX12_silent_4 : decode cX12_silent 4 = .ok (.iconst 0, 1) := by decide +kernel
theorem dX12_silent_5 : decode cX12_silent 5 = .ok (.istore 5, 2) := by decide +kernel
theorem dX12_silent_7 : decode cX12_silent 7 = .ok (.iload 5, 2) := by decide +kernel
theorem dX12_silent_9 : decode cX12_silent 9 = .ok (.aload_n 0, 1) := by decide +kernel
theorem dX12_silent_10 : decode cX12_silent 10 = .ok (.getfield 13, 3) := by decide +kernel
theorem dX12_silent_13 : decode cX12_silent 13 = .ok (.bipush 9, 2) := by decide +kernel
theorem dX12_silent_15 : decode cX12_silent 15 = .ok (.iaload, 1) := by decide +kernel
theorem dX12_silent_16 : decode cX12_silent 16 = .ok (.if_icmp .ge 131, 3) := by decide +kernel
theorem dX12_silent_19 : decode cX12_silent 19 = .ok (.sipush 770, 3) := by decide +kernel
theorem dX12_silent_22 : decode cX12_silent 22 = .ok (.iconst 4, 1) := by decide +kernel
theorem dX12_silent_23 : decode cX12_silent 23 = .ok (.iload 5, 2) := by decide +kernel
theorem dX12_silent_25 : decode cX12_silent 25 = .ok (.imul, 1) := by decide +kernel
theorem dX12_silent_26 : decode cX12_silent 26 = .ok (.iadd, 1) := by decide +kernel
theorem dX12_silent_27 : decode cX12_silent 27 = .ok (.istore 6, 2) := by decide +kernel
theorem dX12_silent_29 : decode cX12_silent 29 = .ok (.aload_n 0, 1) := by decide +kernel
theorem dX12_silent_30 : decode cX12_silent 30 = .ok (.getfield 13, 3) := by decide +kernel
theorem dX12_silent_33 : decode cX12_silent 33 = .ok (.sipush 700, 3) := by decide +kernel
theorem dX12_silent_36 : decode cX12_silent 36 = .ok (.iconst 3, 1) := by decide +kernel
theorem dX12_silent_37 : decode cX12_silent 37 = .ok (.iload_n 1, 1) := by decide +kernel
theorem dX12_silent_38 : decode cX12_silent 38 = .ok (.imul, 1) := by decide +kernel
theorem dX12_silent_39 : decode cX12_silent 39 = .ok (.iadd, 1) := by decide +kernel
theorem dX12_silent_40 : decode cX12_silent 40 = .ok (.iconst 2, 1) := by decide +kernel
theorem dX12_silent_41 : decode cX12_silent 41 = .ok (.iadd, 1) := by decide +kernel
theorem dX12_silent_42 : decode cX12_silent 42 = .ok (.iaload, 1) := by decide +kernel
theorem dX12_silent_43 : decode cX12_silent 43 = .ok (.aload_n 0, 1) := by decide +kernel
theorem dX12_silent_44 : decode cX12_silent 44 = .ok (.getfield 13, 3) := by decide +kernel
theorem dX12_silent_47 : decode cX12_silent 47 = .ok (.iload 6, 2) := by decide +kernel
theorem dX12_silent_49 : decode cX12_silent 49 = .ok (.iconst 1, 1) := by decide +kernel
theorem dX12_silent_50 : decode cX12_silent 50 = .ok (.iadd, 1) := by decide +kernel
theorem dX12_silent_51 : decode cX12_silent 51 = .ok (.iaload, 1) := by decide +kernel
theorem dX12_silent_52 : decode cX12_silent 52 = .ok (.if_icmp .lt 20, 3) := by decide +kernel
theorem dX12_silent_55 : decode cX12_silent 55 = .ok (.aload_n 0, 1) := by decide +kernel
theorem dX12_silent_56 : decode cX12_silent 56 = .ok (.getfield 13, 3) := by decide +kernel
theorem dX12_silent_59 : decode cX12_silent 59 = .ok (.sipush 700, 3) := by decide +kernel
theorem dX12_silent_62 : decode cX12_silent 62 = .ok (.iconst 3, 1) := by decide +kernel
theorem dX12_silent_63 : decode cX12_silent 63 = .ok (.iload_n 1, 1) := by decide +kernel
theorem dX12_silent_64 : decode cX12_silent 64 = .ok (.imul, 1) := by decide +kernel
theorem dX12_silent_65 : decode cX12_silent 65 = .ok (.iadd, 1) := by decide +kernel
theorem dX12_silent_66 : decode cX12_silent 66 = .ok (.iconst 1, 1) := by decide +kernel
theorem dX12_silent_67 : decode cX12_silent 67 = .ok (.iadd, 1) := by decide +kernel
theorem dX12_silent_68 : decode cX12_silent 68 = .ok (.iaload, 1) := by decide +kernel
theorem dX12_silent_69 : decode cX12_silent 69 = .ok (.goto 4, 3) := by decide +kernel
theorem dX12_silent_72 : decode cX12_silent 72 = .ok (.iconst 0, 1) := by decide +kernel
theorem dX12_silent_73 : decode cX12_silent 73 = .ok (.istore 7, 2) := by decide +kernel
theorem dX12_silent_75 : decode cX12_silent 75 = .ok (.iload_n 2, 1) := by decide +kernel
theorem dX12_silent_76 : decode cX12_silent 76 = .ok (.iload 5, 2) := by decide +kernel
theorem dX12_silent_78 : decode cX12_silent 78 = .ok (.ishr, 1) := by decide +kernel
theorem dX12_silent_79 : decode cX12_silent 79 = .ok (.iconst 1, 1) := by decide +kernel
theorem dX12_silent_80 : decode cX12_silent 80 = .ok (.iand, 1) := by decide +kernel
theorem dX12_silent_81 : decode cX12_silent 81 = .ok (.iconst 1, 1) := by decide +kernel
theorem dX12_silent_82 : decode cX12_silent 82 = .ok (.if_icmp .ne 59, 3) := by decide +kernel
theorem dX12_silent_85 : decode cX12_silent 85 = .ok (.iconst 0, 1) := by decide +kernel
theorem dX12_silent_86 : decode cX12_silent 86 = .ok (.istore 8, 2) := by decide +kernel
theorem dX12_silent_88 : decode cX12_silent 88 = .ok (.iload 8, 2) := by decide +kernel
theorem dX12_silent_90 : decode cX12_silent 90 = .ok (.iload 7, 2) := by decide +kernel
theorem dX12_silent_92 : decode cX12_silent 92 = .ok (.if_icmp .ge 28, 3) := by decide +kernel
theorem dX12_silent_95 : decode cX12_silent 95 = .ok (.lload_n 3, 1) := by decide +kernel
theorem dX12_silent_96 : decode cX12_silent 96 = .ok (.ldc2_w 116, 3) := by decide +kernel
theorem dX12_silent_99 : decode cX12_silent 99 = .ok (.aload_n 0, 1) := by decide +kernel
theorem dX12_silent_100 : decode cX12_silent 100 = .ok (.getfield 13, 3) := by decide +kernel
theorem dX12_silent_103 : decode cX12_silent 103 = .ok (.iload 6, 2) := by decide +kernel
theorem dX12_silent_105 : decode cX12_silent 105 = .ok (.iaload, 1) := by decide +kernel
theorem dX12_silent_106 : decode cX12_silent 106 = .ok (.i2l, 1) := by decide +kernel
theorem dX12_silent_107 : decode cX12_silent 107 = .ok (.lsub, 1) := by decide +kernel
theorem dX12_silent_108 : decode cX12_silent 108 = .ok (.lmul, 1) := by decide +kernel
theorem dX12_silent_109 : decode cX12_silent 109 = .ok (.ldc2_w 116, 3) := by decide +kernel
theorem dX12_silent_112 : decode cX12_silent 112 = .ok (.ldiv, 1) := by decide +kernel
theorem dX12_silent_113 : decode cX12_silent 113 = .ok (.lstore_n 3, 1) := by decide +kernel
theorem dX12_silent_114 : decode cX12_silent 114 = .ok (.iinc 8 1, 3) := by decide +kernel
theorem dX12_silent_117 : decode cX12_silent 117 = .ok (.goto (-29), 3) := by decide +kernel
theorem dX12_silent_120 : decode cX12_silent 120 = .ok (.lload_n 3, 1) := by decide +kernel
theorem dX12_silent_121 : decode cX12_silent 121 = .ok (.ldc2_w 116, 3) := by decide +kernel
theorem dX12_silent_124 : decode cX12_silent 124 = .ok (.aload_n 0, 1) := by decide +kernel
theorem dX12_silent_125 : decode cX12_silent 125 = .ok (.getfield 13, 3) := by decide +kernel
theorem dX12_silent_128 : decode cX12_silent 128 = .ok (.iload 6, 2) := by decide +kernel
theorem dX12_silent_130 : decode cX12_silent 130 = .ok (.iconst 2, 1) := by decide +kernel
theorem dX12_silent_131 : decode cX12_silent 131 = .ok (.iadd, 1) := by decide +kernel
theorem dX12_silent_132 : decode cX12_silent 132 = .ok (.iaload, 1) := by decide +kernel
theorem dX12_silent_133 : decode cX12_silent 133 = .ok (.i2l, 1) := by decide +kernel
theorem dX12_silent_134 : decode cX12_silent 134 = .ok (.lsub, 1) := by decide +kernel
theorem dX12_silent_135 : decode cX12_silent 135 = .ok (.lmul, 1) := by decide +kernel
theorem dX12_silent_136 : decode cX12_silent 136 = .ok (.ldc2_w 116, 3) := by decide +kernel
theorem dX12_silent_139 : decode cX12_silent 139 = .ok (.ldiv, 1) := by decide +kernel
theorem dX12_silent_140 : decode cX12_silent 140 = .ok (.lstore_n 3, 1) := by decide +kernel
theorem dX12_silent_141 : decode cX12_silent 141 = .ok (.iinc 5 1, 3) := by decide +kernel
theorem dX12_silent_144 : decode cX12_silent 144 = .ok (.goto (-137), 3) := by decide +kernel
theorem dX12_silent_147 : decode cX12_silent 147 = .ok (.lload_n 3, 1) := by decide +kernel
theorem dX12_silent_148 : decode cX12_silent 148 = .ok (.lreturn, 1) := by decide +kernel
theorem dX12_saysOf_0 : decode cX12_saysOf 0 = .ok (.lconst 0, 1) := by decide +kernel
theorem dX12_saysOf_1 : decode cX12_saysOf 1 = .ok (.lstore_n 2, 1) := by decide +kernel
theorem dX12_saysOf_2 : decode cX12_saysOf 2 = .ok (.iconst 0, 1) := by decide +kernel
theorem dX12_saysOf_3 : decode cX12_saysOf 3 = .ok (.istore 4, 2) := by decide +kernel
theorem dX12_saysOf_5 : decode cX12_saysOf 5 = .ok (.iload 4, 2) := by decide +kernel
theorem dX12_saysOf_7 : decode cX12_saysOf 7 = .ok (.aload_n 0, 1) := by decide +kernel
theorem dX12_saysOf_8 : decode cX12_saysOf 8 = .ok (.getfield 13, 3) := by decide +kernel
theorem dX12_saysOf_11 : decode cX12_saysOf 11 = .ok (.bipush 7, 2) := by decide +kernel
theorem dX12_saysOf_13 : decode cX12_saysOf 13 = .ok (.iaload, 1) := by decide +kernel
theorem dX12_saysOf_14 : decode cX12_saysOf 14 = .ok (.if_icmp .ge 36, 3) := by decide +kernel
theorem dX12_saysOf_17 : decode cX12_saysOf 17 = .ok (.lload_n 2, 1) := by decide +kernel
theorem dX12_saysOf_18 : decode cX12_saysOf 18 = .ok (.aload_n 0, 1) := by decide +kernel
theorem dX12_saysOf_19 : decode cX12_saysOf 19 = .ok (.getfield 67, 3) := by decide +kernel
theorem dX12_saysOf_22 : decode cX12_saysOf 22 = .ok (.iload 4, 2) := by decide +kernel
theorem dX12_saysOf_24 : decode cX12_saysOf 24 = .ok (.iaload, 1) := by decide +kernel
theorem dX12_saysOf_25 : decode cX12_saysOf 25 = .ok (.i2l, 1) := by decide +kernel
theorem dX12_saysOf_26 : decode cX12_saysOf 26 = .ok (.ldc2_w 176, 3) := by decide +kernel
theorem dX12_saysOf_29 : decode cX12_saysOf 29 = .ok (.aload_n 0, 1) := by decide +kernel
theorem dX12_saysOf_30 : decode cX12_saysOf 30 = .ok (.iload 4, 2) := by decide +kernel
theorem dX12_saysOf_32 : decode cX12_saysOf 32 = .ok (.iload_n 1, 1) := by decide +kernel
theorem dX12_saysOf_33 : decode cX12_saysOf 33 = .ok (.invokevirtual 402, 3) := by decide +kernel
theorem dX12_saysOf_36 : decode cX12_saysOf 36 = .ok (.lsub, 1) := by decide +kernel
theorem dX12_saysOf_37 : decode cX12_saysOf 37 = .ok (.lmul, 1) := by decide +kernel
theorem dX12_saysOf_38 : decode cX12_saysOf 38 = .ok (.ldc2_w 176, 3) := by decide +kernel
theorem dX12_saysOf_41 : decode cX12_saysOf 41 = .ok (.ldiv, 1) := by decide +kernel
theorem dX12_saysOf_42 : decode cX12_saysOf 42 = .ok (.ladd, 1) := by decide +kernel
theorem dX12_saysOf_43 : decode cX12_saysOf 43 = .ok (.lstore_n 2, 1) := by decide +kernel
theorem dX12_saysOf_44 : decode cX12_saysOf 44 = .ok (.iinc 4 1, 3) := by decide +kernel
theorem dX12_saysOf_47 : decode cX12_saysOf 47 = .ok (.goto (-42), 3) := by decide +kernel
theorem dX12_saysOf_50 : decode cX12_saysOf 50 = .ok (.lload_n 2, 1) := by decide +kernel
theorem dX12_saysOf_51 : decode cX12_saysOf 51 = .ok (.l2i, 1) := by decide +kernel
theorem dX12_saysOf_52 : decode cX12_saysOf 52 = .ok (.ireturn, 1) := by decide +kernel
theorem dX12_says_0 : decode cX12_says 0 = .ok (.aload_n 0, 1) := by decide +kernel
theorem dX12_says_1 : decode cX12_says 1 = .ok (.iconst 0, 1) := by decide +kernel
theorem dX12_says_2 : decode cX12_says 2 = .ok (.putfield 76, 3) := by decide +kernel
theorem dX12_says_5 : decode cX12_says 5 = .ok (.iload_n 1, 1) := by decide +kernel
theorem dX12_says_6 : decode cX12_says 6 = .ok (.i2l, 1) := by decide +kernel
theorem dX12_says_7 : decode cX12_says 7 = .ok (.lconst 0, 1) := by decide +kernel
theorem dX12_says_8 : decode cX12_says 8 = .ok (.lconst 1, 1) := by decide +kernel
theorem dX12_says_9 : decode cX12_says 9 = .ok (.aload_n 0, 1) := by decide +kernel
theorem dX12_says_10 : decode cX12_says 10 = .ok (.getfield 13, 3) := by decide +kernel
theorem dX12_says_13 : decode cX12_says 13 = .ok (.bipush 9, 2) := by decide +kernel
theorem dX12_says_15 : decode cX12_says 15 = .ok (.iaload, 1) := by decide +kernel
theorem dX12_says_16 : decode cX12_says 16 = .ok (.lshl, 1) := by decide +kernel
theorem dX12_says_17 : decode cX12_says 17 = .ok (.lconst 1, 1) := by decide +kernel
theorem dX12_says_18 : decode cX12_says 18 = .ok (.lsub, 1) := by decide +kernel
theorem dX12_says_19 : decode cX12_says 19 = .ok (.invokestatic 82, 3) := by decide +kernel
theorem dX12_says_22 : decode cX12_says 22 = .ok (.ifCond .ne 5, 3) := by decide +kernel
theorem dX12_says_25 : decode cX12_says 25 = .ok (.iconst (-1), 1) := by decide +kernel
theorem dX12_says_26 : decode cX12_says 26 = .ok (.ireturn, 1) := by decide +kernel
theorem dX12_says_27 : decode cX12_says 27 = .ok (.aload_n 0, 1) := by decide +kernel
theorem dX12_says_28 : decode cX12_says 28 = .ok (.invokevirtual 406, 3) := by decide +kernel
theorem dX12_says_31 : decode cX12_says 31 = .ok (.aload_n 0, 1) := by decide +kernel
theorem dX12_says_32 : decode cX12_says 32 = .ok (.iload_n 1, 1) := by decide +kernel
theorem dX12_says_33 : decode cX12_says 33 = .ok (.invokevirtual 409, 3) := by decide +kernel
theorem dX12_says_36 : decode cX12_says 36 = .ok (.ireturn, 1) := by decide +kernel
theorem dX12_costOf_0 : decode cX12_costOf 0 = .ok (.iconst 0, 1) := by decide +kernel
theorem dX12_costOf_1 : decode cX12_costOf 1 = .ok (.istore_n 2, 1) := by decide +kernel
theorem dX12_costOf_2 : decode cX12_costOf 2 = .ok (.iconst 0, 1) := by decide +kernel
theorem dX12_costOf_3 : decode cX12_costOf 3 = .ok (.istore_n 3, 1) := by decide +kernel
theorem dX12_costOf_4 : decode cX12_costOf 4 = .ok (.iload_n 3, 1) := by decide +kernel
theorem dX12_costOf_5 : decode cX12_costOf 5 = .ok (.aload_n 0, 1) := by decide +kernel
theorem dX12_costOf_6 : decode cX12_costOf 6 = .ok (.getfield 13, 3) := by decide +kernel
theorem dX12_costOf_9 : decode cX12_costOf 9 = .ok (.bipush 9, 2) := by decide +kernel
theorem dX12_costOf_11 : decode cX12_costOf 11 = .ok (.iaload, 1) := by decide +kernel
theorem dX12_costOf_12 : decode cX12_costOf 12 = .ok (.if_icmp .ge 39, 3) := by decide +kernel
theorem dX12_costOf_15 : decode cX12_costOf 15 = .ok (.iload_n 2, 1) := by decide +kernel
theorem dX12_costOf_16 : decode cX12_costOf 16 = .ok (.iload_n 1, 1) := by decide +kernel
theorem dX12_costOf_17 : decode cX12_costOf 17 = .ok (.iload_n 3, 1) := by decide +kernel
theorem dX12_costOf_18 : decode cX12_costOf 18 = .ok (.ishr, 1) := by decide +kernel
theorem dX12_costOf_19 : decode cX12_costOf 19 = .ok (.iconst 1, 1) := by decide +kernel
theorem dX12_costOf_20 : decode cX12_costOf 20 = .ok (.iand, 1) := by decide +kernel
theorem dX12_costOf_21 : decode cX12_costOf 21 = .ok (.iconst 1, 1) := by decide +kernel
theorem dX12_costOf_22 : decode cX12_costOf 22 = .ok (.if_icmp .ne 20, 3) := by decide +kernel
theorem dX12_costOf_25 : decode cX12_costOf 25 = .ok (.aload_n 0, 1) := by decide +kernel
theorem dX12_costOf_26 : decode cX12_costOf 26 = .ok (.getfield 13, 3) := by decide +kernel
theorem dX12_costOf_29 : decode cX12_costOf 29 = .ok (.sipush 770, 3) := by decide +kernel
theorem dX12_costOf_32 : decode cX12_costOf 32 = .ok (.iconst 4, 1) := by decide +kernel
theorem dX12_costOf_33 : decode cX12_costOf 33 = .ok (.iload_n 3, 1) := by decide +kernel
theorem dX12_costOf_34 : decode cX12_costOf 34 = .ok (.imul, 1) := by decide +kernel
theorem dX12_costOf_35 : decode cX12_costOf 35 = .ok (.iadd, 1) := by decide +kernel
theorem dX12_costOf_36 : decode cX12_costOf 36 = .ok (.iconst 3, 1) := by decide +kernel
theorem dX12_costOf_37 : decode cX12_costOf 37 = .ok (.iadd, 1) := by decide +kernel
theorem dX12_costOf_38 : decode cX12_costOf 38 = .ok (.iaload, 1) := by decide +kernel
theorem dX12_costOf_39 : decode cX12_costOf 39 = .ok (.goto 4, 3) := by decide +kernel
theorem dX12_costOf_42 : decode cX12_costOf 42 = .ok (.iconst 0, 1) := by decide +kernel
theorem dX12_costOf_43 : decode cX12_costOf 43 = .ok (.iadd, 1) := by decide +kernel
theorem dX12_costOf_44 : decode cX12_costOf 44 = .ok (.istore_n 2, 1) := by decide +kernel
theorem dX12_costOf_45 : decode cX12_costOf 45 = .ok (.iinc 3 1, 3) := by decide +kernel
theorem dX12_costOf_48 : decode cX12_costOf 48 = .ok (.goto (-44), 3) := by decide +kernel
theorem dX12_costOf_51 : decode cX12_costOf 51 = .ok (.iload_n 2, 1) := by decide +kernel
theorem dX12_costOf_52 : decode cX12_costOf 52 = .ok (.ireturn, 1) := by decide +kernel
theorem dX12_plan_0 : decode cX12_plan 0 = .ok (.aload_n 0, 1) := by decide +kernel
theorem dX12_plan_1 : decode cX12_plan 1 = .ok (.iconst 0, 1) := by decide +kernel
theorem dX12_plan_2 : decode cX12_plan 2 = .ok (.putfield 76, 3) := by decide +kernel
theorem dX12_plan_5 : decode cX12_plan 5 = .ok (.iload_n 1, 1) := by decide +kernel
theorem dX12_plan_6 : decode cX12_plan 6 = .ok (.i2l, 1) := by decide +kernel
theorem dX12_plan_7 : decode cX12_plan 7 = .ok (.lconst 0, 1) := by decide +kernel
theorem dX12_plan_8 : decode cX12_plan 8 = .ok (.ldc2_w 412, 3) := by decide +kernel
theorem dX12_plan_11 : decode cX12_plan 11 = .ok (.invokestatic 82, 3) := by decide +kernel
theorem dX12_plan_14 : decode cX12_plan 14 = .ok (.ifCond .ne 5, 3) := by decide +kernel
theorem dX12_plan_17 : decode cX12_plan 17 = .ok (.iconst (-1), 1) := by decide +kernel
theorem dX12_plan_18 : decode cX12_plan 18 = .ok (.ireturn, 1) := by decide +kernel
theorem dX12_plan_19 : decode cX12_plan 19 = .ok (.aload_n 0, 1) := by decide +kernel
theorem dX12_plan_20 : decode cX12_plan 20 = .ok (.invokevirtual 406, 3) := by decide +kernel
theorem dX12_plan_23 : decode cX12_plan 23 = .ok (.iconst 0, 1) := by decide +kernel
theorem dX12_plan_24 : decode cX12_plan 24 = .ok (.istore_n 2, 1) := by decide +kernel
theorem dX12_plan_25 : decode cX12_plan 25 = .ok (.aload_n 0, 1) := by decide +kernel
theorem dX12_plan_26 : decode cX12_plan 26 = .ok (.iconst 0, 1) := by decide +kernel
theorem dX12_plan_27 : decode cX12_plan 27 = .ok (.invokevirtual 409, 3) := by decide +kernel
theorem dX12_plan_30 : decode cX12_plan 30 = .ok (.istore_n 3, 1) := by decide +kernel
theorem dX12_plan_31 : decode cX12_plan 31 = .ok (.iconst 1, 1) := by decide +kernel
theorem dX12_plan_32 : decode cX12_plan 32 = .ok (.istore 4, 2) := by decide +kernel
theorem dX12_plan_34 : decode cX12_plan 34 = .ok (.iload 4, 2) := by decide +kernel
theorem dX12_plan_36 : decode cX12_plan 36 = .ok (.iconst 1, 1) := by decide +kernel
theorem dX12_plan_37 : decode cX12_plan 37 = .ok (.aload_n 0, 1) := by decide +kernel
theorem dX12_plan_38 : decode cX12_plan 38 = .ok (.getfield 13, 3) := by decide +kernel
theorem dX12_plan_41 : decode cX12_plan 41 = .ok (.bipush 9, 2) := by decide +kernel
theorem dX12_plan_43 : decode cX12_plan 43 = .ok (.iaload, 1) := by decide +kernel
theorem dX12_plan_44 : decode cX12_plan 44 = .ok (.ishl, 1) := by decide +kernel
theorem dX12_plan_45 : decode cX12_plan 45 = .ok (.if_icmp .ge 63, 3) := by decide +kernel
theorem dX12_plan_48 : decode cX12_plan 48 = .ok (.aload_n 0, 1) := by decide +kernel
theorem dX12_plan_49 : decode cX12_plan 49 = .ok (.iload 4, 2) := by decide +kernel
theorem dX12_plan_51 : decode cX12_plan 51 = .ok (.invokevirtual 414, 3) := by decide +kernel
theorem dX12_plan_54 : decode cX12_plan 54 = .ok (.istore 5, 2) := by decide +kernel
theorem dX12_plan_56 : decode cX12_plan 56 = .ok (.iload 5, 2) := by decide +kernel
theorem dX12_plan_58 : decode cX12_plan 58 = .ok (.iload_n 1, 1) := by decide +kernel
theorem dX12_plan_59 : decode cX12_plan 59 = .ok (.if_icmp .gt 12, 3) := by decide +kernel
theorem dX12_plan_62 : decode cX12_plan 62 = .ok (.aload_n 0, 1) := by decide +kernel
theorem dX12_plan_63 : decode cX12_plan 63 = .ok (.iload 4, 2) := by decide +kernel
theorem dX12_plan_65 : decode cX12_plan 65 = .ok (.invokevirtual 409, 3) := by decide +kernel
theorem dX12_plan_68 : decode cX12_plan 68 = .ok (.goto 4, 3) := by decide +kernel
theorem dX12_plan_71 : decode cX12_plan 71 = .ok (.iconst (-1), 1) := by decide +kernel
theorem dX12_plan_72 : decode cX12_plan 72 = .ok (.istore 6, 2) := by decide +kernel
theorem dX12_plan_74 : decode cX12_plan 74 = .ok (.iload 6, 2) := by decide +kernel
theorem dX12_plan_76 : decode cX12_plan 76 = .ok (.iload_n 3, 1) := by decide +kernel
theorem dX12_plan_77 : decode cX12_plan 77 = .ok (.if_icmp .gt 19, 3) := by decide +kernel
theorem dX12_plan_80 : decode cX12_plan 80 = .ok (.iload 6, 2) := by decide +kernel
theorem dX12_plan_82 : decode cX12_plan 82 = .ok (.iload_n 3, 1) := by decide +kernel
theorem dX12_plan_83 : decode cX12_plan 83 = .ok (.if_icmp .ne 19, 3) := by decide +kernel
theorem dX12_plan_86 : decode cX12_plan 86 = .ok (.iload 5, 2) := by decide +kernel
theorem dX12_plan_88 : decode cX12_plan 88 = .ok (.aload_n 0, 1) := by decide +kernel
theorem dX12_plan_89 : decode cX12_plan 89 = .ok (.iload_n 2, 1) := by decide +kernel
theorem dX12_plan_90 : decode cX12_plan 90 = .ok (.invokevirtual 414, 3) := by decide +kernel
theorem dX12_plan_93 : decode cX12_plan 93 = .ok (.if_icmp .ge 9, 3) := by decide +kernel
theorem dX12_plan_96 : decode cX12_plan 96 = .ok (.iload 4, 2) := by decide +kernel
theorem dX12_plan_98 : decode cX12_plan 98 = .ok (.istore_n 2, 1) := by decide +kernel
theorem dX12_plan_99 : decode cX12_plan 99 = .ok (.iload 6, 2) := by decide +kernel
theorem dX12_plan_101 : decode cX12_plan 101 = .ok (.istore_n 3, 1) := by decide +kernel
theorem dX12_plan_102 : decode cX12_plan 102 = .ok (.iinc 4 1, 3) := by decide +kernel
theorem dX12_plan_105 : decode cX12_plan 105 = .ok (.goto (-71), 3) := by decide +kernel
theorem dX12_plan_108 : decode cX12_plan 108 = .ok (.iload_n 2, 1) := by decide +kernel
theorem dX12_plan_109 : decode cX12_plan 109 = .ok (.ireturn, 1) := by decide +kernel
theorem dX12_year_0 : decode cX12_year 0 = .ok (.aload_n 0, 1) := by decide +kernel
theorem dX12_year_1 : decode cX12_year 1 = .ok (.iconst 0, 1) := by decide +kernel
theorem dX12_year_2 : decode cX12_year 2 = .ok (.putfield 76, 3) := by decide +kernel
theorem dX12_year_5 : decode cX12_year 5 = .ok (.iload_n 1, 1) := by decide +kernel
theorem dX12_year_6 : decode cX12_year 6 = .ok (.i2l, 1) := by decide +kernel
theorem dX12_year_7 : decode cX12_year 7 = .ok (.lconst 0, 1) := by decide +kernel
theorem dX12_year_8 : decode cX12_year 8 = .ok (.ldc2_w 417, 3) := by decide +kernel
theorem dX12_year_11 : decode cX12_year 11 = .ok (.invokestatic 82, 3) := by decide +kernel
theorem dX12_year_14 : decode cX12_year 14 = .ok (.ifCond .eq 27, 3) := by decide +kernel
theorem dX12_year_17 : decode cX12_year 17 = .ok (.iload_n 2, 1) := by decide +kernel
theorem dX12_year_18 : decode cX12_year 18 = .ok (.i2l, 1) := by decide +kernel
theorem dX12_year_19 : decode cX12_year 19 = .ok (.lconst 0, 1) := by decide +kernel
theorem dX12_year_20 : decode cX12_year 20 = .ok (.ldc2_w 412, 3) := by decide +kernel
theorem dX12_year_23 : decode cX12_year 23 = .ok (.invokestatic 82, 3) := by decide +kernel
theorem dX12_year_26 : decode cX12_year 26 = .ok (.ifCond .eq 15, 3) := by decide +kernel
theorem dX12_year_29 : decode cX12_year 29 = .ok (.iload_n 3, 1) := by decide +kernel
theorem dX12_year_30 : decode cX12_year 30 = .ok (.i2l, 1) := by decide +kernel
theorem dX12_year_31 : decode cX12_year 31 = .ok (.lconst 0, 1) := by decide +kernel
theorem dX12_year_32 : decode cX12_year 32 = .ok (.ldc2_w 412, 3) := by decide +kernel
theorem dX12_year_35 : decode cX12_year 35 = .ok (.invokestatic 82, 3) := by decide +kernel
theorem dX12_year_38 : decode cX12_year 38 = .ok (.ifCond .ne 9, 3) := by decide +kernel
theorem dX12_year_41 : decode cX12_year 41 = .ok (.aload_n 0, 1) := by decide +kernel
theorem dX12_year_42 : decode cX12_year 42 = .ok (.iconst (-1), 1) := by decide +kernel
theorem dX12_year_43 : decode cX12_year 43 = .ok (.invokevirtual 86, 3) := by decide +kernel
theorem dX12_year_46 : decode cX12_year 46 = .ok (.ireturn, 1) := by decide +kernel
theorem dX12_year_47 : decode cX12_year 47 = .ok (.aload_n 0, 1) := by decide +kernel
theorem dX12_year_48 : decode cX12_year 48 = .ok (.getfield 13, 3) := by decide +kernel
theorem dX12_year_51 : decode cX12_year 51 = .ok (.sipush 810, 3) := by decide +kernel
theorem dX12_year_54 : decode cX12_year 54 = .ok (.iconst 2, 1) := by decide +kernel
theorem dX12_year_55 : decode cX12_year 55 = .ok (.iload_n 1, 1) := by decide +kernel
theorem dX12_year_56 : decode cX12_year 56 = .ok (.imul, 1) := by decide +kernel
theorem dX12_year_57 : decode cX12_year 57 = .ok (.iadd, 1) := by decide +kernel
theorem dX12_year_58 : decode cX12_year 58 = .ok (.iload_n 2, 1) := by decide +kernel
theorem dX12_year_59 : decode cX12_year 59 = .ok (.iastore, 1) := by decide +kernel
theorem dX12_year_60 : decode cX12_year 60 = .ok (.aload_n 0, 1) := by decide +kernel
theorem dX12_year_61 : decode cX12_year 61 = .ok (.getfield 13, 3) := by decide +kernel
theorem dX12_year_64 : decode cX12_year 64 = .ok (.sipush 810, 3) := by decide +kernel
theorem dX12_year_67 : decode cX12_year 67 = .ok (.iconst 2, 1) := by decide +kernel
theorem dX12_year_68 : decode cX12_year 68 = .ok (.iload_n 1, 1) := by decide +kernel
theorem dX12_year_69 : decode cX12_year 69 = .ok (.imul, 1) := by decide +kernel
theorem dX12_year_70 : decode cX12_year 70 = .ok (.iadd, 1) := by decide +kernel
theorem dX12_year_71 : decode cX12_year 71 = .ok (.iconst 1, 1) := by decide +kernel
theorem dX12_year_72 : decode cX12_year 72 = .ok (.iadd, 1) := by decide +kernel
theorem dX12_year_73 : decode cX12_year 73 = .ok (.iload_n 3, 1) := by decide +kernel
theorem dX12_year_74 : decode cX12_year 74 = .ok (.iastore, 1) := by decide +kernel
theorem dX12_year_75 : decode cX12_year 75 = .ok (.aload_n 0, 1) := by decide +kernel
theorem dX12_year_76 : decode cX12_year 76 = .ok (.iconst 0, 1) := by decide +kernel
theorem dX12_year_77 : decode cX12_year 77 = .ok (.invokevirtual 86, 3) := by decide +kernel
theorem dX12_year_80 : decode cX12_year 80 = .ok (.ireturn, 1) := by decide +kernel
theorem dX12_isBase_0 : decode cX12_isBase 0 = .ok (.iload_n 1, 1) := by decide +kernel
theorem dX12_isBase_1 : decode cX12_isBase 1 = .ok (.i2l, 1) := by decide +kernel
theorem dX12_isBase_2 : decode cX12_isBase 2 = .ok (.lconst 0, 1) := by decide +kernel
theorem dX12_isBase_3 : decode cX12_isBase 3 = .ok (.ldc2_w 417, 3) := by decide +kernel
theorem dX12_isBase_6 : decode cX12_isBase 6 = .ok (.invokestatic 82, 3) := by decide +kernel
theorem dX12_isBase_9 : decode cX12_isBase 9 = .ok (.ifCond .eq 22, 3) := by decide +kernel
theorem dX12_isBase_12 : decode cX12_isBase 12 = .ok (.aload_n 0, 1) := by decide +kernel
theorem dX12_isBase_13 : decode cX12_isBase 13 = .ok (.getfield 13, 3) := by decide +kernel
theorem dX12_isBase_16 : decode cX12_isBase 16 = .ok (.sipush 810, 3) := by decide +kernel
theorem dX12_isBase_19 : decode cX12_isBase 19 = .ok (.iconst 2, 1) := by decide +kernel
theorem dX12_isBase_20 : decode cX12_isBase 20 = .ok (.iload_n 1, 1) := by decide +kernel
theorem dX12_isBase_21 : decode cX12_isBase 21 = .ok (.imul, 1) := by decide +kernel
theorem dX12_isBase_22 : decode cX12_isBase 22 = .ok (.iadd, 1) := by decide +kernel
theorem dX12_isBase_23 : decode cX12_isBase 23 = .ok (.iaload, 1) := by decide +kernel
theorem dX12_isBase_24 : decode cX12_isBase 24 = .ok (.ifCond .le 7, 3) := by decide +kernel
theorem dX12_isBase_27 : decode cX12_isBase 27 = .ok (.iconst 1, 1) := by decide +kernel
theorem dX12_isBase_28 : decode cX12_isBase 28 = .ok (.goto 4, 3) := by decide +kernel
theorem dX12_isBase_31 : decode cX12_isBase 31 = .ok (.iconst 0, 1) := by decide +kernel
theorem dX12_isBase_32 : decode cX12_isBase 32 = .ok (.ireturn, 1) := by decide +kernel
theorem dX12_nothingNew_0 : decode cX12_nothingNew 0 = .ok (.aload_n 0, 1) := by decide +kernel
theorem dX12_nothingNew_1 : decode cX12_nothingNew 1 = .ok (.getfield 13, 3) := by decide +kernel
theorem dX12_nothingNew_4 : decode cX12_nothingNew 4 = .ok (.sipush 810, 3) := by decide +kernel
theorem dX12_nothingNew_7 : decode cX12_nothingNew 7 = .ok (.iconst 2, 1) := by decide +kernel
theorem dX12_nothingNew_8 : decode cX12_nothingNew 8 = .ok (.iload_n 2, 1) := by decide +kernel
theorem dX12_nothingNew_9 : decode cX12_nothingNew 9 = .ok (.imul, 1) := by decide +kernel
theorem dX12_nothingNew_10 : decode cX12_nothingNew 10 = .ok (.iadd, 1) := by decide +kernel
theorem dX12_nothingNew_11 : decode cX12_nothingNew 11 = .ok (.iaload, 1) := by decide +kernel
theorem dX12_nothingNew_12 : decode cX12_nothingNew 12 = .ok (.aload_n 0, 1) := by decide +kernel
theorem dX12_nothingNew_13 : decode cX12_nothingNew 13 = .ok (.getfield 13, 3) := by decide +kernel
theorem dX12_nothingNew_16 : decode cX12_nothingNew 16 = .ok (.sipush 810, 3) := by decide +kernel
theorem dX12_nothingNew_19 : decode cX12_nothingNew 19 = .ok (.iconst 2, 1) := by decide +kernel
theorem dX12_nothingNew_20 : decode cX12_nothingNew 20 = .ok (.iload_n 1, 1) := by decide +kernel
theorem dX12_nothingNew_21 : decode cX12_nothingNew 21 = .ok (.imul, 1) := by decide +kernel
theorem dX12_nothingNew_22 : decode cX12_nothingNew 22 = .ok (.iadd, 1) := by decide +kernel
theorem dX12_nothingNew_23 : decode cX12_nothingNew 23 = .ok (.iconst 1, 1) := by decide +kernel
theorem dX12_nothingNew_24 : decode cX12_nothingNew 24 = .ok (.iadd, 1) := by decide +kernel
theorem dX12_nothingNew_25 : decode cX12_nothingNew 25 = .ok (.iaload, 1) := by decide +kernel
theorem dX12_nothingNew_26 : decode cX12_nothingNew 26 = .ok (.imul, 1) := by decide +kernel
theorem dX12_nothingNew_27 : decode cX12_nothingNew 27 = .ok (.aload_n 0, 1) := by decide +kernel
theorem dX12_nothingNew_28 : decode cX12_nothingNew 28 = .ok (.getfield 13, 3) := by decide +kernel
theorem dX12_nothingNew_31 : decode cX12_nothingNew 31 = .ok (.sipush 810, 3) := by decide +kernel
theorem dX12_nothingNew_34 : decode cX12_nothingNew 34 = .ok (.iconst 2, 1) := by decide +kernel
theorem dX12_nothingNew_35 : decode cX12_nothingNew 35 = .ok (.iload_n 1, 1) := by decide +kernel
theorem dX12_nothingNew_36 : decode cX12_nothingNew 36 = .ok (.imul, 1) := by decide +kernel
theorem dX12_nothingNew_37 : decode cX12_nothingNew 37 = .ok (.iadd, 1) := by decide +kernel
theorem dX12_nothingNew_38 : decode cX12_nothingNew 38 = .ok (.iaload, 1) := by decide +kernel
theorem dX12_nothingNew_39 : decode cX12_nothingNew 39 = .ok (.idiv, 1) := by decide +kernel
theorem dX12_nothingNew_40 : decode cX12_nothingNew 40 = .ok (.ireturn, 1) := by decide +kernel
theorem dX12_more_0 : decode cX12_more 0 = .ok (.aload_n 0, 1) := by decide +kernel
theorem dX12_more_1 : decode cX12_more 1 = .ok (.iconst 0, 1) := by decide +kernel
theorem dX12_more_2 : decode cX12_more 2 = .ok (.putfield 76, 3) := by decide +kernel
theorem dX12_more_5 : decode cX12_more 5 = .ok (.aload_n 0, 1) := by decide +kernel
theorem dX12_more_6 : decode cX12_more 6 = .ok (.iload_n 1, 1) := by decide +kernel
theorem dX12_more_7 : decode cX12_more 7 = .ok (.invokevirtual 419, 3) := by decide +kernel
theorem dX12_more_10 : decode cX12_more 10 = .ok (.ifCond .eq 25, 3) := by decide +kernel
theorem dX12_more_13 : decode cX12_more 13 = .ok (.iload_n 2, 1) := by decide +kernel
theorem dX12_more_14 : decode cX12_more 14 = .ok (.i2l, 1) := by decide +kernel
theorem dX12_more_15 : decode cX12_more 15 = .ok (.lconst 0, 1) := by decide +kernel
theorem dX12_more_16 : decode cX12_more 16 = .ok (.ldc2_w 417, 3) := by decide +kernel
theorem dX12_more_19 : decode cX12_more 19 = .ok (.invokestatic 82, 3) := by decide +kernel
theorem dX12_more_22 : decode cX12_more 22 = .ok (.ifCond .eq 13, 3) := by decide +kernel
theorem dX12_more_25 : decode cX12_more 25 = .ok (.iload_n 3, 1) := by decide +kernel
theorem dX12_more_26 : decode cX12_more 26 = .ok (.i2l, 1) := by decide +kernel
theorem dX12_more_27 : decode cX12_more 27 = .ok (.lconst 0, 1) := by decide +kernel
theorem dX12_more_28 : decode cX12_more 28 = .ok (.lconst 1, 1) := by decide +kernel
theorem dX12_more_29 : decode cX12_more 29 = .ok (.invokestatic 82, 3) := by decide +kernel
theorem dX12_more_32 : decode cX12_more 32 = .ok (.ifCond .ne 7, 3) := by decide +kernel
theorem dX12_more_35 : decode cX12_more 35 = .ok (.ldc_w 397, 3) := by decide +kernel
theorem dX12_more_38 : decode cX12_more 38 = .ok (.ireturn, 1) := by decide +kernel
theorem dX12_more_39 : decode cX12_more 39 = .ok (.aload_n 0, 1) := by decide +kernel
theorem dX12_more_40 : decode cX12_more 40 = .ok (.iload_n 1, 1) := by decide +kernel
theorem dX12_more_41 : decode cX12_more 41 = .ok (.iload_n 2, 1) := by decide +kernel
theorem dX12_more_42 : decode cX12_more 42 = .ok (.invokevirtual 422, 3) := by decide +kernel
theorem dX12_more_45 : decode cX12_more 45 = .ok (.istore 4, 2) := by decide +kernel
theorem dX12_more_47 : decode cX12_more 47 = .ok (.iload_n 3, 1) := by decide +kernel
theorem dX12_more_48 : decode cX12_more 48 = .ok (.ifCond .ne 8, 3) := by decide +kernel
theorem dX12_more_51 : decode cX12_more 51 = .ok (.iload 4, 2) := by decide +kernel
theorem dX12_more_53 : decode cX12_more 53 = .ok (.goto 20, 3) := by decide +kernel
theorem dX12_more_56 : decode cX12_more 56 = .ok (.aload_n 0, 1) := by decide +kernel
theorem dX12_more_57 : decode cX12_more 57 = .ok (.getfield 13, 3) := by decide +kernel
theorem dX12_more_60 : decode cX12_more 60 = .ok (.sipush 810, 3) := by decide +kernel
theorem dX12_more_63 : decode cX12_more 63 = .ok (.iconst 2, 1) := by decide +kernel
theorem dX12_more_64 : decode cX12_more 64 = .ok (.iload_n 2, 1) := by decide +kernel
theorem dX12_more_65 : decode cX12_more 65 = .ok (.imul, 1) := by decide +kernel
theorem dX12_more_66 : decode cX12_more 66 = .ok (.iadd, 1) := by decide +kernel
theorem dX12_more_67 : decode cX12_more 67 = .ok (.iconst 1, 1) := by decide +kernel
theorem dX12_more_68 : decode cX12_more 68 = .ok (.iadd, 1) := by decide +kernel
theorem dX12_more_69 : decode cX12_more 69 = .ok (.iaload, 1) := by decide +kernel
theorem dX12_more_70 : decode cX12_more 70 = .ok (.iload 4, 2) := by decide +kernel
theorem dX12_more_72 : decode cX12_more 72 = .ok (.isub, 1) := by decide +kernel
theorem dX12_more_73 : decode cX12_more 73 = .ok (.ireturn, 1) := by decide +kernel
theorem dX12_grew_0 : decode cX12_grew 0 = .ok (.aload_n 0, 1) := by decide +kernel
theorem dX12_grew_1 : decode cX12_grew 1 = .ok (.iconst 0, 1) := by decide +kernel
theorem dX12_grew_2 : decode cX12_grew 2 = .ok (.putfield 76, 3) := by decide +kernel
theorem dX12_grew_5 : decode cX12_grew 5 = .ok (.aload_n 0, 1) := by decide +kernel
theorem dX12_grew_6 : decode cX12_grew 6 = .ok (.iload_n 1, 1) := by decide +kernel
theorem dX12_grew_7 : decode cX12_grew 7 = .ok (.invokevirtual 419, 3) := by decide +kernel
theorem dX12_grew_10 : decode cX12_grew 10 = .ok (.ifCond .ne 5, 3) := by decide +kernel
theorem dX12_grew_13 : decode cX12_grew 13 = .ok (.iconst (-1), 1) := by decide +kernel
theorem dX12_grew_14 : decode cX12_grew 14 = .ok (.ireturn, 1) := by decide +kernel
theorem dX12_grew_15 : decode cX12_grew 15 = .ok (.iconst 0, 1) := by decide +kernel
theorem dX12_grew_16 : decode cX12_grew 16 = .ok (.istore_n 2, 1) := by decide +kernel
theorem dX12_grew_17 : decode cX12_grew 17 = .ok (.iconst 1, 1) := by decide +kernel
theorem dX12_grew_18 : decode cX12_grew 18 = .ok (.istore_n 3, 1) := by decide +kernel
theorem dX12_grew_19 : decode cX12_grew 19 = .ok (.iload_n 3, 1) := by decide +kernel
theorem dX12_grew_20 : decode cX12_grew 20 = .ok (.bipush 30, 2) := by decide +kernel
theorem dX12_grew_22 : decode cX12_grew 22 = .ok (.if_icmp .ge 68, 3) := by decide +kernel
theorem dX12_grew_25 : decode cX12_grew 25 = .ok (.aload_n 0, 1) := by decide +kernel
theorem dX12_grew_26 : decode cX12_grew 26 = .ok (.getfield 13, 3) := by decide +kernel
theorem dX12_grew_29 : decode cX12_grew 29 = .ok (.sipush 810, 3) := by decide +kernel
theorem dX12_grew_32 : decode cX12_grew 32 = .ok (.iconst 2, 1) := by decide +kernel
theorem dX12_grew_33 : decode cX12_grew 33 = .ok (.iload_n 3, 1) := by decide +kernel
theorem dX12_grew_34 : decode cX12_grew 34 = .ok (.imul, 1) := by decide +kernel
theorem dX12_grew_35 : decode cX12_grew 35 = .ok (.iadd, 1) := by decide +kernel
theorem dX12_grew_36 : decode cX12_grew 36 = .ok (.iconst 1, 1) := by decide +kernel
theorem dX12_grew_37 : decode cX12_grew 37 = .ok (.iadd, 1) := by decide +kernel
theorem dX12_grew_38 : decode cX12_grew 38 = .ok (.iaload, 1) := by decide +kernel
theorem dX12_grew_39 : decode cX12_grew 39 = .ok (.aload_n 0, 1) := by decide +kernel
theorem dX12_grew_40 : decode cX12_grew 40 = .ok (.iload_n 1, 1) := by decide +kernel
theorem dX12_grew_41 : decode cX12_grew 41 = .ok (.iload_n 3, 1) := by decide +kernel
theorem dX12_grew_42 : decode cX12_grew 42 = .ok (.invokevirtual 422, 3) := by decide +kernel
theorem dX12_grew_45 : decode cX12_grew 45 = .ok (.isub, 1) := by decide +kernel
theorem dX12_grew_46 : decode cX12_grew 46 = .ok (.istore 4, 2) := by decide +kernel
theorem dX12_grew_48 : decode cX12_grew 48 = .ok (.aload_n 0, 1) := by decide +kernel
theorem dX12_grew_49 : decode cX12_grew 49 = .ok (.getfield 13, 3) := by decide +kernel
theorem dX12_grew_52 : decode cX12_grew 52 = .ok (.sipush 810, 3) := by decide +kernel
theorem dX12_grew_55 : decode cX12_grew 55 = .ok (.iconst 2, 1) := by decide +kernel
theorem dX12_grew_56 : decode cX12_grew 56 = .ok (.iload_n 2, 1) := by decide +kernel
theorem dX12_grew_57 : decode cX12_grew 57 = .ok (.imul, 1) := by decide +kernel
theorem dX12_grew_58 : decode cX12_grew 58 = .ok (.iadd, 1) := by decide +kernel
theorem dX12_grew_59 : decode cX12_grew 59 = .ok (.iconst 1, 1) := by decide +kernel
theorem dX12_grew_60 : decode cX12_grew 60 = .ok (.iadd, 1) := by decide +kernel
theorem dX12_grew_61 : decode cX12_grew 61 = .ok (.iaload, 1) := by decide +kernel
theorem dX12_grew_62 : decode cX12_grew 62 = .ok (.aload_n 0, 1) := by decide +kernel
theorem dX12_grew_63 : decode cX12_grew 63 = .ok (.iload_n 1, 1) := by decide +kernel
theorem dX12_grew_64 : decode cX12_grew 64 = .ok (.iload_n 2, 1) := by decide +kernel
theorem dX12_grew_65 : decode cX12_grew 65 = .ok (.invokevirtual 422, 3) := by decide +kernel
theorem dX12_grew_68 : decode cX12_grew 68 = .ok (.isub, 1) := by decide +kernel
theorem dX12_grew_69 : decode cX12_grew 69 = .ok (.istore 5, 2) := by decide +kernel
theorem dX12_grew_71 : decode cX12_grew 71 = .ok (.iload 4, 2) := by decide +kernel
theorem dX12_grew_73 : decode cX12_grew 73 = .ok (.iload 5, 2) := by decide +kernel
theorem dX12_grew_75 : decode cX12_grew 75 = .ok (.if_icmp .le 7, 3) := by decide +kernel
theorem dX12_grew_78 : decode cX12_grew 78 = .ok (.iload_n 3, 1) := by decide +kernel
theorem dX12_grew_79 : decode cX12_grew 79 = .ok (.goto 4, 3) := by decide +kernel
theorem dX12_grew_82 : decode cX12_grew 82 = .ok (.iload_n 2, 1) := by decide +kernel
theorem dX12_grew_83 : decode cX12_grew 83 = .ok (.istore_n 2, 1) := by decide +kernel
theorem dX12_grew_84 : decode cX12_grew 84 = .ok (.iinc 3 1, 3) := by decide +kernel
theorem dX12_grew_87 : decode cX12_grew 87 = .ok (.goto (-68), 3) := by decide +kernel
theorem dX12_grew_90 : decode cX12_grew 90 = .ok (.iload_n 2, 1) := by decide +kernel
theorem dX12_grew_91 : decode cX12_grew 91 = .ok (.ireturn, 1) := by decide +kernel
theorem dX12_ripple_0 : decode cX12_ripple 0 = .ok (.aload_n 0, 1) := by decide +kernel
theorem dX12_ripple_1 : decode cX12_ripple 1 = .ok (.iconst 0, 1) := by decide +kernel
theorem dX12_ripple_2 : decode cX12_ripple 2 = .ok (.putfield 76, 3) := by decide +kernel
theorem dX12_ripple_5 : decode cX12_ripple 5 = .ok (.iload_n 1, 1) := by decide +kernel
theorem dX12_ripple_6 : decode cX12_ripple 6 = .ok (.i2l, 1) := by decide +kernel
theorem dX12_ripple_7 : decode cX12_ripple 7 = .ok (.lconst 0, 1) := by decide +kernel
theorem dX12_ripple_8 : decode cX12_ripple 8 = .ok (.ldc2_w 102, 3) := by decide +kernel
theorem dX12_ripple_11 : decode cX12_ripple 11 = .ok (.invokestatic 82, 3) := by decide +kernel
theorem dX12_ripple_14 : decode cX12_ripple 14 = .ok (.ifCond .eq 28, 3) := by decide +kernel
theorem dX12_ripple_17 : decode cX12_ripple 17 = .ok (.iload_n 2, 1) := by decide +kernel
theorem dX12_ripple_18 : decode cX12_ripple 18 = .ok (.i2l, 1) := by decide +kernel
theorem dX12_ripple_19 : decode cX12_ripple 19 = .ok (.lconst 1, 1) := by decide +kernel
theorem dX12_ripple_20 : decode cX12_ripple 20 = .ok (.ldc2_w 118, 3) := by decide +kernel
theorem dX12_ripple_23 : decode cX12_ripple 23 = .ok (.invokestatic 82, 3) := by decide +kernel
theorem dX12_ripple_26 : decode cX12_ripple 26 = .ok (.ifCond .eq 16, 3) := by decide +kernel
theorem dX12_ripple_29 : decode cX12_ripple 29 = .ok (.iload_n 3, 1) := by decide +kernel
theorem dX12_ripple_30 : decode cX12_ripple 30 = .ok (.i2l, 1) := by decide +kernel
theorem dX12_ripple_31 : decode cX12_ripple 31 = .ok (.iload_n 2, 1) := by decide +kernel
theorem dX12_ripple_32 : decode cX12_ripple 32 = .ok (.i2l, 1) := by decide +kernel
theorem dX12_ripple_33 : decode cX12_ripple 33 = .ok (.ldc2_w 118, 3) := by decide +kernel
theorem dX12_ripple_36 : decode cX12_ripple 36 = .ok (.invokestatic 82, 3) := by decide +kernel
theorem dX12_ripple_39 : decode cX12_ripple 39 = .ok (.ifCond .ne 9, 3) := by decide +kernel
theorem dX12_ripple_42 : decode cX12_ripple 42 = .ok (.aload_n 0, 1) := by decide +kernel
theorem dX12_ripple_43 : decode cX12_ripple 43 = .ok (.iconst (-1), 1) := by decide +kernel
theorem dX12_ripple_44 : decode cX12_ripple 44 = .ok (.invokevirtual 86, 3) := by decide +kernel
theorem dX12_ripple_47 : decode cX12_ripple 47 = .ok (.ireturn, 1) := by decide +kernel
theorem dX12_ripple_48 : decode cX12_ripple 48 = .ok (.aload_n 0, 1) := by decide +kernel
theorem dX12_ripple_49 : decode cX12_ripple 49 = .ok (.getfield 13, 3) := by decide +kernel
theorem dX12_ripple_52 : decode cX12_ripple 52 = .ok (.sipush 870, 3) := by decide +kernel
theorem dX12_ripple_55 : decode cX12_ripple 55 = .ok (.iconst 2, 1) := by decide +kernel
theorem dX12_ripple_56 : decode cX12_ripple 56 = .ok (.iload_n 1, 1) := by decide +kernel
theorem dX12_ripple_57 : decode cX12_ripple 57 = .ok (.imul, 1) := by decide +kernel
theorem dX12_ripple_58 : decode cX12_ripple 58 = .ok (.iadd, 1) := by decide +kernel
theorem dX12_ripple_59 : decode cX12_ripple 59 = .ok (.iload_n 2, 1) := by decide +kernel
theorem dX12_ripple_60 : decode cX12_ripple 60 = .ok (.iastore, 1) := by decide +kernel
theorem dX12_ripple_61 : decode cX12_ripple 61 = .ok (.aload_n 0, 1) := by decide +kernel
theorem dX12_ripple_62 : decode cX12_ripple 62 = .ok (.getfield 13, 3) := by decide +kernel
theorem dX12_ripple_65 : decode cX12_ripple 65 = .ok (.sipush 870, 3) := by decide +kernel
theorem dX12_ripple_68 : decode cX12_ripple 68 = .ok (.iconst 2, 1) := by decide +kernel
theorem dX12_ripple_69 : decode cX12_ripple 69 = .ok (.iload_n 1, 1) := by decide +kernel
theorem dX12_ripple_70 : decode cX12_ripple 70 = .ok (.imul, 1) := by decide +kernel
theorem dX12_ripple_71 : decode cX12_ripple 71 = .ok (.iadd, 1) := by decide +kernel
theorem dX12_ripple_72 : decode cX12_ripple 72 = .ok (.iconst 1, 1) := by decide +kernel
theorem dX12_ripple_73 : decode cX12_ripple 73 = .ok (.iadd, 1) := by decide +kernel
theorem dX12_ripple_74 : decode cX12_ripple 74 = .ok (.iload_n 3, 1) := by decide +kernel
theorem dX12_ripple_75 : decode cX12_ripple 75 = .ok (.iastore, 1) := by decide +kernel
theorem dX12_ripple_76 : decode cX12_ripple 76 = .ok (.aload_n 0, 1) := by decide +kernel
theorem dX12_ripple_77 : decode cX12_ripple 77 = .ok (.iconst 0, 1) := by decide +kernel
theorem dX12_ripple_78 : decode cX12_ripple 78 = .ok (.invokevirtual 86, 3) := by decide +kernel
theorem dX12_ripple_81 : decode cX12_ripple 81 = .ok (.ireturn, 1) := by decide +kernel
theorem dX12_picture_0 : decode cX12_picture 0 = .ok (.aload_n 0, 1) := by decide +kernel
theorem dX12_picture_1 : decode cX12_picture 1 = .ok (.iconst 0, 1) := by decide +kernel
theorem dX12_picture_2 : decode cX12_picture 2 = .ok (.putfield 76, 3) := by decide +kernel
theorem dX12_picture_5 : decode cX12_picture 5 = .ok (.iload_n 1, 1) := by decide +kernel
theorem dX12_picture_6 : decode cX12_picture 6 = .ok (.invokestatic 96, 3) := by decide +kernel
theorem dX12_picture_9 : decode cX12_picture 9 = .ok (.ifCond .eq 25, 3) := by decide +kernel
theorem dX12_picture_12 : decode cX12_picture 12 = .ok (.iload_n 2, 1) := by decide +kernel
theorem dX12_picture_13 : decode cX12_picture 13 = .ok (.i2l, 1) := by decide +kernel
theorem dX12_picture_14 : decode cX12_picture 14 = .ok (.lconst 0, 1) := by decide +kernel
theorem dX12_picture_15 : decode cX12_picture 15 = .ok (.ldc2_w 398, 3) := by decide +kernel
theorem dX12_picture_18 : decode cX12_picture 18 = .ok (.invokestatic 82, 3) := by decide +kernel
theorem dX12_picture_21 : decode cX12_picture 21 = .ok (.ifCond .eq 13, 3) := by decide +kernel
theorem dX12_picture_24 : decode cX12_picture 24 = .ok (.iload_n 3, 1) := by decide +kernel
theorem dX12_picture_25 : decode cX12_picture 25 = .ok (.i2l, 1) := by decide +kernel
theorem dX12_picture_26 : decode cX12_picture 26 = .ok (.lconst 0, 1) := by decide +kernel
theorem dX12_picture_27 : decode cX12_picture 27 = .ok (.lconst 1, 1) := by decide +kernel
theorem dX12_picture_28 : decode cX12_picture 28 = .ok (.invokestatic 82, 3) := by decide +kernel
theorem dX12_picture_31 : decode cX12_picture 31 = .ok (.ifCond .ne 5, 3) := by decide +kernel
theorem dX12_picture_34 : decode cX12_picture 34 = .ok (.iconst (-1), 1) := by decide +kernel
theorem dX12_picture_35 : decode cX12_picture 35 = .ok (.ireturn, 1) := by decide +kernel
theorem dX12_picture_36 : decode cX12_picture 36 = .ok (.sipush 870, 3) := by decide +kernel
theorem dX12_picture_39 : decode cX12_picture 39 = .ok (.iconst 2, 1) := by decide +kernel
theorem dX12_picture_40 : decode cX12_picture 40 = .ok (.aload_n 0, 1) := by decide +kernel
theorem dX12_picture_41 : decode cX12_picture 41 = .ok (.getfield 13, 3) := by decide +kernel
theorem dX12_picture_44 : decode cX12_picture 44 = .ok (.bipush 20, 2) := by decide +kernel
theorem dX12_picture_46 : decode cX12_picture 46 = .ok (.iconst 3, 1) := by decide +kernel
theorem dX12_picture_47 : decode cX12_picture 47 = .ok (.iload_n 1, 1) := by decide +kernel
theorem dX12_picture_48 : decode cX12_picture 48 = .ok (.imul, 1) := by decide +kernel
theorem dX12_picture_49 : decode cX12_picture 49 = .ok (.iadd, 1) := by decide +kernel
theorem dX12_picture_50 : decode cX12_picture 50 = .ok (.iaload, 1) := by decide +kernel
theorem dX12_picture_51 : decode cX12_picture 51 = .ok (.imul, 1) := by decide +kernel
theorem dX12_picture_52 : decode cX12_picture 52 = .ok (.iadd, 1) := by decide +kernel
theorem dX12_picture_53 : decode cX12_picture 53 = .ok (.istore 4, 2) := by decide +kernel
theorem dX12_picture_55 : decode cX12_picture 55 = .ok (.iload_n 3, 1) := by decide +kernel
theorem dX12_picture_56 : decode cX12_picture 56 = .ok (.ifCond .ne 15, 3) := by decide +kernel
theorem dX12_picture_59 : decode cX12_picture 59 = .ok (.iload_n 2, 1) := by decide +kernel
theorem dX12_picture_60 : decode cX12_picture 60 = .ok (.aload_n 0, 1) := by decide +kernel
theorem dX12_picture_61 : decode cX12_picture 61 = .ok (.getfield 13, 3) := by decide +kernel
theorem dX12_picture_64 : decode cX12_picture 64 = .ok (.iload 4, 2) := by decide +kernel
theorem dX12_picture_66 : decode cX12_picture 66 = .ok (.iaload, 1) := by decide +kernel
theorem dX12_picture_67 : decode cX12_picture 67 = .ok (.imul, 1) := by decide +kernel
theorem dX12_picture_68 : decode cX12_picture 68 = .ok (.goto 16, 3) := by decide +kernel
theorem dX12_picture_71 : decode cX12_picture 71 = .ok (.iload_n 2, 1) := by decide +kernel
theorem dX12_picture_72 : decode cX12_picture 72 = .ok (.iconst 1, 1) := by decide +kernel
theorem dX12_picture_73 : decode cX12_picture 73 = .ok (.iadd, 1) := by decide +kernel
theorem dX12_picture_74 : decode cX12_picture 74 = .ok (.aload_n 0, 1) := by decide +kernel
theorem dX12_picture_75 : decode cX12_picture 75 = .ok (.getfield 13, 3) := by decide +kernel
theorem dX12_picture_78 : decode cX12_picture 78 = .ok (.iload 4, 2) := by decide +kernel
theorem dX12_picture_80 : decode cX12_picture 80 = .ok (.iconst 1, 1) := by decide +kernel
theorem dX12_picture_81 : decode cX12_picture 81 = .ok (.iadd, 1) := by decide +kernel
theorem dX12_picture_82 : decode cX12_picture 82 = .ok (.iaload, 1) := by decide +kernel
theorem dX12_picture_83 : decode cX12_picture 83 = .ok (.imul, 1) := by decide +kernel
theorem dX12_picture_84 : decode cX12_picture 84 = .ok (.ireturn, 1) := by decide +kernel
theorem dX12_draw_0 : decode cX12_draw 0 = .ok (.aload_n 0, 1) := by decide +kernel
theorem dX12_draw_1 : decode cX12_draw 1 = .ok (.aload_n 0, 1) := by decide +kernel
theorem dX12_draw_2 : decode cX12_draw 2 = .ok (.getfield 425, 3) := by decide +kernel
theorem dX12_draw_5 : decode cX12_draw 5 = .ok (.ldc2_w 428, 3) := by decide +kernel
theorem dX12_draw_8 : decode cX12_draw 8 = .ok (.lmul, 1) := by decide +kernel
theorem dX12_draw_9 : decode cX12_draw 9 = .ok (.ldc2_w 430, 3) := by decide +kernel
theorem dX12_draw_12 : decode cX12_draw 12 = .ok (.ladd, 1) := by decide +kernel
theorem dX12_draw_13 : decode cX12_draw 13 = .ok (.ldc2_w 432, 3) := by decide +kernel
theorem dX12_draw_16 : decode cX12_draw 16 = .ok (.lrem, 1) := by decide +kernel
theorem dX12_draw_17 : decode cX12_draw 17 = .ok (.putfield 425, 3) := by decide +kernel
theorem dX12_draw_20 : decode cX12_draw 20 = .ok (.aload_n 0, 1) := by decide +kernel
theorem dX12_draw_21 : decode cX12_draw 21 = .ok (.getfield 425, 3) := by decide +kernel
theorem dX12_draw_24 : decode cX12_draw 24 = .ok (.iload_n 1, 1) := by decide +kernel
theorem dX12_draw_25 : decode cX12_draw 25 = .ok (.i2l, 1) := by decide +kernel
theorem dX12_draw_26 : decode cX12_draw 26 = .ok (.lrem, 1) := by decide +kernel
theorem dX12_draw_27 : decode cX12_draw 27 = .ok (.l2i, 1) := by decide +kernel
theorem dX12_draw_28 : decode cX12_draw 28 = .ok (.ireturn, 1) := by decide +kernel
theorem dX12_hasBoat_0 : decode cX12_hasBoat 0 = .ok (.iconst 0, 1) := by decide +kernel
theorem dX12_hasBoat_1 : decode cX12_hasBoat 1 = .ok (.istore_n 2, 1) := by decide +kernel
theorem dX12_hasBoat_2 : decode cX12_hasBoat 2 = .ok (.iconst 0, 1) := by decide +kernel
theorem dX12_hasBoat_3 : decode cX12_hasBoat 3 = .ok (.istore_n 3, 1) := by decide +kernel
theorem dX12_hasBoat_4 : decode cX12_hasBoat 4 = .ok (.iload_n 3, 1) := by decide +kernel
theorem dX12_hasBoat_5 : decode cX12_hasBoat 5 = .ok (.aload_n 0, 1) := by decide +kernel
theorem dX12_hasBoat_6 : decode cX12_hasBoat 6 = .ok (.getfield 13, 3) := by decide +kernel
theorem dX12_hasBoat_9 : decode cX12_hasBoat 9 = .ok (.iconst 0, 1) := by decide +kernel
theorem dX12_hasBoat_10 : decode cX12_hasBoat 10 = .ok (.iaload, 1) := by decide +kernel
theorem dX12_hasBoat_11 : decode cX12_hasBoat 11 = .ok (.if_icmp .ge 35, 3) := by decide +kernel
theorem dX12_hasBoat_14 : decode cX12_hasBoat 14 = .ok (.iload_n 2, 1) := by decide +kernel
theorem dX12_hasBoat_15 : decode cX12_hasBoat 15 = .ok (.ifCond .ne 19, 3) := by decide +kernel
theorem dX12_hasBoat_18 : decode cX12_hasBoat 18 = .ok (.aload_n 0, 1) := by decide +kernel
theorem dX12_hasBoat_19 : decode cX12_hasBoat 19 = .ok (.getfield 13, 3) := by decide +kernel
theorem dX12_hasBoat_22 : decode cX12_hasBoat 22 = .ok (.sipush 200, 3) := by decide +kernel
theorem dX12_hasBoat_25 : decode cX12_hasBoat 25 = .ok (.iconst 4, 1) := by decide +kernel
theorem dX12_hasBoat_26 : decode cX12_hasBoat 26 = .ok (.iload_n 3, 1) := by decide +kernel
theorem dX12_hasBoat_27 : decode cX12_hasBoat 27 = .ok (.imul, 1) := by decide +kernel
theorem dX12_hasBoat_28 : decode cX12_hasBoat 28 = .ok (.iadd, 1) := by decide +kernel
theorem dX12_hasBoat_29 : decode cX12_hasBoat 29 = .ok (.iaload, 1) := by decide +kernel
theorem dX12_hasBoat_30 : decode cX12_hasBoat 30 = .ok (.iload_n 1, 1) := by decide +kernel
theorem dX12_hasBoat_31 : decode cX12_hasBoat 31 = .ok (.if_icmp .ne 7, 3) := by decide +kernel
theorem dX12_hasBoat_34 : decode cX12_hasBoat 34 = .ok (.iconst 1, 1) := by decide +kernel
theorem dX12_hasBoat_35 : decode cX12_hasBoat 35 = .ok (.goto 4, 3) := by decide +kernel
theorem dX12_hasBoat_38 : decode cX12_hasBoat 38 = .ok (.iconst 0, 1) := by decide +kernel
theorem dX12_hasBoat_39 : decode cX12_hasBoat 39 = .ok (.istore_n 2, 1) := by decide +kernel
theorem dX12_hasBoat_40 : decode cX12_hasBoat 40 = .ok (.iinc 3 1, 3) := by decide +kernel
theorem dX12_hasBoat_43 : decode cX12_hasBoat 43 = .ok (.goto (-39), 3) := by decide +kernel
theorem dX12_hasBoat_46 : decode cX12_hasBoat 46 = .ok (.iload_n 2, 1) := by decide +kernel
theorem dX12_hasBoat_47 : decode cX12_hasBoat 47 = .ok (.ireturn, 1) := by decide +kernel
theorem dX12_looks_0 : decode cX12_looks 0 = .ok (.aload_n 0, 1) := by decide +kernel
theorem dX12_looks_1 : decode cX12_looks 1 = .ok (.sipush 1000, 3) := by decide +kernel
theorem dX12_looks_4 : decode cX12_looks 4 = .ok (.invokevirtual 434, 3) := by decide +kernel
theorem dX12_looks_7 : decode cX12_looks 7 = .ok (.aload_n 0, 1) := by decide +kernel
theorem dX12_looks_8 : decode cX12_looks 8 = .ok (.getfield 13, 3) := by decide +kernel
theorem dX12_looks_11 : decode cX12_looks 11 = .ok (.sipush 700, 3) := by decide +kernel
theorem dX12_looks_14 : decode cX12_looks 14 = .ok (.iconst 3, 1) := by decide +kernel
theorem dX12_looks_15 : decode cX12_looks 15 = .ok (.iload_n 1, 1) := by decide +kernel
theorem dX12_looks_16 : decode cX12_looks 16 = .ok (.imul, 1) := by decide +kernel
theorem dX12_looks_17 : decode cX12_looks 17 = .ok (.iadd, 1) := by decide +kernel
theorem dX12_looks_18 : decode cX12_looks 18 = .ok (.iconst 1, 1) := by decide +kernel
theorem dX12_looks_19 : decode cX12_looks 19 = .ok (.iadd, 1) := by decide +kernel
theorem dX12_looks_20 : decode cX12_looks 20 = .ok (.iaload, 1) := by decide +kernel
theorem dX12_looks_21 : decode cX12_looks 21 = .ok (.aload_n 0, 1) := by decide +kernel
theorem dX12_looks_22 : decode cX12_looks 22 = .ok (.getfield 13, 3) := by decide +kernel
theorem dX12_looks_25 : decode cX12_looks 25 = .ok (.sipush 700, 3) := by decide +kernel
theorem dX12_looks_28 : decode cX12_looks 28 = .ok (.iconst 3, 1) := by decide +kernel
theorem dX12_looks_29 : decode cX12_looks 29 = .ok (.iload_n 1, 1) := by decide +kernel
theorem dX12_looks_30 : decode cX12_looks 30 = .ok (.imul, 1) := by decide +kernel
theorem dX12_looks_31 : decode cX12_looks 31 = .ok (.iadd, 1) := by decide +kernel
theorem dX12_looks_32 : decode cX12_looks 32 = .ok (.iconst 2, 1) := by decide +kernel
theorem dX12_looks_33 : decode cX12_looks 33 = .ok (.iadd, 1) := by decide +kernel
theorem dX12_looks_34 : decode cX12_looks 34 = .ok (.iaload, 1) := by decide +kernel
theorem dX12_looks_35 : decode cX12_looks 35 = .ok (.imul, 1) := by decide +kernel
theorem dX12_looks_36 : decode cX12_looks 36 = .ok (.if_icmp .ge 5, 3) := by decide +kernel
theorem dX12_looks_39 : decode cX12_looks 39 = .ok (.iconst 0, 1) := by decide +kernel
theorem dX12_looks_40 : decode cX12_looks 40 = .ok (.ireturn, 1) := by decide +kernel
theorem dX12_looks_41 : decode cX12_looks 41 = .ok (.aload_n 0, 1) := by decide +kernel
theorem dX12_looks_42 : decode cX12_looks 42 = .ok (.iload_n 2, 1) := by decide +kernel
theorem dX12_looks_43 : decode cX12_looks 43 = .ok (.invokevirtual 437, 3) := by decide +kernel
theorem dX12_looks_46 : decode cX12_looks 46 = .ok (.ifCond .eq 27, 3) := by decide +kernel
theorem dX12_looks_49 : decode cX12_looks 49 = .ok (.aload_n 0, 1) := by decide +kernel
theorem dX12_looks_50 : decode cX12_looks 50 = .ok (.bipush 10, 2) := by decide +kernel
theorem dX12_looks_52 : decode cX12_looks 52 = .ok (.invokevirtual 434, 3) := by decide +kernel
theorem dX12_looks_55 : decode cX12_looks 55 = .ok (.aload_n 0, 1) := by decide +kernel
theorem dX12_looks_56 : decode cX12_looks 56 = .ok (.getfield 13, 3) := by decide +kernel
theorem dX12_looks_59 : decode cX12_looks 59 = .ok (.bipush 20, 2) := by decide +kernel
theorem dX12_looks_61 : decode cX12_looks 61 = .ok (.iconst 3, 1) := by decide +kernel
theorem dX12_looks_62 : decode cX12_looks 62 = .ok (.iload_n 2, 1) := by decide +kernel
theorem dX12_looks_63 : decode cX12_looks 63 = .ok (.imul, 1) := by decide +kernel
theorem dX12_looks_64 : decode cX12_looks 64 = .ok (.iadd, 1) := by decide +kernel
theorem dX12_looks_65 : decode cX12_looks 65 = .ok (.iaload, 1) := by decide +kernel
theorem dX12_looks_66 : decode cX12_looks 66 = .ok (.if_icmp .le 7, 3) := by decide +kernel
theorem dX12_looks_69 : decode cX12_looks 69 = .ok (.iconst 1, 1) := by decide +kernel
theorem dX12_looks_70 : decode cX12_looks 70 = .ok (.goto 4, 3) := by decide +kernel
theorem dX12_looks_73 : decode cX12_looks 73 = .ok (.iconst 2, 1) := by decide +kernel
theorem dX12_looks_74 : decode cX12_looks 74 = .ok (.ireturn, 1) := by decide +kernel
theorem dX12_run_0 : decode cX12_run 0 = .ok (.aload_n 0, 1) := by decide +kernel
theorem dX12_run_1 : decode cX12_run 1 = .ok (.iconst 0, 1) := by decide +kernel
theorem dX12_run_2 : decode cX12_run 2 = .ok (.putfield 76, 3) := by decide +kernel
theorem dX12_run_5 : decode cX12_run 5 = .ok (.iload_n 2, 1) := by decide +kernel
theorem dX12_run_6 : decode cX12_run 6 = .ok (.i2l, 1) := by decide +kernel
theorem dX12_run_7 : decode cX12_run 7 = .ok (.lconst 1, 1) := by decide +kernel
theorem dX12_run_8 : decode cX12_run 8 = .ok (.ldc2_w 334, 3) := by decide +kernel
theorem dX12_run_11 : decode cX12_run 11 = .ok (.invokestatic 82, 3) := by decide +kernel
theorem dX12_run_14 : decode cX12_run 14 = .ok (.ifCond .eq 15, 3) := by decide +kernel
theorem dX12_run_17 : decode cX12_run 17 = .ok (.iload_n 3, 1) := by decide +kernel
theorem dX12_run_18 : decode cX12_run 18 = .ok (.i2l, 1) := by decide +kernel
theorem dX12_run_19 : decode cX12_run 19 = .ok (.lconst 0, 1) := by decide +kernel
theorem dX12_run_20 : decode cX12_run 20 = .ok (.ldc2_w 176, 3) := by decide +kernel
theorem dX12_run_23 : decode cX12_run 23 = .ok (.invokestatic 82, 3) := by decide +kernel
theorem dX12_run_26 : decode cX12_run 26 = .ok (.ifCond .ne 9, 3) := by decide +kernel
theorem dX12_run_29 : decode cX12_run 29 = .ok (.aload_n 0, 1) := by decide +kernel
theorem dX12_run_30 : decode cX12_run 30 = .ok (.iconst (-1), 1) := by decide +kernel
theorem dX12_run_31 : decode cX12_run 31 = .ok (.invokevirtual 86, 3) := by decide +kernel
theorem dX12_run_34 : decode cX12_run 34 = .ok (.ireturn, 1) := by decide +kernel
theorem dX12_run_35 : decode cX12_run 35 = .ok (.aload_n 0, 1) := by decide +kernel
theorem dX12_run_36 : decode cX12_run 36 = .ok (.bipush 7, 2) := by decide +kernel
theorem dX12_run_38 : decode cX12_run 38 = .ok (.iload_n 1, 1) := by decide +kernel
theorem dX12_run_39 : decode cX12_run 39 = .ok (.invokevirtual 122, 3) := by decide +kernel
theorem dX12_run_42 : decode cX12_run 42 = .ok (.ifCond .ne 10, 3) := by decide +kernel
theorem dX12_run_45 : decode cX12_run 45 = .ok (.aload_n 0, 1) := by decide +kernel
theorem dX12_run_46 : decode cX12_run 46 = .ok (.bipush (-2), 2) := by decide +kernel
theorem dX12_run_48 : decode cX12_run 48 = .ok (.invokevirtual 86, 3) := by decide +kernel
theorem dX12_run_51 : decode cX12_run 51 = .ok (.ireturn, 1) := by decide +kernel
theorem dX12_run_52 : decode cX12_run 52 = .ok (.iconst 0, 1) := by decide +kernel
theorem dX12_run_53 : decode cX12_run 53 = .ok (.istore 4, 2) := by decide +kernel
theorem dX12_run_55 : decode cX12_run 55 = .ok (.iload 4, 2) := by decide +kernel
theorem dX12_run_57 : decode cX12_run 57 = .ok (.bipush 36, 2) := by decide +kernel
theorem dX12_run_59 : decode cX12_run 59 = .ok (.if_icmp .ge 17, 3) := by decide +kernel
theorem dX12_run_62 : decode cX12_run 62 = .ok (.aload_n 0, 1) := by decide +kernel
theorem dX12_run_63 : decode cX12_run 63 = .ok (.getfield 73, 3) := by decide +kernel
theorem dX12_run_66 : decode cX12_run 66 = .ok (.iload 4, 2) := by decide +kernel
theorem dX12_run_68 : decode cX12_run 68 = .ok (.iconst 0, 1) := by decide +kernel
theorem dX12_run_69 : decode cX12_run 69 = .ok (.iastore, 1) := by decide +kernel
theorem dX12_run_70 : decode cX12_run 70 = .ok (.iinc 4 1, 3) := by decide +kernel
theorem dX12_run_73 : decode cX12_run 73 = .ok (.goto (-18), 3) := by decide +kernel
theorem dX12_run_76 : decode cX12_run 76 = .ok (.aload_n 0, 1) := by decide +kernel
theorem dX12_run_77 : decode cX12_run 77 = .ok (.aload_n 0, 1) := by decide +kernel
theorem dX12_run_78 : decode cX12_run 78 = .ok (.getfield 13, 3) := by decide +kernel
theorem dX12_run_81 : decode cX12_run 81 = .ok (.iconst 3, 1) := by decide +kernel
theorem dX12_run_82 : decode cX12_run 82 = .ok (.iaload, 1) := by decide +kernel
theorem dX12_run_83 : decode cX12_run 83 = .ok (.putfield 70, 3) := by decide +kernel
theorem dX12_run_86 : decode cX12_run 86 = .ok (.aload_n 0, 1) := by decide +kernel
theorem dX12_run_87 : decode cX12_run 87 = .ok (.iload_n 3, 1) := by decide +kernel
theorem dX12_run_88 : decode cX12_run 88 = .ok (.i2l, 1) := by decide +kernel
theorem dX12_run_89 : decode cX12_run 89 = .ok (.putfield 425, 3) := by decide +kernel
theorem dX12_run_92 : decode cX12_run 92 = .ok (.iconst 0, 1) := by decide +kernel
theorem dX12_run_93 : decode cX12_run 93 = .ok (.istore 4, 2) := by decide +kernel
theorem dX12_run_95 : decode cX12_run 95 = .ok (.iconst 0, 1) := by decide +kernel
theorem dX12_run_96 : decode cX12_run 96 = .ok (.istore 5, 2) := by decide +kernel
theorem dX12_run_98 : decode cX12_run 98 = .ok (.iload 5, 2) := by decide +kernel
theorem dX12_run_100 : decode cX12_run 100 = .ok (.iload_n 2, 1) := by decide +kernel
theorem dX12_run_101 : decode cX12_run 101 = .ok (.if_icmp .ge 92, 3) := by decide +kernel
theorem dX12_run_104 : decode cX12_run 104 = .ok (.iconst 0, 1) := by decide +kernel
theorem dX12_run_105 : decode cX12_run 105 = .ok (.istore 6, 2) := by decide +kernel
theorem dX12_run_107 : decode cX12_run 107 = .ok (.iload 6, 2) := by decide +kernel
theorem dX12_run_109 : decode cX12_run 109 = .ok (.aload_n 0, 1) := by decide +kernel
theorem dX12_run_110 : decode cX12_run 110 = .ok (.getfield 13, 3) := by decide +kernel
theorem dX12_run_113 : decode cX12_run 113 = .ok (.iconst 3, 1) := by decide +kernel
theorem dX12_run_114 : decode cX12_run 114 = .ok (.iaload, 1) := by decide +kernel
theorem dX12_run_115 : decode cX12_run 115 = .ok (.if_icmp .ge 72, 3) := by decide +kernel
theorem dX12_run_118 : decode cX12_run 118 = .ok (.aload_n 0, 1) := by decide +kernel
theorem dX12_run_119 : decode cX12_run 119 = .ok (.bipush 100, 2) := by decide +kernel
theorem dX12_run_121 : decode cX12_run 121 = .ok (.invokevirtual 434, 3) := by decide +kernel
theorem dX12_run_124 : decode cX12_run 124 = .ok (.aload_n 0, 1) := by decide +kernel
theorem dX12_run_125 : decode cX12_run 125 = .ok (.getfield 13, 3) := by decide +kernel
theorem dX12_run_128 : decode cX12_run 128 = .ok (.sipush 330, 3) := by decide +kernel
theorem dX12_run_131 : decode cX12_run 131 = .ok (.iload 6, 2) := by decide +kernel
theorem dX12_run_133 : decode cX12_run 133 = .ok (.iadd, 1) := by decide +kernel
theorem dX12_run_134 : decode cX12_run 134 = .ok (.iaload, 1) := by decide +kernel
theorem dX12_run_135 : decode cX12_run 135 = .ok (.aload_n 0, 1) := by decide +kernel
theorem dX12_run_136 : decode cX12_run 136 = .ok (.getfield 13, 3) := by decide +kernel
theorem dX12_run_139 : decode cX12_run 139 = .ok (.bipush 20, 2) := by decide +kernel
theorem dX12_run_141 : decode cX12_run 141 = .ok (.iconst 3, 1) := by decide +kernel
theorem dX12_run_142 : decode cX12_run 142 = .ok (.iload 5, 2) := by decide +kernel
theorem dX12_run_144 : decode cX12_run 144 = .ok (.imul, 1) := by decide +kernel
theorem dX12_run_145 : decode cX12_run 145 = .ok (.iadd, 1) := by decide +kernel
theorem dX12_run_146 : decode cX12_run 146 = .ok (.iconst 2, 1) := by decide +kernel
theorem dX12_run_147 : decode cX12_run 147 = .ok (.iadd, 1) := by decide +kernel
theorem dX12_run_148 : decode cX12_run 148 = .ok (.iaload, 1) := by decide +kernel
theorem dX12_run_149 : decode cX12_run 149 = .ok (.iadd, 1) := by decide +kernel
theorem dX12_run_150 : decode cX12_run 150 = .ok (.if_icmp .ge 31, 3) := by decide +kernel
theorem dX12_run_153 : decode cX12_run 153 = .ok (.iinc 4 1, 3) := by decide +kernel
theorem dX12_run_156 : decode cX12_run 156 = .ok (.aload_n 0, 1) := by decide +kernel
theorem dX12_run_157 : decode cX12_run 157 = .ok (.iload_n 1, 1) := by decide +kernel
theorem dX12_run_158 : decode cX12_run 158 = .ok (.iload 5, 2) := by decide +kernel
theorem dX12_run_160 : decode cX12_run 160 = .ok (.invokevirtual 440, 3) := by decide +kernel
theorem dX12_run_163 : decode cX12_run 163 = .ok (.istore 7, 2) := by decide +kernel
theorem dX12_run_165 : decode cX12_run 165 = .ok (.aload_n 0, 1) := by decide +kernel
theorem dX12_run_166 : decode cX12_run 166 = .ok (.getfield 73, 3) := by decide +kernel
theorem dX12_run_169 : decode cX12_run 169 = .ok (.iconst 3, 1) := by decide +kernel
theorem dX12_run_170 : decode cX12_run 170 = .ok (.iload 6, 2) := by decide +kernel
theorem dX12_run_172 : decode cX12_run 172 = .ok (.imul, 1) := by decide +kernel
theorem dX12_run_173 : decode cX12_run 173 = .ok (.iload 7, 2) := by decide +kernel
theorem dX12_run_175 : decode cX12_run 175 = .ok (.iadd, 1) := by decide +kernel
theorem dX12_run_176 : decode cX12_run 176 = .ok (.dup2, 1) := by decide +kernel
theorem dX12_run_177 : decode cX12_run 177 = .ok (.iaload, 1) := by decide +kernel
theorem dX12_run_178 : decode cX12_run 178 = .ok (.iconst 1, 1) := by decide +kernel
theorem dX12_run_179 : decode cX12_run 179 = .ok (.iadd, 1) := by decide +kernel
theorem dX12_run_180 : decode cX12_run 180 = .ok (.iastore, 1) := by decide +kernel
theorem dX12_run_181 : decode cX12_run 181 = .ok (.iinc 6 1, 3) := by decide +kernel
theorem dX12_run_184 : decode cX12_run 184 = .ok (.goto (-77), 3) := by decide +kernel
theorem dX12_run_187 : decode cX12_run 187 = .ok (.iinc 5 1, 3) := by decide +kernel
theorem dX12_run_190 : decode cX12_run 190 = .ok (.goto (-92), 3) := by decide +kernel
theorem dX12_run_193 : decode cX12_run 193 = .ok (.aload_n 0, 1) := by decide +kernel
theorem dX12_run_194 : decode cX12_run 194 = .ok (.iload 4, 2) := by decide +kernel
theorem dX12_run_196 : decode cX12_run 196 = .ok (.invokevirtual 86, 3) := by decide +kernel
theorem dX12_run_199 : decode cX12_run 199 = .ok (.ireturn, 1) := by decide +kernel
theorem dX12_world_0 : decode cX12_world 0 = .ok (.aload_n 0, 1) := by decide +kernel
theorem dX12_world_1 : decode cX12_world 1 = .ok (.iconst 0, 1) := by decide +kernel
theorem dX12_world_2 : decode cX12_world 2 = .ok (.putfield 76, 3) := by decide +kernel
theorem dX12_world_5 : decode cX12_world 5 = .ok (.iload_n 1, 1) := by decide +kernel
theorem dX12_world_6 : decode cX12_world 6 = .ok (.i2l, 1) := by decide +kernel
theorem dX12_world_7 : decode cX12_world 7 = .ok (.lconst 0, 1) := by decide +kernel
theorem dX12_world_8 : decode cX12_world 8 = .ok (.ldc2_w 100, 3) := by decide +kernel
theorem dX12_world_11 : decode cX12_world 11 = .ok (.invokestatic 82, 3) := by decide +kernel
theorem dX12_world_14 : decode cX12_world 14 = .ok (.ifCond .eq 29, 3) := by decide +kernel
theorem dX12_world_17 : decode cX12_world 17 = .ok (.aload_n 0, 1) := by decide +kernel
theorem dX12_world_18 : decode cX12_world 18 = .ok (.getfield 70, 3) := by decide +kernel
theorem dX12_world_21 : decode cX12_world 21 = .ok (.iconst (-1), 1) := by decide +kernel
theorem dX12_world_22 : decode cX12_world 22 = .ok (.if_icmp .eq 21, 3) := by decide +kernel
theorem dX12_world_25 : decode cX12_world 25 = .ok (.iload_n 2, 1) := by decide +kernel
theorem dX12_world_26 : decode cX12_world 26 = .ok (.i2l, 1) := by decide +kernel
theorem dX12_world_27 : decode cX12_world 27 = .ok (.ldc2_w 174, 3) := by decide +kernel
theorem dX12_world_30 : decode cX12_world 30 = .ok (.aload_n 0, 1) := by decide +kernel
theorem dX12_world_31 : decode cX12_world 31 = .ok (.getfield 70, 3) := by decide +kernel
theorem dX12_world_34 : decode cX12_world 34 = .ok (.i2l, 1) := by decide +kernel
theorem dX12_world_35 : decode cX12_world 35 = .ok (.lconst 1, 1) := by decide +kernel
theorem dX12_world_36 : decode cX12_world 36 = .ok (.lsub, 1) := by decide +kernel
theorem dX12_world_37 : decode cX12_world 37 = .ok (.invokestatic 82, 3) := by decide +kernel
theorem dX12_world_40 : decode cX12_world 40 = .ok (.ifCond .ne 5, 3) := by decide +kernel
theorem dX12_world_43 : decode cX12_world 43 = .ok (.iconst (-1), 1) := by decide +kernel
theorem dX12_world_44 : decode cX12_world 44 = .ok (.ireturn, 1) := by decide +kernel
theorem dX12_world_45 : decode cX12_world 45 = .ok (.iconst 0, 1) := by decide +kernel
theorem dX12_world_46 : decode cX12_world 46 = .ok (.istore_n 3, 1) := by decide +kernel
theorem dX12_world_47 : decode cX12_world 47 = .ok (.iconst 0, 1) := by decide +kernel
theorem dX12_world_48 : decode cX12_world 48 = .ok (.istore 4, 2) := by decide +kernel
theorem dX12_world_50 : decode cX12_world 50 = .ok (.iload 4, 2) := by decide +kernel
theorem dX12_world_52 : decode cX12_world 52 = .ok (.aload_n 0, 1) := by decide +kernel
theorem dX12_world_53 : decode cX12_world 53 = .ok (.getfield 70, 3) := by decide +kernel
theorem dX12_world_56 : decode cX12_world 56 = .ok (.if_icmp .ge 38, 3) := by decide +kernel
theorem dX12_world_59 : decode cX12_world 59 = .ok (.iload_n 3, 1) := by decide +kernel
theorem dX12_world_60 : decode cX12_world 60 = .ok (.iload_n 2, 1) := by decide +kernel
theorem dX12_world_61 : decode cX12_world 61 = .ok (.iconst (-1), 1) := by decide +kernel
theorem dX12_world_62 : decode cX12_world 62 = .ok (.if_icmp .eq 9, 3) := by decide +kernel
theorem dX12_world_65 : decode cX12_world 65 = .ok (.iload_n 2, 1) := by decide +kernel
theorem dX12_world_66 : decode cX12_world 66 = .ok (.iload 4, 2) := by decide +kernel
theorem dX12_world_68 : decode cX12_world 68 = .ok (.if_icmp .ne 17, 3) := by decide +kernel
theorem dX12_world_71 : decode cX12_world 71 = .ok (.aload_n 0, 1) := by decide +kernel
theorem dX12_world_72 : decode cX12_world 72 = .ok (.getfield 73, 3) := by decide +kernel
theorem dX12_world_75 : decode cX12_world 75 = .ok (.iconst 3, 1) := by decide +kernel
theorem dX12_world_76 : decode cX12_world 76 = .ok (.iload 4, 2) := by decide +kernel
theorem dX12_world_78 : decode cX12_world 78 = .ok (.imul, 1) := by decide +kernel
theorem dX12_world_79 : decode cX12_world 79 = .ok (.iload_n 1, 1) := by decide +kernel
theorem dX12_world_80 : decode cX12_world 80 = .ok (.iadd, 1) := by decide +kernel
theorem dX12_world_81 : decode cX12_world 81 = .ok (.iaload, 1) := by decide +kernel
theorem dX12_world_82 : decode cX12_world 82 = .ok (.goto 4, 3) := by decide +kernel
theorem dX12_world_85 : decode cX12_world 85 = .ok (.iconst 0, 1) := by decide +kernel
theorem dX12_world_86 : decode cX12_world 86 = .ok (.iadd, 1) := by decide +kernel
theorem dX12_world_87 : decode cX12_world 87 = .ok (.istore_n 3, 1) := by decide +kernel
theorem dX12_world_88 : decode cX12_world 88 = .ok (.iinc 4 1, 3) := by decide +kernel
theorem dX12_world_91 : decode cX12_world 91 = .ok (.goto (-41), 3) := by decide +kernel
theorem dX12_world_94 : decode cX12_world 94 = .ok (.iload_n 3, 1) := by decide +kernel
theorem dX12_world_95 : decode cX12_world 95 = .ok (.ireturn, 1) := by decide +kernel
theorem dX12_count_0 : decode cX12_count 0 = .ok (.aload_n 0, 1) := by decide +kernel
theorem dX12_count_1 : decode cX12_count 1 = .ok (.iconst 0, 1) := by decide +kernel
theorem dX12_count_2 : decode cX12_count 2 = .ok (.putfield 76, 3) := by decide +kernel
theorem dX12_count_5 : decode cX12_count 5 = .ok (.iload_n 1, 1) := by decide +kernel
theorem dX12_count_6 : decode cX12_count 6 = .ok (.tableswitch 93 6 14 #[50, 93, 93, 93, 59, 64, 71, 78, 85], 50) := by decide +kernel
theorem dX12_count_56 : decode cX12_count 56 = .ok (.aload_n 0, 1) := by decide +kernel
theorem dX12_count_57 : decode cX12_count 57 = .ok (.getfield 13, 3) := by decide +kernel
theorem dX12_count_60 : decode cX12_count 60 = .ok (.sipush 901, 3) := by decide +kernel
theorem dX12_count_63 : decode cX12_count 63 = .ok (.iaload, 1) := by decide +kernel
theorem dX12_count_64 : decode cX12_count 64 = .ok (.ireturn, 1) := by decide +kernel
theorem dX12_count_65 : decode cX12_count 65 = .ok (.aload_n 0, 1) := by decide +kernel
theorem dX12_count_66 : decode cX12_count 66 = .ok (.getfield 134, 3) := by decide +kernel
theorem dX12_count_69 : decode cX12_count 69 = .ok (.ireturn, 1) := by decide +kernel
theorem dX12_count_70 : decode cX12_count 70 = .ok (.aload_n 0, 1) := by decide +kernel
theorem dX12_count_71 : decode cX12_count 71 = .ok (.getfield 7, 3) := by decide +kernel
theorem dX12_count_74 : decode cX12_count 74 = .ok (.iconst 1, 1) := by decide +kernel
theorem dX12_count_75 : decode cX12_count 75 = .ok (.iaload, 1) := by decide +kernel
theorem dX12_count_76 : decode cX12_count 76 = .ok (.ireturn, 1) := by decide +kernel
theorem dX12_count_77 : decode cX12_count 77 = .ok (.aload_n 0, 1) := by decide +kernel
theorem dX12_count_78 : decode cX12_count 78 = .ok (.getfield 7, 3) := by decide +kernel
theorem dX12_count_81 : decode cX12_count 81 = .ok (.iconst 2, 1) := by decide +kernel
theorem dX12_count_82 : decode cX12_count 82 = .ok (.iaload, 1) := by decide +kernel
theorem dX12_count_83 : decode cX12_count 83 = .ok (.ireturn, 1) := by decide +kernel
theorem dX12_count_84 : decode cX12_count 84 = .ok (.aload_n 0, 1) := by decide +kernel
theorem dX12_count_85 : decode cX12_count 85 = .ok (.getfield 7, 3) := by decide +kernel
theorem dX12_count_88 : decode cX12_count 88 = .ok (.iconst 5, 1) := by decide +kernel
theorem dX12_count_89 : decode cX12_count 89 = .ok (.iaload, 1) := by decide +kernel
theorem dX12_count_90 : decode cX12_count 90 = .ok (.ireturn, 1) := by decide +kernel
theorem dX12_count_91 : decode cX12_count 91 = .ok (.aload_n 0, 1) := by decide +kernel
theorem dX12_count_92 : decode cX12_count 92 = .ok (.getfield 7, 3) := by decide +kernel
theorem dX12_count_95 : decode cX12_count 95 = .ok (.bipush 6, 2) := by decide +kernel
theorem dX12_count_97 : decode cX12_count 97 = .ok (.iaload, 1) := by decide +kernel
theorem dX12_count_98 : decode cX12_count 98 = .ok (.ireturn, 1) := by decide +kernel
theorem dX12_count_99 : decode cX12_count 99 = .ok (.iload_n 1, 1) := by decide +kernel
theorem dX12_count_100 : decode cX12_count 100 = .ok (.i2l, 1) := by decide +kernel
theorem dX12_count_101 : decode cX12_count 101 = .ok (.lconst 0, 1) := by decide +kernel
theorem dX12_count_102 : decode cX12_count 102 = .ok (.ldc2_w 102, 3) := by decide +kernel
theorem dX12_count_105 : decode cX12_count 105 = .ok (.invokestatic 82, 3) := by decide +kernel
theorem dX12_count_108 : decode cX12_count 108 = .ok (.ifCond .eq 12, 3) := by decide +kernel
theorem dX12_count_111 : decode cX12_count 111 = .ok (.aload_n 0, 1) := by decide +kernel
theorem dX12_count_112 : decode cX12_count 112 = .ok (.getfield 13, 3) := by decide +kernel
theorem dX12_count_115 : decode cX12_count 115 = .ok (.iload_n 1, 1) := by decide +kernel
theorem dX12_count_116 : decode cX12_count 116 = .ok (.iaload, 1) := by decide +kernel
theorem dX12_count_117 : decode cX12_count 117 = .ok (.goto 4, 3) := by decide +kernel
theorem dX12_count_120 : decode cX12_count 120 = .ok (.iconst (-1), 1) := by decide +kernel
theorem dX12_count_121 : decode cX12_count 121 = .ok (.ireturn, 1) := by decide +kernel
theorem dX12_status_0 : decode cX12_status 0 = .ok (.aload_n 0, 1) := by decide +kernel
theorem dX12_status_1 : decode cX12_status 1 = .ok (.iconst 0, 1) := by decide +kernel
theorem dX12_status_2 : decode cX12_status 2 = .ok (.putfield 76, 3) := by decide +kernel
theorem dX12_status_5 : decode cX12_status 5 = .ok (.aload_n 0, 1) := by decide +kernel
theorem dX12_status_6 : decode cX12_status 6 = .ok (.getfield 79, 3) := by decide +kernel
theorem dX12_status_9 : decode cX12_status 9 = .ok (.ireturn, 1) := by decide +kernel
theorem dJ0_length_8abf5_0 : decode cJ0_length_8abf5 0 = .ok (.aload_n 0, 1) := by decide +kernel
theorem dJ0_length_8abf5_1 : decode cJ0_length_8abf5 1 = .ok (.getfield 9, 3) := by decide +kernel
theorem dJ0_length_8abf5_4 : decode cJ0_length_8abf5 4 = .ok (.arraylength, 1) := by decide +kernel
theorem dJ0_length_8abf5_5 : decode cJ0_length_8abf5 5 = .ok (.aload_n 0, 1) := by decide +kernel
theorem dJ0_length_8abf5_6 : decode cJ0_length_8abf5 6 = .ok (.invokevirtual 335, 3) := by decide +kernel
theorem dJ0_length_8abf5_9 : decode cJ0_length_8abf5 9 = .ok (.ishr, 1) := by decide +kernel
theorem dJ0_length_8abf5_10 : decode cJ0_length_8abf5 10 = .ok (.ireturn, 1) := by decide +kernel
theorem dJ0_charAt_5068e_0 : decode cJ0_charAt_5068e 0 = .ok (.aload_n 0, 1) := by decide +kernel
theorem dJ0_charAt_5068e_1 : decode cJ0_charAt_5068e 1 = .ok (.invokevirtual 492, 3) := by decide +kernel
theorem dJ0_charAt_5068e_4 : decode cJ0_charAt_5068e 4 = .ok (.ifCond .eq 12, 3) := by decide +kernel
theorem dJ0_charAt_5068e_7 : decode cJ0_charAt_5068e 7 = .ok (.aload_n 0, 1) := by decide +kernel
theorem dJ0_charAt_5068e_8 : decode cJ0_charAt_5068e 8 = .ok (.getfield 9, 3) := by decide +kernel
theorem dJ0_charAt_5068e_11 : decode cJ0_charAt_5068e 11 = .ok (.iload_n 1, 1) := by decide +kernel
theorem dJ0_charAt_5068e_12 : decode cJ0_charAt_5068e 12 = .ok (.invokestatic 495, 3) := by decide +kernel
theorem dJ0_charAt_5068e_15 : decode cJ0_charAt_5068e 15 = .ok (.ireturn, 1) := by decide +kernel
theorem dJ0_charAt_5068e_16 : decode cJ0_charAt_5068e 16 = .ok (.aload_n 0, 1) := by decide +kernel
theorem dJ0_charAt_5068e_17 : decode cJ0_charAt_5068e 17 = .ok (.getfield 9, 3) := by decide +kernel
theorem dJ0_charAt_5068e_20 : decode cJ0_charAt_5068e 20 = .ok (.iload_n 1, 1) := by decide +kernel
theorem dJ0_charAt_5068e_21 : decode cJ0_charAt_5068e 21 = .ok (.invokestatic 498, 3) := by decide +kernel
theorem dJ0_charAt_5068e_24 : decode cJ0_charAt_5068e 24 = .ok (.ireturn, 1) := by decide +kernel
theorem dJ0_coder_7d493_0 : decode cJ0_coder_7d493 0 = .ok (.getstatic 38, 3) := by decide +kernel
theorem dJ0_coder_7d493_3 : decode cJ0_coder_7d493 3 = .ok (.ifCond .eq 10, 3) := by decide +kernel
theorem dJ0_coder_7d493_6 : decode cJ0_coder_7d493 6 = .ok (.aload_n 0, 1) := by decide +kernel
theorem dJ0_coder_7d493_7 : decode cJ0_coder_7d493 7 = .ok (.getfield 15, 3) := by decide +kernel
theorem dJ0_coder_7d493_10 : decode cJ0_coder_7d493 10 = .ok (.goto 4, 3) := by decide +kernel
theorem dJ0_coder_7d493_13 : decode cJ0_coder_7d493 13 = .ok (.iconst 1, 1) := by decide +kernel
theorem dJ0_coder_7d493_14 : decode cJ0_coder_7d493 14 = .ok (.ireturn, 1) := by decide +kernel
theorem dJ0_isLatin1_aae02_0 : decode cJ0_isLatin1_aae02 0 = .ok (.getstatic 38, 3) := by decide +kernel
theorem dJ0_isLatin1_aae02_3 : decode cJ0_isLatin1_aae02 3 = .ok (.ifCond .eq 14, 3) := by decide +kernel
theorem dJ0_isLatin1_aae02_6 : decode cJ0_isLatin1_aae02 6 = .ok (.aload_n 0, 1) := by decide +kernel
theorem dJ0_isLatin1_aae02_7 : decode cJ0_isLatin1_aae02 7 = .ok (.getfield 15, 3) := by decide +kernel
theorem dJ0_isLatin1_aae02_10 : decode cJ0_isLatin1_aae02 10 = .ok (.ifCond .ne 7, 3) := by decide +kernel
theorem dJ0_isLatin1_aae02_13 : decode cJ0_isLatin1_aae02 13 = .ok (.iconst 1, 1) := by decide +kernel
theorem dJ0_isLatin1_aae02_14 : decode cJ0_isLatin1_aae02 14 = .ok (.goto 4, 3) := by decide +kernel
theorem dJ0_isLatin1_aae02_17 : decode cJ0_isLatin1_aae02 17 = .ok (.iconst 0, 1) := by decide +kernel
theorem dJ0_isLatin1_aae02_18 : decode cJ0_isLatin1_aae02 18 = .ok (.ireturn, 1) := by decide +kernel
theorem dJ0_checkIndex_df160_0 : decode cJ0_checkIndex_df160 0 = .ok (.iload_n 0, 1) := by decide +kernel
theorem dJ0_checkIndex_df160_1 : decode cJ0_checkIndex_df160 1 = .ok (.iload_n 1, 1) := by decide +kernel
theorem dJ0_checkIndex_df160_2 : decode cJ0_checkIndex_df160 2 = .ok (.getstatic 1053, 3) := by decide +kernel
theorem dJ0_checkIndex_df160_5 : decode cJ0_checkIndex_df160 5 = .ok (.invokestatic 1059, 3) := by decide +kernel
theorem dJ0_checkIndex_df160_8 : decode cJ0_checkIndex_df160 8 = .ok (.pop, 1) := by decide +kernel
theorem dJ0_checkIndex_df160_9 : decode cJ0_checkIndex_df160 9 = .ok (.return_, 1) := by decide +kernel
theorem dJ1_charAt_3b067_0 : decode cJ1_charAt_3b067 0 = .ok (.iload_n 1, 1) := by decide +kernel
theorem dJ1_charAt_3b067_1 : decode cJ1_charAt_3b067 1 = .ok (.aload_n 0, 1) := by decide +kernel
theorem dJ1_charAt_3b067_2 : decode cJ1_charAt_3b067 2 = .ok (.arraylength, 1) := by decide +kernel
theorem dJ1_charAt_3b067_3 : decode cJ1_charAt_3b067 3 = .ok (.invokestatic 9, 3) := by decide +kernel
theorem dJ1_charAt_3b067_6 : decode cJ1_charAt_3b067 6 = .ok (.aload_n 0, 1) := by decide +kernel
theorem dJ1_charAt_3b067_7 : decode cJ1_charAt_3b067 7 = .ok (.iload_n 1, 1) := by decide +kernel
theorem dJ1_charAt_3b067_8 : decode cJ1_charAt_3b067 8 = .ok (.baload, 1) := by decide +kernel
theorem dJ1_charAt_3b067_9 : decode cJ1_charAt_3b067 9 = .ok (.sipush 255, 3) := by decide +kernel
theorem dJ1_charAt_3b067_12 : decode cJ1_charAt_3b067 12 = .ok (.iand, 1) := by decide +kernel
theorem dJ1_charAt_3b067_13 : decode cJ1_charAt_3b067 13 = .ok (.i2c, 1) := by decide +kernel
theorem dJ1_charAt_3b067_14 : decode cJ1_charAt_3b067 14 = .ok (.ireturn, 1) := by decide +kernel
theorem dJ2_getChar_3b067_0 : decode cJ2_getChar_3b067 0 = .ok (.getstatic 44, 3) := by decide +kernel
theorem dJ2_getChar_3b067_3 : decode cJ2_getChar_3b067 3 = .ok (.ifCond .ne 25, 3) := by decide +kernel
theorem dJ2_getChar_3b067_6 : decode cJ2_getChar_3b067 6 = .ok (.iload_n 1, 1) := by decide +kernel
theorem dJ2_getChar_3b067_7 : decode cJ2_getChar_3b067 7 = .ok (.ifCond .lt 11, 3) := by decide +kernel
theorem dJ2_getChar_3b067_10 : decode cJ2_getChar_3b067 10 = .ok (.iload_n 1, 1) := by decide +kernel
theorem dJ2_getChar_3b067_11 : decode cJ2_getChar_3b067 11 = .ok (.aload_n 0, 1) := by decide +kernel
theorem dJ2_getChar_3b067_12 : decode cJ2_getChar_3b067 12 = .ok (.invokestatic 48, 3) := by decide +kernel
theorem dJ2_getChar_3b067_15 : decode cJ2_getChar_3b067 15 = .ok (.if_icmp .lt 13, 3) := by decide +kernel
theorem dJ2_getChar_3b067_18 : decode cJ2_getChar_3b067 18 = .ok (.new 52, 3) := by decide +kernel
theorem dJ2_getChar_3b067_21 : decode cJ2_getChar_3b067 21 = .ok (.dup, 1) := by decide +kernel
theorem dJ2_getChar_3b067_22 : decode cJ2_getChar_3b067 22 = .ok (.ldc 54, 2) := by decide +kernel
theorem dJ2_getChar_3b067_24 : decode cJ2_getChar_3b067 24 = .ok (.invokespecial 56, 3) := by decide +kernel
theorem dJ2_getChar_3b067_27 : decode cJ2_getChar_3b067 27 = .ok (.athrow, 1) := by decide +kernel
theorem dJ2_getChar_3b067_28 : decode cJ2_getChar_3b067 28 = .ok (.iload_n 1, 1) := by decide +kernel
theorem dJ2_getChar_3b067_29 : decode cJ2_getChar_3b067 29 = .ok (.iconst 1, 1) := by decide +kernel
theorem dJ2_getChar_3b067_30 : decode cJ2_getChar_3b067 30 = .ok (.ishl, 1) := by decide +kernel
theorem dJ2_getChar_3b067_31 : decode cJ2_getChar_3b067 31 = .ok (.istore_n 1, 1) := by decide +kernel
theorem dJ2_getChar_3b067_32 : decode cJ2_getChar_3b067 32 = .ok (.aload_n 0, 1) := by decide +kernel
theorem dJ2_getChar_3b067_33 : decode cJ2_getChar_3b067 33 = .ok (.iload_n 1, 1) := by decide +kernel
theorem dJ2_getChar_3b067_34 : decode cJ2_getChar_3b067 34 = .ok (.iinc 1 1, 3) := by decide +kernel
theorem dJ2_getChar_3b067_37 : decode cJ2_getChar_3b067 37 = .ok (.baload, 1) := by decide +kernel
theorem dJ2_getChar_3b067_38 : decode cJ2_getChar_3b067 38 = .ok (.sipush 255, 3) := by decide +kernel
theorem dJ2_getChar_3b067_41 : decode cJ2_getChar_3b067 41 = .ok (.iand, 1) := by decide +kernel
theorem dJ2_getChar_3b067_42 : decode cJ2_getChar_3b067 42 = .ok (.getstatic 59, 3) := by decide +kernel
theorem dJ2_getChar_3b067_45 : decode cJ2_getChar_3b067 45 = .ok (.ishl, 1) := by decide +kernel
theorem dJ2_getChar_3b067_46 : decode cJ2_getChar_3b067 46 = .ok (.aload_n 0, 1) := by decide +kernel
theorem dJ2_getChar_3b067_47 : decode cJ2_getChar_3b067 47 = .ok (.iload_n 1, 1) := by decide +kernel
theorem dJ2_getChar_3b067_48 : decode cJ2_getChar_3b067 48 = .ok (.baload, 1) := by decide +kernel
theorem dJ2_getChar_3b067_49 : decode cJ2_getChar_3b067 49 = .ok (.sipush 255, 3) := by decide +kernel
theorem dJ2_getChar_3b067_52 : decode cJ2_getChar_3b067 52 = .ok (.iand, 1) := by decide +kernel
theorem dJ2_getChar_3b067_53 : decode cJ2_getChar_3b067 53 = .ok (.getstatic 63, 3) := by decide +kernel
theorem dJ2_getChar_3b067_56 : decode cJ2_getChar_3b067 56 = .ok (.ishl, 1) := by decide +kernel
theorem dJ2_getChar_3b067_57 : decode cJ2_getChar_3b067 57 = .ok (.ior, 1) := by decide +kernel
theorem dJ2_getChar_3b067_58 : decode cJ2_getChar_3b067 58 = .ok (.i2c, 1) := by decide +kernel
theorem dJ2_getChar_3b067_59 : decode cJ2_getChar_3b067 59 = .ok (.ireturn, 1) := by decide +kernel
theorem dJ2_length_9d52b_0 : decode cJ2_length_9d52b 0 = .ok (.aload_n 0, 1) := by decide +kernel
theorem dJ2_length_9d52b_1 : decode cJ2_length_9d52b 1 = .ok (.arraylength, 1) := by decide +kernel
theorem dJ2_length_9d52b_2 : decode cJ2_length_9d52b 2 = .ok (.iconst 1, 1) := by decide +kernel
theorem dJ2_length_9d52b_3 : decode cJ2_length_9d52b 3 = .ok (.ishr, 1) := by decide +kernel
theorem dJ2_length_9d52b_4 : decode cJ2_length_9d52b 4 = .ok (.ireturn, 1) := by decide +kernel
theorem dJ2_charAt_3b067_0 : decode cJ2_charAt_3b067 0 = .ok (.iload_n 1, 1) := by decide +kernel
theorem dJ2_charAt_3b067_1 : decode cJ2_charAt_3b067 1 = .ok (.aload_n 0, 1) := by decide +kernel
theorem dJ2_charAt_3b067_2 : decode cJ2_charAt_3b067 2 = .ok (.invokestatic 67, 3) := by decide +kernel
theorem dJ2_charAt_3b067_5 : decode cJ2_charAt_3b067 5 = .ok (.aload_n 0, 1) := by decide +kernel
theorem dJ2_charAt_3b067_6 : decode cJ2_charAt_3b067 6 = .ok (.iload_n 1, 1) := by decide +kernel
theorem dJ2_charAt_3b067_7 : decode cJ2_charAt_3b067 7 = .ok (.invokestatic 71, 3) := by decide +kernel
theorem dJ2_charAt_3b067_10 : decode cJ2_charAt_3b067 10 = .ok (.ireturn, 1) := by decide +kernel
theorem dJ2_checkIndex_2214a_0 : decode cJ2_checkIndex_2214a 0 = .ok (.iload_n 0, 1) := by decide +kernel
theorem dJ2_checkIndex_2214a_1 : decode cJ2_checkIndex_2214a 1 = .ok (.aload_n 1, 1) := by decide +kernel
theorem dJ2_checkIndex_2214a_2 : decode cJ2_checkIndex_2214a 2 = .ok (.invokestatic 48, 3) := by decide +kernel
theorem dJ2_checkIndex_2214a_5 : decode cJ2_checkIndex_2214a 5 = .ok (.invokestatic 414, 3) := by decide +kernel
theorem dJ2_checkIndex_2214a_8 : decode cJ2_checkIndex_2214a 8 = .ok (.return_, 1) := by decide +kernel
theorem dJ7_fill_d0a16_0 : decode cJ7_fill_d0a16 0 = .ok (.iconst 0, 1) := by decide +kernel
theorem dJ7_fill_d0a16_1 : decode cJ7_fill_d0a16 1 = .ok (.istore_n 3, 1) := by decide +kernel
theorem dJ7_fill_d0a16_2 : decode cJ7_fill_d0a16 2 = .ok (.aload_n 0, 1) := by decide +kernel
theorem dJ7_fill_d0a16_3 : decode cJ7_fill_d0a16 3 = .ok (.arraylength, 1) := by decide +kernel
theorem dJ7_fill_d0a16_4 : decode cJ7_fill_d0a16 4 = .ok (.istore 4, 2) := by decide +kernel
theorem dJ7_fill_d0a16_6 : decode cJ7_fill_d0a16 6 = .ok (.iload_n 3, 1) := by decide +kernel
theorem dJ7_fill_d0a16_7 : decode cJ7_fill_d0a16 7 = .ok (.iload 4, 2) := by decide +kernel
theorem dJ7_fill_d0a16_9 : decode cJ7_fill_d0a16 9 = .ok (.if_icmp .ge 13, 3) := by decide +kernel
theorem dJ7_fill_d0a16_12 : decode cJ7_fill_d0a16 12 = .ok (.aload_n 0, 1) := by decide +kernel
theorem dJ7_fill_d0a16_13 : decode cJ7_fill_d0a16 13 = .ok (.iload_n 3, 1) := by decide +kernel
theorem dJ7_fill_d0a16_14 : decode cJ7_fill_d0a16 14 = .ok (.lload_n 1, 1) := by decide +kernel
theorem dJ7_fill_d0a16_15 : decode cJ7_fill_d0a16 15 = .ok (.lastore, 1) := by decide +kernel
theorem dJ7_fill_d0a16_16 : decode cJ7_fill_d0a16 16 = .ok (.iinc 3 1, 3) := by decide +kernel
theorem dJ7_fill_d0a16_19 : decode cJ7_fill_d0a16 19 = .ok (.goto (-13), 3) := by decide +kernel
theorem dJ7_fill_d0a16_22 : decode cJ7_fill_d0a16 22 = .ok (.return_, 1) := by decide +kernel
theorem dJ7_fill_53178_0 : decode cJ7_fill_53178 0 = .ok (.iconst 0, 1) := by decide +kernel
theorem dJ7_fill_53178_1 : decode cJ7_fill_53178 1 = .ok (.istore_n 2, 1) := by decide +kernel
theorem dJ7_fill_53178_2 : decode cJ7_fill_53178 2 = .ok (.aload_n 0, 1) := by decide +kernel
theorem dJ7_fill_53178_3 : decode cJ7_fill_53178 3 = .ok (.arraylength, 1) := by decide +kernel
theorem dJ7_fill_53178_4 : decode cJ7_fill_53178 4 = .ok (.istore_n 3, 1) := by decide +kernel
theorem dJ7_fill_53178_5 : decode cJ7_fill_53178 5 = .ok (.iload_n 2, 1) := by decide +kernel
theorem dJ7_fill_53178_6 : decode cJ7_fill_53178 6 = .ok (.iload_n 3, 1) := by decide +kernel
theorem dJ7_fill_53178_7 : decode cJ7_fill_53178 7 = .ok (.if_icmp .ge 13, 3) := by decide +kernel
theorem dJ7_fill_53178_10 : decode cJ7_fill_53178 10 = .ok (.aload_n 0, 1) := by decide +kernel
theorem dJ7_fill_53178_11 : decode cJ7_fill_53178 11 = .ok (.iload_n 2, 1) := by decide +kernel
theorem dJ7_fill_53178_12 : decode cJ7_fill_53178 12 = .ok (.iload_n 1, 1) := by decide +kernel
theorem dJ7_fill_53178_13 : decode cJ7_fill_53178 13 = .ok (.iastore, 1) := by decide +kernel
theorem dJ7_fill_53178_14 : decode cJ7_fill_53178 14 = .ok (.iinc 2 1, 3) := by decide +kernel
theorem dJ7_fill_53178_17 : decode cJ7_fill_53178 17 = .ok (.goto (-12), 3) := by decide +kernel
theorem dJ7_fill_53178_20 : decode cJ7_fill_53178 20 = .ok (.return_, 1) := by decide +kernel
theorem dJ3_checkIndex_8e157_0 : decode cJ3_checkIndex_8e157 0 = .ok (.iload_n 0, 1) := by decide +kernel
theorem dJ3_checkIndex_8e157_1 : decode cJ3_checkIndex_8e157 1 = .ok (.ifCond .lt 8, 3) := by decide +kernel
theorem dJ3_checkIndex_8e157_4 : decode cJ3_checkIndex_8e157 4 = .ok (.iload_n 0, 1) := by decide +kernel
theorem dJ3_checkIndex_8e157_5 : decode cJ3_checkIndex_8e157 5 = .ok (.iload_n 1, 1) := by decide +kernel
theorem dJ3_checkIndex_8e157_6 : decode cJ3_checkIndex_8e157 6 = .ok (.if_icmp .lt 10, 3) := by decide +kernel
theorem dJ3_checkIndex_8e157_9 : decode cJ3_checkIndex_8e157 9 = .ok (.aload_n 2, 1) := by decide +kernel
theorem dJ3_checkIndex_8e157_10 : decode cJ3_checkIndex_8e157 10 = .ok (.iload_n 0, 1) := by decide +kernel
theorem dJ3_checkIndex_8e157_11 : decode cJ3_checkIndex_8e157 11 = .ok (.iload_n 1, 1) := by decide +kernel
theorem dJ3_checkIndex_8e157_12 : decode cJ3_checkIndex_8e157 12 = .ok (.invokestatic 95, 3) := by decide +kernel
theorem dJ3_checkIndex_8e157_15 : decode cJ3_checkIndex_8e157 15 = .ok (.athrow, 1) := by decide +kernel
theorem dJ3_checkIndex_8e157_16 : decode cJ3_checkIndex_8e157 16 = .ok (.iload_n 0, 1) := by decide +kernel
theorem dJ3_checkIndex_8e157_17 : decode cJ3_checkIndex_8e157 17 = .ok (.ireturn, 1) := by decide +kernel
theorem dL_law_0 : decode cL_law 0 = .ok (.new 7, 3) := by decide +kernel
theorem dL_law_3 : decode cL_law 3 = .ok (.dup, 1) := by decide +kernel
theorem dL_law_4 : decode cL_law 4 = .ok (.invokespecial 9, 3) := by decide +kernel
theorem dL_law_7 : decode cL_law 7 = .ok (.astore_n 1, 1) := by decide +kernel
theorem dL_law_8 : decode cL_law 8 = .ok (.new 10, 3) := by decide +kernel
theorem dL_law_11 : decode cL_law 11 = .ok (.dup, 1) := by decide +kernel
theorem dL_law_12 : decode cL_law 12 = .ok (.invokespecial 12, 3) := by decide +kernel
theorem dL_law_15 : decode cL_law 15 = .ok (.astore_n 2, 1) := by decide +kernel
theorem dL_law_16 : decode cL_law 16 = .ok (.iconst 0, 1) := by decide +kernel
theorem dL_law_17 : decode cL_law 17 = .ok (.istore_n 3, 1) := by decide +kernel
theorem dL_law_18 : decode cL_law 18 = .ok (.iload_n 3, 1) := by decide +kernel
theorem dL_law_19 : decode cL_law 19 = .ok (.aload_n 0, 1) := by decide +kernel
theorem dL_law_20 : decode cL_law 20 = .ok (.arraylength, 1) := by decide +kernel
theorem dL_law_21 : decode cL_law 21 = .ok (.bipush 8, 2) := by decide +kernel
theorem dL_law_23 : decode cL_law 23 = .ok (.isub, 1) := by decide +kernel
theorem dL_law_24 : decode cL_law 24 = .ok (.if_icmp .gt 1507, 3) := by decide +kernel
theorem dL_law_27 : decode cL_law 27 = .ok (.aload_n 0, 1) := by decide +kernel
theorem dL_law_28 : decode cL_law 28 = .ok (.iload_n 3, 1) := by decide +kernel
theorem dL_law_29 : decode cL_law 29 = .ok (.iaload, 1) := by decide +kernel
theorem dL_law_30 : decode cL_law 30 = .ok (.bipush 63, 2) := by decide +kernel
theorem dL_law_32 : decode cL_law 32 = .ok (.iand, 1) := by decide +kernel
theorem dL_law_33 : decode cL_law 33 = .ok (.tableswitch 1492 0 38 #[171, 214, 267, 320, 353, 376, 419, 506, 569, 592, 605, 618, 631, 644, 677, 700, 743, 776, 809, 832, 875, 928, 951, 984, 1017, 1040, 1093, 1116, 1139, 1182, 1225, 1248, 1291, 1334, 1377, 1410, 1433, 1456, 1479], 171) := by decide +kernel
theorem dL_law_204 : decode cL_law 204 = .ok (.aload_n 1, 1) := by decide +kernel
theorem dL_law_205 : decode cL_law 205 = .ok (.aload_n 0, 1) := by decide +kernel
theorem dL_law_206 : decode cL_law 206 = .ok (.iload_n 3, 1) := by decide +kernel
theorem dL_law_207 : decode cL_law 207 = .ok (.iconst 1, 1) := by decide +kernel
theorem dL_law_208 : decode cL_law 208 = .ok (.iadd, 1) := by decide +kernel
theorem dL_law_209 : decode cL_law 209 = .ok (.iaload, 1) := by decide +kernel
theorem dL_law_210 : decode cL_law 210 = .ok (.aload_n 0, 1) := by decide +kernel
theorem dL_law_211 : decode cL_law 211 = .ok (.iload_n 3, 1) := by decide +kernel
theorem dL_law_212 : decode cL_law 212 = .ok (.iconst 2, 1) := by decide +kernel
theorem dL_law_213 : decode cL_law 213 = .ok (.iadd, 1) := by decide +kernel
theorem dL_law_214 : decode cL_law 214 = .ok (.iaload, 1) := by decide +kernel
theorem dL_law_215 : decode cL_law 215 = .ok (.aload_n 0, 1) := by decide +kernel
theorem dL_law_216 : decode cL_law 216 = .ok (.iload_n 3, 1) := by decide +kernel
theorem dL_law_217 : decode cL_law 217 = .ok (.iconst 3, 1) := by decide +kernel
theorem dL_law_218 : decode cL_law 218 = .ok (.iadd, 1) := by decide +kernel
theorem dL_law_219 : decode cL_law 219 = .ok (.iaload, 1) := by decide +kernel
theorem dL_law_220 : decode cL_law 220 = .ok (.invokevirtual 13, 3) := by decide +kernel
theorem dL_law_223 : decode cL_law 223 = .ok (.aload_n 2, 1) := by decide +kernel
theorem dL_law_224 : decode cL_law 224 = .ok (.aload_n 0, 1) := by decide +kernel
theorem dL_law_225 : decode cL_law 225 = .ok (.iload_n 3, 1) := by decide +kernel
theorem dL_law_226 : decode cL_law 226 = .ok (.iconst 1, 1) := by decide +kernel
theorem dL_law_227 : decode cL_law 227 = .ok (.iadd, 1) := by decide +kernel
theorem dL_law_228 : decode cL_law 228 = .ok (.iaload, 1) := by decide +kernel
theorem dL_law_229 : decode cL_law 229 = .ok (.aload_n 0, 1) := by decide +kernel
theorem dL_law_230 : decode cL_law 230 = .ok (.iload_n 3, 1) := by decide +kernel
theorem dL_law_231 : decode cL_law 231 = .ok (.iconst 2, 1) := by decide +kernel
theorem dL_law_232 : decode cL_law 232 = .ok (.iadd, 1) := by decide +kernel
theorem dL_law_233 : decode cL_law 233 = .ok (.iaload, 1) := by decide +kernel
theorem dL_law_234 : decode cL_law 234 = .ok (.aload_n 0, 1) := by decide +kernel
theorem dL_law_235 : decode cL_law 235 = .ok (.iload_n 3, 1) := by decide +kernel
theorem dL_law_236 : decode cL_law 236 = .ok (.iconst 3, 1) := by decide +kernel
theorem dL_law_237 : decode cL_law 237 = .ok (.iadd, 1) := by decide +kernel
theorem dL_law_238 : decode cL_law 238 = .ok (.iaload, 1) := by decide +kernel
theorem dL_law_239 : decode cL_law 239 = .ok (.invokevirtual 17, 3) := by decide +kernel
theorem dL_law_242 : decode cL_law 242 = .ok (.if_icmp .eq 1283, 3) := by decide +kernel
theorem dL_law_245 : decode cL_law 245 = .ok (.iconst 0, 1) := by decide +kernel
theorem dL_law_246 : decode cL_law 246 = .ok (.ireturn, 1) := by decide +kernel
theorem dL_law_247 : decode cL_law 247 = .ok (.aload_n 1, 1) := by decide +kernel
theorem dL_law_248 : decode cL_law 248 = .ok (.aload_n 0, 1) := by decide +kernel
theorem dL_law_249 : decode cL_law 249 = .ok (.iload_n 3, 1) := by decide +kernel
theorem dL_law_250 : decode cL_law 250 = .ok (.iconst 1, 1) := by decide +kernel
theorem dL_law_251 : decode cL_law 251 = .ok (.iadd, 1) := by decide +kernel
theorem dL_law_252 : decode cL_law 252 = .ok (.iaload, 1) := by decide +kernel
theorem dL_law_253 : decode cL_law 253 = .ok (.aload_n 0, 1) := by decide +kernel
theorem dL_law_254 : decode cL_law 254 = .ok (.iload_n 3, 1) := by decide +kernel
theorem dL_law_255 : decode cL_law 255 = .ok (.iconst 2, 1) := by decide +kernel
theorem dL_law_256 : decode cL_law 256 = .ok (.iadd, 1) := by decide +kernel
theorem dL_law_257 : decode cL_law 257 = .ok (.iaload, 1) := by decide +kernel
theorem dL_law_258 : decode cL_law 258 = .ok (.aload_n 0, 1) := by decide +kernel
theorem dL_law_259 : decode cL_law 259 = .ok (.iload_n 3, 1) := by decide +kernel
theorem dL_law_260 : decode cL_law 260 = .ok (.iconst 3, 1) := by decide +kernel
theorem dL_law_261 : decode cL_law 261 = .ok (.iadd, 1) := by decide +kernel
theorem dL_law_262 : decode cL_law 262 = .ok (.iaload, 1) := by decide +kernel
theorem dL_law_263 : decode cL_law 263 = .ok (.aload_n 0, 1) := by decide +kernel
theorem dL_law_264 : decode cL_law 264 = .ok (.iload_n 3, 1) := by decide +kernel
theorem dL_law_265 : decode cL_law 265 = .ok (.iconst 4, 1) := by decide +kernel
theorem dL_law_266 : decode cL_law 266 = .ok (.iadd, 1) := by decide +kernel
theorem dL_law_267 : decode cL_law 267 = .ok (.iaload, 1) := by decide +kernel
theorem dL_law_268 : decode cL_law 268 = .ok (.invokevirtual 18, 3) := by decide +kernel
theorem dL_law_271 : decode cL_law 271 = .ok (.aload_n 2, 1) := by decide +kernel
theorem dL_law_272 : decode cL_law 272 = .ok (.aload_n 0, 1) := by decide +kernel
theorem dL_law_273 : decode cL_law 273 = .ok (.iload_n 3, 1) := by decide +kernel
theorem dL_law_274 : decode cL_law 274 = .ok (.iconst 1, 1) := by decide +kernel
theorem dL_law_275 : decode cL_law 275 = .ok (.iadd, 1) := by decide +kernel
theorem dL_law_276 : decode cL_law 276 = .ok (.iaload, 1) := by decide +kernel
theorem dL_law_277 : decode cL_law 277 = .ok (.aload_n 0, 1) := by decide +kernel
theorem dL_law_278 : decode cL_law 278 = .ok (.iload_n 3, 1) := by decide +kernel
theorem dL_law_279 : decode cL_law 279 = .ok (.iconst 2, 1) := by decide +kernel
theorem dL_law_280 : decode cL_law 280 = .ok (.iadd, 1) := by decide +kernel
theorem dL_law_281 : decode cL_law 281 = .ok (.iaload, 1) := by decide +kernel
theorem dL_law_282 : decode cL_law 282 = .ok (.aload_n 0, 1) := by decide +kernel
theorem dL_law_283 : decode cL_law 283 = .ok (.iload_n 3, 1) := by decide +kernel
theorem dL_law_284 : decode cL_law 284 = .ok (.iconst 3, 1) := by decide +kernel
theorem dL_law_285 : decode cL_law 285 = .ok (.iadd, 1) := by decide +kernel
theorem dL_law_286 : decode cL_law 286 = .ok (.iaload, 1) := by decide +kernel
theorem dL_law_287 : decode cL_law 287 = .ok (.aload_n 0, 1) := by decide +kernel
theorem dL_law_288 : decode cL_law 288 = .ok (.iload_n 3, 1) := by decide +kernel
theorem dL_law_289 : decode cL_law 289 = .ok (.iconst 4, 1) := by decide +kernel
theorem dL_law_290 : decode cL_law 290 = .ok (.iadd, 1) := by decide +kernel
theorem dL_law_291 : decode cL_law 291 = .ok (.iaload, 1) := by decide +kernel
theorem dL_law_292 : decode cL_law 292 = .ok (.invokevirtual 22, 3) := by decide +kernel
theorem dL_law_295 : decode cL_law 295 = .ok (.if_icmp .eq 1230, 3) := by decide +kernel
theorem dL_law_298 : decode cL_law 298 = .ok (.iconst 0, 1) := by decide +kernel
theorem dL_law_299 : decode cL_law 299 = .ok (.ireturn, 1) := by decide +kernel
theorem dL_law_300 : decode cL_law 300 = .ok (.aload_n 1, 1) := by decide +kernel
theorem dL_law_301 : decode cL_law 301 = .ok (.aload_n 0, 1) := by decide +kernel
theorem dL_law_302 : decode cL_law 302 = .ok (.iload_n 3, 1) := by decide +kernel
theorem dL_law_303 : decode cL_law 303 = .ok (.iconst 1, 1) := by decide +kernel
theorem dL_law_304 : decode cL_law 304 = .ok (.iadd, 1) := by decide +kernel
theorem dL_law_305 : decode cL_law 305 = .ok (.iaload, 1) := by decide +kernel
theorem dL_law_306 : decode cL_law 306 = .ok (.aload_n 0, 1) := by decide +kernel
theorem dL_law_307 : decode cL_law 307 = .ok (.iload_n 3, 1) := by decide +kernel
theorem dL_law_308 : decode cL_law 308 = .ok (.iconst 2, 1) := by decide +kernel
theorem dL_law_309 : decode cL_law 309 = .ok (.iadd, 1) := by decide +kernel
theorem dL_law_310 : decode cL_law 310 = .ok (.iaload, 1) := by decide +kernel
theorem dL_law_311 : decode cL_law 311 = .ok (.aload_n 0, 1) := by decide +kernel
theorem dL_law_312 : decode cL_law 312 = .ok (.iload_n 3, 1) := by decide +kernel
theorem dL_law_313 : decode cL_law 313 = .ok (.iconst 3, 1) := by decide +kernel
theorem dL_law_314 : decode cL_law 314 = .ok (.iadd, 1) := by decide +kernel
theorem dL_law_315 : decode cL_law 315 = .ok (.iaload, 1) := by decide +kernel
theorem dL_law_316 : decode cL_law 316 = .ok (.aload_n 0, 1) := by decide +kernel
theorem dL_law_317 : decode cL_law 317 = .ok (.iload_n 3, 1) := by decide +kernel
theorem dL_law_318 : decode cL_law 318 = .ok (.iconst 4, 1) := by decide +kernel
theorem dL_law_319 : decode cL_law 319 = .ok (.iadd, 1) := by decide +kernel
theorem dL_law_320 : decode cL_law 320 = .ok (.iaload, 1) := by decide +kernel
theorem dL_law_321 : decode cL_law 321 = .ok (.invokevirtual 23, 3) := by decide +kernel
theorem dL_law_324 : decode cL_law 324 = .ok (.aload_n 2, 1) := by decide +kernel
theorem dL_law_325 : decode cL_law 325 = .ok (.aload_n 0, 1) := by decide +kernel
theorem dL_law_326 : decode cL_law 326 = .ok (.iload_n 3, 1) := by decide +kernel
theorem dL_law_327 : decode cL_law 327 = .ok (.iconst 1, 1) := by decide +kernel
theorem dL_law_328 : decode cL_law 328 = .ok (.iadd, 1) := by decide +kernel
theorem dL_law_329 : decode cL_law 329 = .ok (.iaload, 1) := by decide +kernel
theorem dL_law_330 : decode cL_law 330 = .ok (.aload_n 0, 1) := by decide +kernel
theorem dL_law_331 : decode cL_law 331 = .ok (.iload_n 3, 1) := by decide +kernel
theorem dL_law_332 : decode cL_law 332 = .ok (.iconst 2, 1) := by decide +kernel
theorem dL_law_333 : decode cL_law 333 = .ok (.iadd, 1) := by decide +kernel
theorem dL_law_334 : decode cL_law 334 = .ok (.iaload, 1) := by decide +kernel
theorem dL_law_335 : decode cL_law 335 = .ok (.aload_n 0, 1) := by decide +kernel
theorem dL_law_336 : decode cL_law 336 = .ok (.iload_n 3, 1) := by decide +kernel
theorem dL_law_337 : decode cL_law 337 = .ok (.iconst 3, 1) := by decide +kernel
theorem dL_law_338 : decode cL_law 338 = .ok (.iadd, 1) := by decide +kernel
theorem dL_law_339 : decode cL_law 339 = .ok (.iaload, 1) := by decide +kernel
theorem dL_law_340 : decode cL_law 340 = .ok (.aload_n 0, 1) := by decide +kernel
theorem dL_law_341 : decode cL_law 341 = .ok (.iload_n 3, 1) := by decide +kernel
theorem dL_law_342 : decode cL_law 342 = .ok (.iconst 4, 1) := by decide +kernel
theorem dL_law_343 : decode cL_law 343 = .ok (.iadd, 1) := by decide +kernel
theorem dL_law_344 : decode cL_law 344 = .ok (.iaload, 1) := by decide +kernel
theorem dL_law_345 : decode cL_law 345 = .ok (.invokevirtual 26, 3) := by decide +kernel
theorem dL_law_348 : decode cL_law 348 = .ok (.if_icmp .eq 1177, 3) := by decide +kernel
theorem dL_law_351 : decode cL_law 351 = .ok (.iconst 0, 1) := by decide +kernel
theorem dL_law_352 : decode cL_law 352 = .ok (.ireturn, 1) := by decide +kernel
theorem dL_law_353 : decode cL_law 353 = .ok (.aload_n 1, 1) := by decide +kernel
theorem dL_law_354 : decode cL_law 354 = .ok (.aload_n 0, 1) := by decide +kernel
theorem dL_law_355 : decode cL_law 355 = .ok (.iload_n 3, 1) := by decide +kernel
theorem dL_law_356 : decode cL_law 356 = .ok (.iconst 1, 1) := by decide +kernel
theorem dL_law_357 : decode cL_law 357 = .ok (.iadd, 1) := by decide +kernel
theorem dL_law_358 : decode cL_law 358 = .ok (.iaload, 1) := by decide +kernel
theorem dL_law_359 : decode cL_law 359 = .ok (.aload_n 0, 1) := by decide +kernel
theorem dL_law_360 : decode cL_law 360 = .ok (.iload_n 3, 1) := by decide +kernel
theorem dL_law_361 : decode cL_law 361 = .ok (.iconst 2, 1) := by decide +kernel
theorem dL_law_362 : decode cL_law 362 = .ok (.iadd, 1) := by decide +kernel
theorem dL_law_363 : decode cL_law 363 = .ok (.iaload, 1) := by decide +kernel
theorem dL_law_364 : decode cL_law 364 = .ok (.invokevirtual 27, 3) := by decide +kernel
theorem dL_law_367 : decode cL_law 367 = .ok (.aload_n 2, 1) := by decide +kernel
theorem dL_law_368 : decode cL_law 368 = .ok (.aload_n 0, 1) := by decide +kernel
theorem dL_law_369 : decode cL_law 369 = .ok (.iload_n 3, 1) := by decide +kernel
theorem dL_law_370 : decode cL_law 370 = .ok (.iconst 1, 1) := by decide +kernel
theorem dL_law_371 : decode cL_law 371 = .ok (.iadd, 1) := by decide +kernel
theorem dL_law_372 : decode cL_law 372 = .ok (.iaload, 1) := by decide +kernel
theorem dL_law_373 : decode cL_law 373 = .ok (.aload_n 0, 1) := by decide +kernel
theorem dL_law_374 : decode cL_law 374 = .ok (.iload_n 3, 1) := by decide +kernel
theorem dL_law_375 : decode cL_law 375 = .ok (.iconst 2, 1) := by decide +kernel
theorem dL_law_376 : decode cL_law 376 = .ok (.iadd, 1) := by decide +kernel
theorem dL_law_377 : decode cL_law 377 = .ok (.iaload, 1) := by decide +kernel
theorem dL_law_378 : decode cL_law 378 = .ok (.invokevirtual 31, 3) := by decide +kernel
theorem dL_law_381 : decode cL_law 381 = .ok (.if_icmp .eq 1144, 3) := by decide +kernel
theorem dL_law_384 : decode cL_law 384 = .ok (.iconst 0, 1) := by decide +kernel
theorem dL_law_385 : decode cL_law 385 = .ok (.ireturn, 1) := by decide +kernel
theorem dL_law_386 : decode cL_law 386 = .ok (.aload_n 1, 1) := by decide +kernel
theorem dL_law_387 : decode cL_law 387 = .ok (.aload_n 0, 1) := by decide +kernel
theorem dL_law_388 : decode cL_law 388 = .ok (.iload_n 3, 1) := by decide +kernel
theorem dL_law_389 : decode cL_law 389 = .ok (.iconst 1, 1) := by decide +kernel
theorem dL_law_390 : decode cL_law 390 = .ok (.iadd, 1) := by decide +kernel
theorem dL_law_391 : decode cL_law 391 = .ok (.iaload, 1) := by decide +kernel
theorem dL_law_392 : decode cL_law 392 = .ok (.invokevirtual 32, 3) := by decide +kernel
theorem dL_law_395 : decode cL_law 395 = .ok (.aload_n 2, 1) := by decide +kernel
theorem dL_law_396 : decode cL_law 396 = .ok (.aload_n 0, 1) := by decide +kernel
theorem dL_law_397 : decode cL_law 397 = .ok (.iload_n 3, 1) := by decide +kernel
theorem dL_law_398 : decode cL_law 398 = .ok (.iconst 1, 1) := by decide +kernel
theorem dL_law_399 : decode cL_law 399 = .ok (.iadd, 1) := by decide +kernel
theorem dL_law_400 : decode cL_law 400 = .ok (.iaload, 1) := by decide +kernel
theorem dL_law_401 : decode cL_law 401 = .ok (.invokevirtual 36, 3) := by decide +kernel
theorem dL_law_404 : decode cL_law 404 = .ok (.if_icmp .eq 1121, 3) := by decide +kernel
theorem dL_law_407 : decode cL_law 407 = .ok (.iconst 0, 1) := by decide +kernel
theorem dL_law_408 : decode cL_law 408 = .ok (.ireturn, 1) := by decide +kernel
theorem dL_law_409 : decode cL_law 409 = .ok (.aload_n 1, 1) := by decide +kernel
theorem dL_law_410 : decode cL_law 410 = .ok (.aload_n 0, 1) := by decide +kernel
theorem dL_law_411 : decode cL_law 411 = .ok (.iload_n 3, 1) := by decide +kernel
theorem dL_law_412 : decode cL_law 412 = .ok (.iconst 1, 1) := by decide +kernel
theorem dL_law_413 : decode cL_law 413 = .ok (.iadd, 1) := by decide +kernel
theorem dL_law_414 : decode cL_law 414 = .ok (.iaload, 1) := by decide +kernel
theorem dL_law_415 : decode cL_law 415 = .ok (.aload_n 0, 1) := by decide +kernel
theorem dL_law_416 : decode cL_law 416 = .ok (.iload_n 3, 1) := by decide +kernel
theorem dL_law_417 : decode cL_law 417 = .ok (.iconst 2, 1) := by decide +kernel
theorem dL_law_418 : decode cL_law 418 = .ok (.iadd, 1) := by decide +kernel
theorem dL_law_419 : decode cL_law 419 = .ok (.iaload, 1) := by decide +kernel
theorem dL_law_420 : decode cL_law 420 = .ok (.aload_n 0, 1) := by decide +kernel
theorem dL_law_421 : decode cL_law 421 = .ok (.iload_n 3, 1) := by decide +kernel
theorem dL_law_422 : decode cL_law 422 = .ok (.iconst 3, 1) := by decide +kernel
theorem dL_law_423 : decode cL_law 423 = .ok (.iadd, 1) := by decide +kernel
theorem dL_law_424 : decode cL_law 424 = .ok (.iaload, 1) := by decide +kernel
theorem dL_law_425 : decode cL_law 425 = .ok (.invokevirtual 37, 3) := by decide +kernel
theorem dL_law_428 : decode cL_law 428 = .ok (.aload_n 2, 1) := by decide +kernel
theorem dL_law_429 : decode cL_law 429 = .ok (.aload_n 0, 1) := by decide +kernel
theorem dL_law_430 : decode cL_law 430 = .ok (.iload_n 3, 1) := by decide +kernel
theorem dL_law_431 : decode cL_law 431 = .ok (.iconst 1, 1) := by decide +kernel
theorem dL_law_432 : decode cL_law 432 = .ok (.iadd, 1) := by decide +kernel
theorem dL_law_433 : decode cL_law 433 = .ok (.iaload, 1) := by decide +kernel
theorem dL_law_434 : decode cL_law 434 = .ok (.aload_n 0, 1) := by decide +kernel
theorem dL_law_435 : decode cL_law 435 = .ok (.iload_n 3, 1) := by decide +kernel
theorem dL_law_436 : decode cL_law 436 = .ok (.iconst 2, 1) := by decide +kernel
theorem dL_law_437 : decode cL_law 437 = .ok (.iadd, 1) := by decide +kernel
theorem dL_law_438 : decode cL_law 438 = .ok (.iaload, 1) := by decide +kernel
theorem dL_law_439 : decode cL_law 439 = .ok (.aload_n 0, 1) := by decide +kernel
theorem dL_law_440 : decode cL_law 440 = .ok (.iload_n 3, 1) := by decide +kernel
theorem dL_law_441 : decode cL_law 441 = .ok (.iconst 3, 1) := by decide +kernel
theorem dL_law_442 : decode cL_law 442 = .ok (.iadd, 1) := by decide +kernel
theorem dL_law_443 : decode cL_law 443 = .ok (.iaload, 1) := by decide +kernel
theorem dL_law_444 : decode cL_law 444 = .ok (.invokevirtual 40, 3) := by decide +kernel
theorem dL_law_447 : decode cL_law 447 = .ok (.if_icmp .eq 1078, 3) := by decide +kernel
theorem dL_law_450 : decode cL_law 450 = .ok (.iconst 0, 1) := by decide +kernel
theorem dL_law_451 : decode cL_law 451 = .ok (.ireturn, 1) := by decide +kernel
theorem dL_law_452 : decode cL_law 452 = .ok (.aload_n 1, 1) := by decide +kernel
theorem dL_law_453 : decode cL_law 453 = .ok (.aload_n 0, 1) := by decide +kernel
theorem dL_law_454 : decode cL_law 454 = .ok (.iload_n 3, 1) := by decide +kernel
theorem dL_law_455 : decode cL_law 455 = .ok (.iconst 1, 1) := by decide +kernel
theorem dL_law_456 : decode cL_law 456 = .ok (.iadd, 1) := by decide +kernel
theorem dL_law_457 : decode cL_law 457 = .ok (.iaload, 1) := by decide +kernel
theorem dL_law_458 : decode cL_law 458 = .ok (.aload_n 0, 1) := by decide +kernel
theorem dL_law_459 : decode cL_law 459 = .ok (.iload_n 3, 1) := by decide +kernel
theorem dL_law_460 : decode cL_law 460 = .ok (.iconst 2, 1) := by decide +kernel
theorem dL_law_461 : decode cL_law 461 = .ok (.iadd, 1) := by decide +kernel
theorem dL_law_462 : decode cL_law 462 = .ok (.iaload, 1) := by decide +kernel
theorem dL_law_463 : decode cL_law 463 = .ok (.aload_n 0, 1) := by decide +kernel
theorem dL_law_464 : decode cL_law 464 = .ok (.iload_n 3, 1) := by decide +kernel
theorem dL_law_465 : decode cL_law 465 = .ok (.iconst 3, 1) := by decide +kernel
theorem dL_law_466 : decode cL_law 466 = .ok (.iadd, 1) := by decide +kernel
theorem dL_law_467 : decode cL_law 467 = .ok (.iaload, 1) := by decide +kernel
theorem dL_law_468 : decode cL_law 468 = .ok (.aload_n 0, 1) := by decide +kernel
theorem dL_law_469 : decode cL_law 469 = .ok (.iload_n 3, 1) := by decide +kernel
theorem dL_law_470 : decode cL_law 470 = .ok (.iconst 4, 1) := by decide +kernel
theorem dL_law_471 : decode cL_law 471 = .ok (.iadd, 1) := by decide +kernel
theorem dL_law_472 : decode cL_law 472 = .ok (.iaload, 1) := by decide +kernel
theorem dL_law_473 : decode cL_law 473 = .ok (.aload_n 0, 1) := by decide +kernel
theorem dL_law_474 : decode cL_law 474 = .ok (.iload_n 3, 1) := by decide +kernel
theorem dL_law_475 : decode cL_law 475 = .ok (.iconst 5, 1) := by decide +kernel
theorem dL_law_476 : decode cL_law 476 = .ok (.iadd, 1) := by decide +kernel
theorem dL_law_477 : decode cL_law 477 = .ok (.iaload, 1) := by decide +kernel
theorem dL_law_478 : decode cL_law 478 = .ok (.aload_n 0, 1) := by decide +kernel
theorem dL_law_479 : decode cL_law 479 = .ok (.iload_n 3, 1) := by decide +kernel
theorem dL_law_480 : decode cL_law 480 = .ok (.bipush 6, 2) := by decide +kernel
theorem dL_law_482 : decode cL_law 482 = .ok (.iadd, 1) := by decide +kernel
theorem dL_law_483 : decode cL_law 483 = .ok (.iaload, 1) := by decide +kernel
theorem dL_law_484 : decode cL_law 484 = .ok (.aload_n 0, 1) := by decide +kernel
theorem dL_law_485 : decode cL_law 485 = .ok (.iload_n 3, 1) := by decide +kernel
theorem dL_law_486 : decode cL_law 486 = .ok (.bipush 7, 2) := by decide +kernel
theorem dL_law_488 : decode cL_law 488 = .ok (.iadd, 1) := by decide +kernel
theorem dL_law_489 : decode cL_law 489 = .ok (.iaload, 1) := by decide +kernel
theorem dL_law_490 : decode cL_law 490 = .ok (.invokevirtual 41, 3) := by decide +kernel
theorem dL_law_493 : decode cL_law 493 = .ok (.aload_n 2, 1) := by decide +kernel
theorem dL_law_494 : decode cL_law 494 = .ok (.aload_n 0, 1) := by decide +kernel
theorem dL_law_495 : decode cL_law 495 = .ok (.iload_n 3, 1) := by decide +kernel
theorem dL_law_496 : decode cL_law 496 = .ok (.iconst 1, 1) := by decide +kernel
theorem dL_law_497 : decode cL_law 497 = .ok (.iadd, 1) := by decide +kernel
theorem dL_law_498 : decode cL_law 498 = .ok (.iaload, 1) := by decide +kernel
theorem dL_law_499 : decode cL_law 499 = .ok (.aload_n 0, 1) := by decide +kernel
theorem dL_law_500 : decode cL_law 500 = .ok (.iload_n 3, 1) := by decide +kernel
theorem dL_law_501 : decode cL_law 501 = .ok (.iconst 2, 1) := by decide +kernel
theorem dL_law_502 : decode cL_law 502 = .ok (.iadd, 1) := by decide +kernel
theorem dL_law_503 : decode cL_law 503 = .ok (.iaload, 1) := by decide +kernel
theorem dL_law_504 : decode cL_law 504 = .ok (.aload_n 0, 1) := by decide +kernel
theorem dL_law_505 : decode cL_law 505 = .ok (.iload_n 3, 1) := by decide +kernel
theorem dL_law_506 : decode cL_law 506 = .ok (.iconst 3, 1) := by decide +kernel
theorem dL_law_507 : decode cL_law 507 = .ok (.iadd, 1) := by decide +kernel
theorem dL_law_508 : decode cL_law 508 = .ok (.iaload, 1) := by decide +kernel
theorem dL_law_509 : decode cL_law 509 = .ok (.aload_n 0, 1) := by decide +kernel
theorem dL_law_510 : decode cL_law 510 = .ok (.iload_n 3, 1) := by decide +kernel
theorem dL_law_511 : decode cL_law 511 = .ok (.iconst 4, 1) := by decide +kernel
theorem dL_law_512 : decode cL_law 512 = .ok (.iadd, 1) := by decide +kernel
theorem dL_law_513 : decode cL_law 513 = .ok (.iaload, 1) := by decide +kernel
theorem dL_law_514 : decode cL_law 514 = .ok (.aload_n 0, 1) := by decide +kernel
theorem dL_law_515 : decode cL_law 515 = .ok (.iload_n 3, 1) := by decide +kernel
theorem dL_law_516 : decode cL_law 516 = .ok (.iconst 5, 1) := by decide +kernel
theorem dL_law_517 : decode cL_law 517 = .ok (.iadd, 1) := by decide +kernel
theorem dL_law_518 : decode cL_law 518 = .ok (.iaload, 1) := by decide +kernel
theorem dL_law_519 : decode cL_law 519 = .ok (.aload_n 0, 1) := by decide +kernel
theorem dL_law_520 : decode cL_law 520 = .ok (.iload_n 3, 1) := by decide +kernel
theorem dL_law_521 : decode cL_law 521 = .ok (.bipush 6, 2) := by decide +kernel
theorem dL_law_523 : decode cL_law 523 = .ok (.iadd, 1) := by decide +kernel
theorem dL_law_524 : decode cL_law 524 = .ok (.iaload, 1) := by decide +kernel
theorem dL_law_525 : decode cL_law 525 = .ok (.aload_n 0, 1) := by decide +kernel
theorem dL_law_526 : decode cL_law 526 = .ok (.iload_n 3, 1) := by decide +kernel
theorem dL_law_527 : decode cL_law 527 = .ok (.bipush 7, 2) := by decide +kernel
theorem dL_law_529 : decode cL_law 529 = .ok (.iadd, 1) := by decide +kernel
theorem dL_law_530 : decode cL_law 530 = .ok (.iaload, 1) := by decide +kernel
theorem dL_law_531 : decode cL_law 531 = .ok (.invokevirtual 45, 3) := by decide +kernel
theorem dL_law_534 : decode cL_law 534 = .ok (.if_icmp .eq 991, 3) := by decide +kernel
theorem dL_law_537 : decode cL_law 537 = .ok (.iconst 0, 1) := by decide +kernel
theorem dL_law_538 : decode cL_law 538 = .ok (.ireturn, 1) := by decide +kernel
theorem dL_law_539 : decode cL_law 539 = .ok (.aload_n 1, 1) := by decide +kernel
theorem dL_law_540 : decode cL_law 540 = .ok (.aload_n 0, 1) := by decide +kernel
theorem dL_law_541 : decode cL_law 541 = .ok (.iload_n 3, 1) := by decide +kernel
theorem dL_law_542 : decode cL_law 542 = .ok (.iconst 1, 1) := by decide +kernel
theorem dL_law_543 : decode cL_law 543 = .ok (.iadd, 1) := by decide +kernel
theorem dL_law_544 : decode cL_law 544 = .ok (.iaload, 1) := by decide +kernel
theorem dL_law_545 : decode cL_law 545 = .ok (.aload_n 0, 1) := by decide +kernel
theorem dL_law_546 : decode cL_law 546 = .ok (.iload_n 3, 1) := by decide +kernel
theorem dL_law_547 : decode cL_law 547 = .ok (.iconst 2, 1) := by decide +kernel
theorem dL_law_548 : decode cL_law 548 = .ok (.iadd, 1) := by decide +kernel
theorem dL_law_549 : decode cL_law 549 = .ok (.iaload, 1) := by decide +kernel
theorem dL_law_550 : decode cL_law 550 = .ok (.aload_n 0, 1) := by decide +kernel
theorem dL_law_551 : decode cL_law 551 = .ok (.iload_n 3, 1) := by decide +kernel
theorem dL_law_552 : decode cL_law 552 = .ok (.iconst 3, 1) := by decide +kernel
theorem dL_law_553 : decode cL_law 553 = .ok (.iadd, 1) := by decide +kernel
theorem dL_law_554 : decode cL_law 554 = .ok (.iaload, 1) := by decide +kernel
theorem dL_law_555 : decode cL_law 555 = .ok (.aload_n 0, 1) := by decide +kernel
theorem dL_law_556 : decode cL_law 556 = .ok (.iload_n 3, 1) := by decide +kernel
theorem dL_law_557 : decode cL_law 557 = .ok (.iconst 4, 1) := by decide +kernel
theorem dL_law_558 : decode cL_law 558 = .ok (.iadd, 1) := by decide +kernel
theorem dL_law_559 : decode cL_law 559 = .ok (.iaload, 1) := by decide +kernel
theorem dL_law_560 : decode cL_law 560 = .ok (.aload_n 0, 1) := by decide +kernel
theorem dL_law_561 : decode cL_law 561 = .ok (.iload_n 3, 1) := by decide +kernel
theorem dL_law_562 : decode cL_law 562 = .ok (.iconst 5, 1) := by decide +kernel
theorem dL_law_563 : decode cL_law 563 = .ok (.iadd, 1) := by decide +kernel
theorem dL_law_564 : decode cL_law 564 = .ok (.iaload, 1) := by decide +kernel
theorem dL_law_565 : decode cL_law 565 = .ok (.invokevirtual 46, 3) := by decide +kernel
theorem dL_law_568 : decode cL_law 568 = .ok (.aload_n 2, 1) := by decide +kernel
theorem dL_law_569 : decode cL_law 569 = .ok (.aload_n 0, 1) := by decide +kernel
theorem dL_law_570 : decode cL_law 570 = .ok (.iload_n 3, 1) := by decide +kernel
theorem dL_law_571 : decode cL_law 571 = .ok (.iconst 1, 1) := by decide +kernel
theorem dL_law_572 : decode cL_law 572 = .ok (.iadd, 1) := by decide +kernel
theorem dL_law_573 : decode cL_law 573 = .ok (.iaload, 1) := by decide +kernel
theorem dL_law_574 : decode cL_law 574 = .ok (.aload_n 0, 1) := by decide +kernel
theorem dL_law_575 : decode cL_law 575 = .ok (.iload_n 3, 1) := by decide +kernel
theorem dL_law_576 : decode cL_law 576 = .ok (.iconst 2, 1) := by decide +kernel
theorem dL_law_577 : decode cL_law 577 = .ok (.iadd, 1) := by decide +kernel
theorem dL_law_578 : decode cL_law 578 = .ok (.iaload, 1) := by decide +kernel
theorem dL_law_579 : decode cL_law 579 = .ok (.aload_n 0, 1) := by decide +kernel
theorem dL_law_580 : decode cL_law 580 = .ok (.iload_n 3, 1) := by decide +kernel
theorem dL_law_581 : decode cL_law 581 = .ok (.iconst 3, 1) := by decide +kernel
theorem dL_law_582 : decode cL_law 582 = .ok (.iadd, 1) := by decide +kernel
theorem dL_law_583 : decode cL_law 583 = .ok (.iaload, 1) := by decide +kernel
theorem dL_law_584 : decode cL_law 584 = .ok (.aload_n 0, 1) := by decide +kernel
theorem dL_law_585 : decode cL_law 585 = .ok (.iload_n 3, 1) := by decide +kernel
theorem dL_law_586 : decode cL_law 586 = .ok (.iconst 4, 1) := by decide +kernel
theorem dL_law_587 : decode cL_law 587 = .ok (.iadd, 1) := by decide +kernel
theorem dL_law_588 : decode cL_law 588 = .ok (.iaload, 1) := by decide +kernel
theorem dL_law_589 : decode cL_law 589 = .ok (.aload_n 0, 1) := by decide +kernel
theorem dL_law_590 : decode cL_law 590 = .ok (.iload_n 3, 1) := by decide +kernel
theorem dL_law_591 : decode cL_law 591 = .ok (.iconst 5, 1) := by decide +kernel
theorem dL_law_592 : decode cL_law 592 = .ok (.iadd, 1) := by decide +kernel
theorem dL_law_593 : decode cL_law 593 = .ok (.iaload, 1) := by decide +kernel
theorem dL_law_594 : decode cL_law 594 = .ok (.invokevirtual 50, 3) := by decide +kernel
theorem dL_law_597 : decode cL_law 597 = .ok (.if_icmp .eq 928, 3) := by decide +kernel
theorem dL_law_600 : decode cL_law 600 = .ok (.iconst 0, 1) := by decide +kernel
theorem dL_law_601 : decode cL_law 601 = .ok (.ireturn, 1) := by decide +kernel
theorem dL_law_602 : decode cL_law 602 = .ok (.aload_n 1, 1) := by decide +kernel
theorem dL_law_603 : decode cL_law 603 = .ok (.aload_n 0, 1) := by decide +kernel
theorem dL_law_604 : decode cL_law 604 = .ok (.iload_n 3, 1) := by decide +kernel
theorem dL_law_605 : decode cL_law 605 = .ok (.iconst 1, 1) := by decide +kernel
theorem dL_law_606 : decode cL_law 606 = .ok (.iadd, 1) := by decide +kernel
theorem dL_law_607 : decode cL_law 607 = .ok (.iaload, 1) := by decide +kernel
theorem dL_law_608 : decode cL_law 608 = .ok (.invokevirtual 51, 3) := by decide +kernel
theorem dL_law_611 : decode cL_law 611 = .ok (.aload_n 2, 1) := by decide +kernel
theorem dL_law_612 : decode cL_law 612 = .ok (.aload_n 0, 1) := by decide +kernel
theorem dL_law_613 : decode cL_law 613 = .ok (.iload_n 3, 1) := by decide +kernel
theorem dL_law_614 : decode cL_law 614 = .ok (.iconst 1, 1) := by decide +kernel
theorem dL_law_615 : decode cL_law 615 = .ok (.iadd, 1) := by decide +kernel
theorem dL_law_616 : decode cL_law 616 = .ok (.iaload, 1) := by decide +kernel
theorem dL_law_617 : decode cL_law 617 = .ok (.invokevirtual 54, 3) := by decide +kernel
theorem dL_law_620 : decode cL_law 620 = .ok (.if_icmp .eq 905, 3) := by decide +kernel
theorem dL_law_623 : decode cL_law 623 = .ok (.iconst 0, 1) := by decide +kernel
theorem dL_law_624 : decode cL_law 624 = .ok (.ireturn, 1) := by decide +kernel
theorem dL_law_625 : decode cL_law 625 = .ok (.aload_n 1, 1) := by decide +kernel
theorem dL_law_626 : decode cL_law 626 = .ok (.invokevirtual 55, 3) := by decide +kernel
theorem dL_law_629 : decode cL_law 629 = .ok (.aload_n 2, 1) := by decide +kernel
theorem dL_law_630 : decode cL_law 630 = .ok (.invokevirtual 59, 3) := by decide +kernel
theorem dL_law_633 : decode cL_law 633 = .ok (.if_icmp .eq 892, 3) := by decide +kernel
theorem dL_law_636 : decode cL_law 636 = .ok (.iconst 0, 1) := by decide +kernel
theorem dL_law_637 : decode cL_law 637 = .ok (.ireturn, 1) := by decide +kernel
theorem dL_law_638 : decode cL_law 638 = .ok (.aload_n 1, 1) := by decide +kernel
theorem dL_law_639 : decode cL_law 639 = .ok (.invokevirtual 60, 3) := by decide +kernel
theorem dL_law_642 : decode cL_law 642 = .ok (.aload_n 2, 1) := by decide +kernel
theorem dL_law_643 : decode cL_law 643 = .ok (.invokevirtual 63, 3) := by decide +kernel
theorem dL_law_646 : decode cL_law 646 = .ok (.if_icmp .eq 879, 3) := by decide +kernel
theorem dL_law_649 : decode cL_law 649 = .ok (.iconst 0, 1) := by decide +kernel
theorem dL_law_650 : decode cL_law 650 = .ok (.ireturn, 1) := by decide +kernel
theorem dL_law_651 : decode cL_law 651 = .ok (.aload_n 1, 1) := by decide +kernel
theorem dL_law_652 : decode cL_law 652 = .ok (.invokevirtual 64, 3) := by decide +kernel
theorem dL_law_655 : decode cL_law 655 = .ok (.aload_n 2, 1) := by decide +kernel
theorem dL_law_656 : decode cL_law 656 = .ok (.invokevirtual 67, 3) := by decide +kernel
theorem dL_law_659 : decode cL_law 659 = .ok (.if_icmp .eq 866, 3) := by decide +kernel
theorem dL_law_662 : decode cL_law 662 = .ok (.iconst 0, 1) := by decide +kernel
theorem dL_law_663 : decode cL_law 663 = .ok (.ireturn, 1) := by decide +kernel
theorem dL_law_664 : decode cL_law 664 = .ok (.aload_n 1, 1) := by decide +kernel
theorem dL_law_665 : decode cL_law 665 = .ok (.invokevirtual 68, 3) := by decide +kernel
theorem dL_law_668 : decode cL_law 668 = .ok (.aload_n 2, 1) := by decide +kernel
theorem dL_law_669 : decode cL_law 669 = .ok (.invokevirtual 71, 3) := by decide +kernel
theorem dL_law_672 : decode cL_law 672 = .ok (.if_icmp .eq 853, 3) := by decide +kernel
theorem dL_law_675 : decode cL_law 675 = .ok (.iconst 0, 1) := by decide +kernel
theorem dL_law_676 : decode cL_law 676 = .ok (.ireturn, 1) := by decide +kernel
theorem dL_law_677 : decode cL_law 677 = .ok (.aload_n 1, 1) := by decide +kernel
theorem dL_law_678 : decode cL_law 678 = .ok (.aload_n 0, 1) := by decide +kernel
theorem dL_law_679 : decode cL_law 679 = .ok (.iload_n 3, 1) := by decide +kernel
theorem dL_law_680 : decode cL_law 680 = .ok (.iconst 1, 1) := by decide +kernel
theorem dL_law_681 : decode cL_law 681 = .ok (.iadd, 1) := by decide +kernel
theorem dL_law_682 : decode cL_law 682 = .ok (.iaload, 1) := by decide +kernel
theorem dL_law_683 : decode cL_law 683 = .ok (.aload_n 0, 1) := by decide +kernel
theorem dL_law_684 : decode cL_law 684 = .ok (.iload_n 3, 1) := by decide +kernel
theorem dL_law_685 : decode cL_law 685 = .ok (.iconst 2, 1) := by decide +kernel
theorem dL_law_686 : decode cL_law 686 = .ok (.iadd, 1) := by decide +kernel
theorem dL_law_687 : decode cL_law 687 = .ok (.iaload, 1) := by decide +kernel
theorem dL_law_688 : decode cL_law 688 = .ok (.invokevirtual 72, 3) := by decide +kernel
theorem dL_law_691 : decode cL_law 691 = .ok (.aload_n 2, 1) := by decide +kernel
theorem dL_law_692 : decode cL_law 692 = .ok (.aload_n 0, 1) := by decide +kernel
theorem dL_law_693 : decode cL_law 693 = .ok (.iload_n 3, 1) := by decide +kernel
theorem dL_law_694 : decode cL_law 694 = .ok (.iconst 1, 1) := by decide +kernel
theorem dL_law_695 : decode cL_law 695 = .ok (.iadd, 1) := by decide +kernel
theorem dL_law_696 : decode cL_law 696 = .ok (.iaload, 1) := by decide +kernel
theorem dL_law_697 : decode cL_law 697 = .ok (.aload_n 0, 1) := by decide +kernel
theorem dL_law_698 : decode cL_law 698 = .ok (.iload_n 3, 1) := by decide +kernel
theorem dL_law_699 : decode cL_law 699 = .ok (.iconst 2, 1) := by decide +kernel
theorem dL_law_700 : decode cL_law 700 = .ok (.iadd, 1) := by decide +kernel
theorem dL_law_701 : decode cL_law 701 = .ok (.iaload, 1) := by decide +kernel
theorem dL_law_702 : decode cL_law 702 = .ok (.invokevirtual 75, 3) := by decide +kernel
theorem dL_law_705 : decode cL_law 705 = .ok (.if_icmp .eq 820, 3) := by decide +kernel
theorem dL_law_708 : decode cL_law 708 = .ok (.iconst 0, 1) := by decide +kernel
theorem dL_law_709 : decode cL_law 709 = .ok (.ireturn, 1) := by decide +kernel
theorem dL_law_710 : decode cL_law 710 = .ok (.aload_n 1, 1) := by decide +kernel
theorem dL_law_711 : decode cL_law 711 = .ok (.aload_n 0, 1) := by decide +kernel
theorem dL_law_712 : decode cL_law 712 = .ok (.iload_n 3, 1) := by decide +kernel
theorem dL_law_713 : decode cL_law 713 = .ok (.iconst 1, 1) := by decide +kernel
theorem dL_law_714 : decode cL_law 714 = .ok (.iadd, 1) := by decide +kernel
theorem dL_law_715 : decode cL_law 715 = .ok (.iaload, 1) := by decide +kernel
theorem dL_law_716 : decode cL_law 716 = .ok (.invokevirtual 76, 3) := by decide +kernel
theorem dL_law_719 : decode cL_law 719 = .ok (.aload_n 2, 1) := by decide +kernel
theorem dL_law_720 : decode cL_law 720 = .ok (.aload_n 0, 1) := by decide +kernel
theorem dL_law_721 : decode cL_law 721 = .ok (.iload_n 3, 1) := by decide +kernel
theorem dL_law_722 : decode cL_law 722 = .ok (.iconst 1, 1) := by decide +kernel
theorem dL_law_723 : decode cL_law 723 = .ok (.iadd, 1) := by decide +kernel
theorem dL_law_724 : decode cL_law 724 = .ok (.iaload, 1) := by decide +kernel
theorem dL_law_725 : decode cL_law 725 = .ok (.invokevirtual 79, 3) := by decide +kernel
theorem dL_law_728 : decode cL_law 728 = .ok (.if_icmp .eq 797, 3) := by decide +kernel
theorem dL_law_731 : decode cL_law 731 = .ok (.iconst 0, 1) := by decide +kernel
theorem dL_law_732 : decode cL_law 732 = .ok (.ireturn, 1) := by decide +kernel
theorem dL_law_733 : decode cL_law 733 = .ok (.aload_n 1, 1) := by decide +kernel
theorem dL_law_734 : decode cL_law 734 = .ok (.aload_n 0, 1) := by decide +kernel
theorem dL_law_735 : decode cL_law 735 = .ok (.iload_n 3, 1) := by decide +kernel
theorem dL_law_736 : decode cL_law 736 = .ok (.iconst 1, 1) := by decide +kernel
theorem dL_law_737 : decode cL_law 737 = .ok (.iadd, 1) := by decide +kernel
theorem dL_law_738 : decode cL_law 738 = .ok (.iaload, 1) := by decide +kernel
theorem dL_law_739 : decode cL_law 739 = .ok (.aload_n 0, 1) := by decide +kernel
theorem dL_law_740 : decode cL_law 740 = .ok (.iload_n 3, 1) := by decide +kernel
theorem dL_law_741 : decode cL_law 741 = .ok (.iconst 2, 1) := by decide +kernel
theorem dL_law_742 : decode cL_law 742 = .ok (.iadd, 1) := by decide +kernel
theorem dL_law_743 : decode cL_law 743 = .ok (.iaload, 1) := by decide +kernel
theorem dL_law_744 : decode cL_law 744 = .ok (.aload_n 0, 1) := by decide +kernel
theorem dL_law_745 : decode cL_law 745 = .ok (.iload_n 3, 1) := by decide +kernel
theorem dL_law_746 : decode cL_law 746 = .ok (.iconst 3, 1) := by decide +kernel
theorem dL_law_747 : decode cL_law 747 = .ok (.iadd, 1) := by decide +kernel
theorem dL_law_748 : decode cL_law 748 = .ok (.iaload, 1) := by decide +kernel
theorem dL_law_749 : decode cL_law 749 = .ok (.invokevirtual 80, 3) := by decide +kernel
theorem dL_law_752 : decode cL_law 752 = .ok (.aload_n 2, 1) := by decide +kernel
theorem dL_law_753 : decode cL_law 753 = .ok (.aload_n 0, 1) := by decide +kernel
theorem dL_law_754 : decode cL_law 754 = .ok (.iload_n 3, 1) := by decide +kernel
theorem dL_law_755 : decode cL_law 755 = .ok (.iconst 1, 1) := by decide +kernel
theorem dL_law_756 : decode cL_law 756 = .ok (.iadd, 1) := by decide +kernel
theorem dL_law_757 : decode cL_law 757 = .ok (.iaload, 1) := by decide +kernel
theorem dL_law_758 : decode cL_law 758 = .ok (.aload_n 0, 1) := by decide +kernel
theorem dL_law_759 : decode cL_law 759 = .ok (.iload_n 3, 1) := by decide +kernel
theorem dL_law_760 : decode cL_law 760 = .ok (.iconst 2, 1) := by decide +kernel
theorem dL_law_761 : decode cL_law 761 = .ok (.iadd, 1) := by decide +kernel
theorem dL_law_762 : decode cL_law 762 = .ok (.iaload, 1) := by decide +kernel
theorem dL_law_763 : decode cL_law 763 = .ok (.aload_n 0, 1) := by decide +kernel
theorem dL_law_764 : decode cL_law 764 = .ok (.iload_n 3, 1) := by decide +kernel
theorem dL_law_765 : decode cL_law 765 = .ok (.iconst 3, 1) := by decide +kernel
theorem dL_law_766 : decode cL_law 766 = .ok (.iadd, 1) := by decide +kernel
theorem dL_law_767 : decode cL_law 767 = .ok (.iaload, 1) := by decide +kernel
theorem dL_law_768 : decode cL_law 768 = .ok (.invokevirtual 83, 3) := by decide +kernel
theorem dL_law_771 : decode cL_law 771 = .ok (.if_icmp .eq 754, 3) := by decide +kernel
theorem dL_law_774 : decode cL_law 774 = .ok (.iconst 0, 1) := by decide +kernel
theorem dL_law_775 : decode cL_law 775 = .ok (.ireturn, 1) := by decide +kernel
theorem dL_law_776 : decode cL_law 776 = .ok (.aload_n 1, 1) := by decide +kernel
theorem dL_law_777 : decode cL_law 777 = .ok (.aload_n 0, 1) := by decide +kernel
theorem dL_law_778 : decode cL_law 778 = .ok (.iload_n 3, 1) := by decide +kernel
theorem dL_law_779 : decode cL_law 779 = .ok (.iconst 1, 1) := by decide +kernel
theorem dL_law_780 : decode cL_law 780 = .ok (.iadd, 1) := by decide +kernel
theorem dL_law_781 : decode cL_law 781 = .ok (.iaload, 1) := by decide +kernel
theorem dL_law_782 : decode cL_law 782 = .ok (.aload_n 0, 1) := by decide +kernel
theorem dL_law_783 : decode cL_law 783 = .ok (.iload_n 3, 1) := by decide +kernel
theorem dL_law_784 : decode cL_law 784 = .ok (.iconst 2, 1) := by decide +kernel
theorem dL_law_785 : decode cL_law 785 = .ok (.iadd, 1) := by decide +kernel
theorem dL_law_786 : decode cL_law 786 = .ok (.iaload, 1) := by decide +kernel
theorem dL_law_787 : decode cL_law 787 = .ok (.invokevirtual 84, 3) := by decide +kernel
theorem dL_law_790 : decode cL_law 790 = .ok (.aload_n 2, 1) := by decide +kernel
theorem dL_law_791 : decode cL_law 791 = .ok (.aload_n 0, 1) := by decide +kernel
theorem dL_law_792 : decode cL_law 792 = .ok (.iload_n 3, 1) := by decide +kernel
theorem dL_law_793 : decode cL_law 793 = .ok (.iconst 1, 1) := by decide +kernel
theorem dL_law_794 : decode cL_law 794 = .ok (.iadd, 1) := by decide +kernel
theorem dL_law_795 : decode cL_law 795 = .ok (.iaload, 1) := by decide +kernel
theorem dL_law_796 : decode cL_law 796 = .ok (.aload_n 0, 1) := by decide +kernel
theorem dL_law_797 : decode cL_law 797 = .ok (.iload_n 3, 1) := by decide +kernel
theorem dL_law_798 : decode cL_law 798 = .ok (.iconst 2, 1) := by decide +kernel
theorem dL_law_799 : decode cL_law 799 = .ok (.iadd, 1) := by decide +kernel
theorem dL_law_800 : decode cL_law 800 = .ok (.iaload, 1) := by decide +kernel
theorem dL_law_801 : decode cL_law 801 = .ok (.invokevirtual 87, 3) := by decide +kernel
theorem dL_law_804 : decode cL_law 804 = .ok (.if_icmp .eq 721, 3) := by decide +kernel
theorem dL_law_807 : decode cL_law 807 = .ok (.iconst 0, 1) := by decide +kernel
theorem dL_law_808 : decode cL_law 808 = .ok (.ireturn, 1) := by decide +kernel
theorem dL_law_809 : decode cL_law 809 = .ok (.aload_n 1, 1) := by decide +kernel
theorem dL_law_810 : decode cL_law 810 = .ok (.aload_n 0, 1) := by decide +kernel
theorem dL_law_811 : decode cL_law 811 = .ok (.iload_n 3, 1) := by decide +kernel
theorem dL_law_812 : decode cL_law 812 = .ok (.iconst 1, 1) := by decide +kernel
theorem dL_law_813 : decode cL_law 813 = .ok (.iadd, 1) := by decide +kernel
theorem dL_law_814 : decode cL_law 814 = .ok (.iaload, 1) := by decide +kernel
theorem dL_law_815 : decode cL_law 815 = .ok (.aload_n 0, 1) := by decide +kernel
theorem dL_law_816 : decode cL_law 816 = .ok (.iload_n 3, 1) := by decide +kernel
theorem dL_law_817 : decode cL_law 817 = .ok (.iconst 2, 1) := by decide +kernel
theorem dL_law_818 : decode cL_law 818 = .ok (.iadd, 1) := by decide +kernel
theorem dL_law_819 : decode cL_law 819 = .ok (.iaload, 1) := by decide +kernel
theorem dL_law_820 : decode cL_law 820 = .ok (.invokevirtual 88, 3) := by decide +kernel
theorem dL_law_823 : decode cL_law 823 = .ok (.aload_n 2, 1) := by decide +kernel
theorem dL_law_824 : decode cL_law 824 = .ok (.aload_n 0, 1) := by decide +kernel
theorem dL_law_825 : decode cL_law 825 = .ok (.iload_n 3, 1) := by decide +kernel
theorem dL_law_826 : decode cL_law 826 = .ok (.iconst 1, 1) := by decide +kernel
theorem dL_law_827 : decode cL_law 827 = .ok (.iadd, 1) := by decide +kernel
theorem dL_law_828 : decode cL_law 828 = .ok (.iaload, 1) := by decide +kernel
theorem dL_law_829 : decode cL_law 829 = .ok (.aload_n 0, 1) := by decide +kernel
theorem dL_law_830 : decode cL_law 830 = .ok (.iload_n 3, 1) := by decide +kernel
theorem dL_law_831 : decode cL_law 831 = .ok (.iconst 2, 1) := by decide +kernel
theorem dL_law_832 : decode cL_law 832 = .ok (.iadd, 1) := by decide +kernel
theorem dL_law_833 : decode cL_law 833 = .ok (.iaload, 1) := by decide +kernel
theorem dL_law_834 : decode cL_law 834 = .ok (.invokevirtual 91, 3) := by decide +kernel
theorem dL_law_837 : decode cL_law 837 = .ok (.if_icmp .eq 688, 3) := by decide +kernel
theorem dL_law_840 : decode cL_law 840 = .ok (.iconst 0, 1) := by decide +kernel
theorem dL_law_841 : decode cL_law 841 = .ok (.ireturn, 1) := by decide +kernel
theorem dL_law_842 : decode cL_law 842 = .ok (.aload_n 1, 1) := by decide +kernel
theorem dL_law_843 : decode cL_law 843 = .ok (.aload_n 0, 1) := by decide +kernel
theorem dL_law_844 : decode cL_law 844 = .ok (.iload_n 3, 1) := by decide +kernel
theorem dL_law_845 : decode cL_law 845 = .ok (.iconst 1, 1) := by decide +kernel
theorem dL_law_846 : decode cL_law 846 = .ok (.iadd, 1) := by decide +kernel
theorem dL_law_847 : decode cL_law 847 = .ok (.iaload, 1) := by decide +kernel
theorem dL_law_848 : decode cL_law 848 = .ok (.invokevirtual 92, 3) := by decide +kernel
theorem dL_law_851 : decode cL_law 851 = .ok (.aload_n 2, 1) := by decide +kernel
theorem dL_law_852 : decode cL_law 852 = .ok (.aload_n 0, 1) := by decide +kernel
theorem dL_law_853 : decode cL_law 853 = .ok (.iload_n 3, 1) := by decide +kernel
theorem dL_law_854 : decode cL_law 854 = .ok (.iconst 1, 1) := by decide +kernel
theorem dL_law_855 : decode cL_law 855 = .ok (.iadd, 1) := by decide +kernel
theorem dL_law_856 : decode cL_law 856 = .ok (.iaload, 1) := by decide +kernel
theorem dL_law_857 : decode cL_law 857 = .ok (.invokevirtual 95, 3) := by decide +kernel
theorem dL_law_860 : decode cL_law 860 = .ok (.if_icmp .eq 665, 3) := by decide +kernel
theorem dL_law_863 : decode cL_law 863 = .ok (.iconst 0, 1) := by decide +kernel
theorem dL_law_864 : decode cL_law 864 = .ok (.ireturn, 1) := by decide +kernel
theorem dL_law_865 : decode cL_law 865 = .ok (.aload_n 1, 1) := by decide +kernel
theorem dL_law_866 : decode cL_law 866 = .ok (.aload_n 0, 1) := by decide +kernel
theorem dL_law_867 : decode cL_law 867 = .ok (.iload_n 3, 1) := by decide +kernel
theorem dL_law_868 : decode cL_law 868 = .ok (.iconst 1, 1) := by decide +kernel
theorem dL_law_869 : decode cL_law 869 = .ok (.iadd, 1) := by decide +kernel
theorem dL_law_870 : decode cL_law 870 = .ok (.iaload, 1) := by decide +kernel
theorem dL_law_871 : decode cL_law 871 = .ok (.aload_n 0, 1) := by decide +kernel
theorem dL_law_872 : decode cL_law 872 = .ok (.iload_n 3, 1) := by decide +kernel
theorem dL_law_873 : decode cL_law 873 = .ok (.iconst 2, 1) := by decide +kernel
theorem dL_law_874 : decode cL_law 874 = .ok (.iadd, 1) := by decide +kernel
theorem dL_law_875 : decode cL_law 875 = .ok (.iaload, 1) := by decide +kernel
theorem dL_law_876 : decode cL_law 876 = .ok (.aload_n 0, 1) := by decide +kernel
theorem dL_law_877 : decode cL_law 877 = .ok (.iload_n 3, 1) := by decide +kernel
theorem dL_law_878 : decode cL_law 878 = .ok (.iconst 3, 1) := by decide +kernel
theorem dL_law_879 : decode cL_law 879 = .ok (.iadd, 1) := by decide +kernel
theorem dL_law_880 : decode cL_law 880 = .ok (.iaload, 1) := by decide +kernel
theorem dL_law_881 : decode cL_law 881 = .ok (.invokevirtual 96, 3) := by decide +kernel
theorem dL_law_884 : decode cL_law 884 = .ok (.aload_n 2, 1) := by decide +kernel
theorem dL_law_885 : decode cL_law 885 = .ok (.aload_n 0, 1) := by decide +kernel
theorem dL_law_886 : decode cL_law 886 = .ok (.iload_n 3, 1) := by decide +kernel
theorem dL_law_887 : decode cL_law 887 = .ok (.iconst 1, 1) := by decide +kernel
theorem dL_law_888 : decode cL_law 888 = .ok (.iadd, 1) := by decide +kernel
theorem dL_law_889 : decode cL_law 889 = .ok (.iaload, 1) := by decide +kernel
theorem dL_law_890 : decode cL_law 890 = .ok (.aload_n 0, 1) := by decide +kernel
theorem dL_law_891 : decode cL_law 891 = .ok (.iload_n 3, 1) := by decide +kernel
theorem dL_law_892 : decode cL_law 892 = .ok (.iconst 2, 1) := by decide +kernel
theorem dL_law_893 : decode cL_law 893 = .ok (.iadd, 1) := by decide +kernel
theorem dL_law_894 : decode cL_law 894 = .ok (.iaload, 1) := by decide +kernel
theorem dL_law_895 : decode cL_law 895 = .ok (.aload_n 0, 1) := by decide +kernel
theorem dL_law_896 : decode cL_law 896 = .ok (.iload_n 3, 1) := by decide +kernel
theorem dL_law_897 : decode cL_law 897 = .ok (.iconst 3, 1) := by decide +kernel
theorem dL_law_898 : decode cL_law 898 = .ok (.iadd, 1) := by decide +kernel
theorem dL_law_899 : decode cL_law 899 = .ok (.iaload, 1) := by decide +kernel
theorem dL_law_900 : decode cL_law 900 = .ok (.invokevirtual 99, 3) := by decide +kernel
theorem dL_law_903 : decode cL_law 903 = .ok (.if_icmp .eq 622, 3) := by decide +kernel
theorem dL_law_906 : decode cL_law 906 = .ok (.iconst 0, 1) := by decide +kernel
theorem dL_law_907 : decode cL_law 907 = .ok (.ireturn, 1) := by decide +kernel
theorem dL_law_908 : decode cL_law 908 = .ok (.aload_n 1, 1) := by decide +kernel
theorem dL_law_909 : decode cL_law 909 = .ok (.aload_n 0, 1) := by decide +kernel
theorem dL_law_910 : decode cL_law 910 = .ok (.iload_n 3, 1) := by decide +kernel
theorem dL_law_911 : decode cL_law 911 = .ok (.iconst 1, 1) := by decide +kernel
theorem dL_law_912 : decode cL_law 912 = .ok (.iadd, 1) := by decide +kernel
theorem dL_law_913 : decode cL_law 913 = .ok (.iaload, 1) := by decide +kernel
theorem dL_law_914 : decode cL_law 914 = .ok (.aload_n 0, 1) := by decide +kernel
theorem dL_law_915 : decode cL_law 915 = .ok (.iload_n 3, 1) := by decide +kernel
theorem dL_law_916 : decode cL_law 916 = .ok (.iconst 2, 1) := by decide +kernel
theorem dL_law_917 : decode cL_law 917 = .ok (.iadd, 1) := by decide +kernel
theorem dL_law_918 : decode cL_law 918 = .ok (.iaload, 1) := by decide +kernel
theorem dL_law_919 : decode cL_law 919 = .ok (.aload_n 0, 1) := by decide +kernel
theorem dL_law_920 : decode cL_law 920 = .ok (.iload_n 3, 1) := by decide +kernel
theorem dL_law_921 : decode cL_law 921 = .ok (.iconst 3, 1) := by decide +kernel
theorem dL_law_922 : decode cL_law 922 = .ok (.iadd, 1) := by decide +kernel
theorem dL_law_923 : decode cL_law 923 = .ok (.iaload, 1) := by decide +kernel
theorem dL_law_924 : decode cL_law 924 = .ok (.aload_n 0, 1) := by decide +kernel
theorem dL_law_925 : decode cL_law 925 = .ok (.iload_n 3, 1) := by decide +kernel
theorem dL_law_926 : decode cL_law 926 = .ok (.iconst 4, 1) := by decide +kernel
theorem dL_law_927 : decode cL_law 927 = .ok (.iadd, 1) := by decide +kernel
theorem dL_law_928 : decode cL_law 928 = .ok (.iaload, 1) := by decide +kernel
theorem dL_law_929 : decode cL_law 929 = .ok (.invokevirtual 100, 3) := by decide +kernel
theorem dL_law_932 : decode cL_law 932 = .ok (.aload_n 2, 1) := by decide +kernel
theorem dL_law_933 : decode cL_law 933 = .ok (.aload_n 0, 1) := by decide +kernel
theorem dL_law_934 : decode cL_law 934 = .ok (.iload_n 3, 1) := by decide +kernel
theorem dL_law_935 : decode cL_law 935 = .ok (.iconst 1, 1) := by decide +kernel
theorem dL_law_936 : decode cL_law 936 = .ok (.iadd, 1) := by decide +kernel
theorem dL_law_937 : decode cL_law 937 = .ok (.iaload, 1) := by decide +kernel
theorem dL_law_938 : decode cL_law 938 = .ok (.aload_n 0, 1) := by decide +kernel
theorem dL_law_939 : decode cL_law 939 = .ok (.iload_n 3, 1) := by decide +kernel
theorem dL_law_940 : decode cL_law 940 = .ok (.iconst 2, 1) := by decide +kernel
theorem dL_law_941 : decode cL_law 941 = .ok (.iadd, 1) := by decide +kernel
theorem dL_law_942 : decode cL_law 942 = .ok (.iaload, 1) := by decide +kernel
theorem dL_law_943 : decode cL_law 943 = .ok (.aload_n 0, 1) := by decide +kernel
theorem dL_law_944 : decode cL_law 944 = .ok (.iload_n 3, 1) := by decide +kernel
theorem dL_law_945 : decode cL_law 945 = .ok (.iconst 3, 1) := by decide +kernel
theorem dL_law_946 : decode cL_law 946 = .ok (.iadd, 1) := by decide +kernel
theorem dL_law_947 : decode cL_law 947 = .ok (.iaload, 1) := by decide +kernel
theorem dL_law_948 : decode cL_law 948 = .ok (.aload_n 0, 1) := by decide +kernel
theorem dL_law_949 : decode cL_law 949 = .ok (.iload_n 3, 1) := by decide +kernel
theorem dL_law_950 : decode cL_law 950 = .ok (.iconst 4, 1) := by decide +kernel
theorem dL_law_951 : decode cL_law 951 = .ok (.iadd, 1) := by decide +kernel
theorem dL_law_952 : decode cL_law 952 = .ok (.iaload, 1) := by decide +kernel
theorem dL_law_953 : decode cL_law 953 = .ok (.invokevirtual 103, 3) := by decide +kernel
theorem dL_law_956 : decode cL_law 956 = .ok (.if_icmp .eq 569, 3) := by decide +kernel
theorem dL_law_959 : decode cL_law 959 = .ok (.iconst 0, 1) := by decide +kernel
theorem dL_law_960 : decode cL_law 960 = .ok (.ireturn, 1) := by decide +kernel
theorem dL_law_961 : decode cL_law 961 = .ok (.aload_n 1, 1) := by decide +kernel
theorem dL_law_962 : decode cL_law 962 = .ok (.aload_n 0, 1) := by decide +kernel
theorem dL_law_963 : decode cL_law 963 = .ok (.iload_n 3, 1) := by decide +kernel
theorem dL_law_964 : decode cL_law 964 = .ok (.iconst 1, 1) := by decide +kernel
theorem dL_law_965 : decode cL_law 965 = .ok (.iadd, 1) := by decide +kernel
theorem dL_law_966 : decode cL_law 966 = .ok (.iaload, 1) := by decide +kernel
theorem dL_law_967 : decode cL_law 967 = .ok (.invokevirtual 104, 3) := by decide +kernel
theorem dL_law_970 : decode cL_law 970 = .ok (.aload_n 2, 1) := by decide +kernel
theorem dL_law_971 : decode cL_law 971 = .ok (.aload_n 0, 1) := by decide +kernel
theorem dL_law_972 : decode cL_law 972 = .ok (.iload_n 3, 1) := by decide +kernel
theorem dL_law_973 : decode cL_law 973 = .ok (.iconst 1, 1) := by decide +kernel
theorem dL_law_974 : decode cL_law 974 = .ok (.iadd, 1) := by decide +kernel
theorem dL_law_975 : decode cL_law 975 = .ok (.iaload, 1) := by decide +kernel
theorem dL_law_976 : decode cL_law 976 = .ok (.invokevirtual 107, 3) := by decide +kernel
theorem dL_law_979 : decode cL_law 979 = .ok (.if_icmp .eq 546, 3) := by decide +kernel
theorem dL_law_982 : decode cL_law 982 = .ok (.iconst 0, 1) := by decide +kernel
theorem dL_law_983 : decode cL_law 983 = .ok (.ireturn, 1) := by decide +kernel
theorem dL_law_984 : decode cL_law 984 = .ok (.aload_n 1, 1) := by decide +kernel
theorem dL_law_985 : decode cL_law 985 = .ok (.aload_n 0, 1) := by decide +kernel
theorem dL_law_986 : decode cL_law 986 = .ok (.iload_n 3, 1) := by decide +kernel
theorem dL_law_987 : decode cL_law 987 = .ok (.iconst 1, 1) := by decide +kernel
theorem dL_law_988 : decode cL_law 988 = .ok (.iadd, 1) := by decide +kernel
theorem dL_law_989 : decode cL_law 989 = .ok (.iaload, 1) := by decide +kernel
theorem dL_law_990 : decode cL_law 990 = .ok (.aload_n 0, 1) := by decide +kernel
theorem dL_law_991 : decode cL_law 991 = .ok (.iload_n 3, 1) := by decide +kernel
theorem dL_law_992 : decode cL_law 992 = .ok (.iconst 2, 1) := by decide +kernel
theorem dL_law_993 : decode cL_law 993 = .ok (.iadd, 1) := by decide +kernel
theorem dL_law_994 : decode cL_law 994 = .ok (.iaload, 1) := by decide +kernel
theorem dL_law_995 : decode cL_law 995 = .ok (.invokevirtual 108, 3) := by decide +kernel
theorem dL_law_998 : decode cL_law 998 = .ok (.aload_n 2, 1) := by decide +kernel
theorem dL_law_999 : decode cL_law 999 = .ok (.aload_n 0, 1) := by decide +kernel
theorem dL_law_1000 : decode cL_law 1000 = .ok (.iload_n 3, 1) := by decide +kernel
theorem dL_law_1001 : decode cL_law 1001 = .ok (.iconst 1, 1) := by decide +kernel
theorem dL_law_1002 : decode cL_law 1002 = .ok (.iadd, 1) := by decide +kernel
theorem dL_law_1003 : decode cL_law 1003 = .ok (.iaload, 1) := by decide +kernel
theorem dL_law_1004 : decode cL_law 1004 = .ok (.aload_n 0, 1) := by decide +kernel
theorem dL_law_1005 : decode cL_law 1005 = .ok (.iload_n 3, 1) := by decide +kernel
theorem dL_law_1006 : decode cL_law 1006 = .ok (.iconst 2, 1) := by decide +kernel
theorem dL_law_1007 : decode cL_law 1007 = .ok (.iadd, 1) := by decide +kernel
theorem dL_law_1008 : decode cL_law 1008 = .ok (.iaload, 1) := by decide +kernel
theorem dL_law_1009 : decode cL_law 1009 = .ok (.invokevirtual 111, 3) := by decide +kernel
theorem dL_law_1012 : decode cL_law 1012 = .ok (.if_icmp .eq 513, 3) := by decide +kernel
theorem dL_law_1015 : decode cL_law 1015 = .ok (.iconst 0, 1) := by decide +kernel
theorem dL_law_1016 : decode cL_law 1016 = .ok (.ireturn, 1) := by decide +kernel
theorem dL_law_1017 : decode cL_law 1017 = .ok (.aload_n 1, 1) := by decide +kernel
theorem dL_law_1018 : decode cL_law 1018 = .ok (.aload_n 0, 1) := by decide +kernel
theorem dL_law_1019 : decode cL_law 1019 = .ok (.iload_n 3, 1) := by decide +kernel
theorem dL_law_1020 : decode cL_law 1020 = .ok (.iconst 1, 1) := by decide +kernel
theorem dL_law_1021 : decode cL_law 1021 = .ok (.iadd, 1) := by decide +kernel
theorem dL_law_1022 : decode cL_law 1022 = .ok (.iaload, 1) := by decide +kernel
theorem dL_law_1023 : decode cL_law 1023 = .ok (.aload_n 0, 1) := by decide +kernel
theorem dL_law_1024 : decode cL_law 1024 = .ok (.iload_n 3, 1) := by decide +kernel
theorem dL_law_1025 : decode cL_law 1025 = .ok (.iconst 2, 1) := by decide +kernel
theorem dL_law_1026 : decode cL_law 1026 = .ok (.iadd, 1) := by decide +kernel
theorem dL_law_1027 : decode cL_law 1027 = .ok (.iaload, 1) := by decide +kernel
theorem dL_law_1028 : decode cL_law 1028 = .ok (.invokevirtual 112, 3) := by decide +kernel
theorem dL_law_1031 : decode cL_law 1031 = .ok (.aload_n 2, 1) := by decide +kernel
theorem dL_law_1032 : decode cL_law 1032 = .ok (.aload_n 0, 1) := by decide +kernel
theorem dL_law_1033 : decode cL_law 1033 = .ok (.iload_n 3, 1) := by decide +kernel
theorem dL_law_1034 : decode cL_law 1034 = .ok (.iconst 1, 1) := by decide +kernel
theorem dL_law_1035 : decode cL_law 1035 = .ok (.iadd, 1) := by decide +kernel
theorem dL_law_1036 : decode cL_law 1036 = .ok (.iaload, 1) := by decide +kernel
theorem dL_law_1037 : decode cL_law 1037 = .ok (.aload_n 0, 1) := by decide +kernel
theorem dL_law_1038 : decode cL_law 1038 = .ok (.iload_n 3, 1) := by decide +kernel
theorem dL_law_1039 : decode cL_law 1039 = .ok (.iconst 2, 1) := by decide +kernel
theorem dL_law_1040 : decode cL_law 1040 = .ok (.iadd, 1) := by decide +kernel
theorem dL_law_1041 : decode cL_law 1041 = .ok (.iaload, 1) := by decide +kernel
theorem dL_law_1042 : decode cL_law 1042 = .ok (.invokevirtual 115, 3) := by decide +kernel
theorem dL_law_1045 : decode cL_law 1045 = .ok (.if_icmp .eq 480, 3) := by decide +kernel
theorem dL_law_1048 : decode cL_law 1048 = .ok (.iconst 0, 1) := by decide +kernel
theorem dL_law_1049 : decode cL_law 1049 = .ok (.ireturn, 1) := by decide +kernel
theorem dL_law_1050 : decode cL_law 1050 = .ok (.aload_n 1, 1) := by decide +kernel
theorem dL_law_1051 : decode cL_law 1051 = .ok (.aload_n 0, 1) := by decide +kernel
theorem dL_law_1052 : decode cL_law 1052 = .ok (.iload_n 3, 1) := by decide +kernel
theorem dL_law_1053 : decode cL_law 1053 = .ok (.iconst 1, 1) := by decide +kernel
theorem dL_law_1054 : decode cL_law 1054 = .ok (.iadd, 1) := by decide +kernel
theorem dL_law_1055 : decode cL_law 1055 = .ok (.iaload, 1) := by decide +kernel
theorem dL_law_1056 : decode cL_law 1056 = .ok (.invokevirtual 116, 3) := by decide +kernel
theorem dL_law_1059 : decode cL_law 1059 = .ok (.aload_n 2, 1) := by decide +kernel
theorem dL_law_1060 : decode cL_law 1060 = .ok (.aload_n 0, 1) := by decide +kernel
theorem dL_law_1061 : decode cL_law 1061 = .ok (.iload_n 3, 1) := by decide +kernel
theorem dL_law_1062 : decode cL_law 1062 = .ok (.iconst 1, 1) := by decide +kernel
theorem dL_law_1063 : decode cL_law 1063 = .ok (.iadd, 1) := by decide +kernel
theorem dL_law_1064 : decode cL_law 1064 = .ok (.iaload, 1) := by decide +kernel
theorem dL_law_1065 : decode cL_law 1065 = .ok (.invokevirtual 119, 3) := by decide +kernel
theorem dL_law_1068 : decode cL_law 1068 = .ok (.if_icmp .eq 457, 3) := by decide +kernel
theorem dL_law_1071 : decode cL_law 1071 = .ok (.iconst 0, 1) := by decide +kernel
theorem dL_law_1072 : decode cL_law 1072 = .ok (.ireturn, 1) := by decide +kernel
theorem dL_law_1073 : decode cL_law 1073 = .ok (.aload_n 1, 1) := by decide +kernel
theorem dL_law_1074 : decode cL_law 1074 = .ok (.aload_n 0, 1) := by decide +kernel
theorem dL_law_1075 : decode cL_law 1075 = .ok (.iload_n 3, 1) := by decide +kernel
theorem dL_law_1076 : decode cL_law 1076 = .ok (.iconst 1, 1) := by decide +kernel
theorem dL_law_1077 : decode cL_law 1077 = .ok (.iadd, 1) := by decide +kernel
theorem dL_law_1078 : decode cL_law 1078 = .ok (.iaload, 1) := by decide +kernel
theorem dL_law_1079 : decode cL_law 1079 = .ok (.aload_n 0, 1) := by decide +kernel
theorem dL_law_1080 : decode cL_law 1080 = .ok (.iload_n 3, 1) := by decide +kernel
theorem dL_law_1081 : decode cL_law 1081 = .ok (.iconst 2, 1) := by decide +kernel
theorem dL_law_1082 : decode cL_law 1082 = .ok (.iadd, 1) := by decide +kernel
theorem dL_law_1083 : decode cL_law 1083 = .ok (.iaload, 1) := by decide +kernel
theorem dL_law_1084 : decode cL_law 1084 = .ok (.aload_n 0, 1) := by decide +kernel
theorem dL_law_1085 : decode cL_law 1085 = .ok (.iload_n 3, 1) := by decide +kernel
theorem dL_law_1086 : decode cL_law 1086 = .ok (.iconst 3, 1) := by decide +kernel
theorem dL_law_1087 : decode cL_law 1087 = .ok (.iadd, 1) := by decide +kernel
theorem dL_law_1088 : decode cL_law 1088 = .ok (.iaload, 1) := by decide +kernel
theorem dL_law_1089 : decode cL_law 1089 = .ok (.aload_n 0, 1) := by decide +kernel
theorem dL_law_1090 : decode cL_law 1090 = .ok (.iload_n 3, 1) := by decide +kernel
theorem dL_law_1091 : decode cL_law 1091 = .ok (.iconst 4, 1) := by decide +kernel
theorem dL_law_1092 : decode cL_law 1092 = .ok (.iadd, 1) := by decide +kernel
theorem dL_law_1093 : decode cL_law 1093 = .ok (.iaload, 1) := by decide +kernel
theorem dL_law_1094 : decode cL_law 1094 = .ok (.invokevirtual 120, 3) := by decide +kernel
theorem dL_law_1097 : decode cL_law 1097 = .ok (.aload_n 2, 1) := by decide +kernel
theorem dL_law_1098 : decode cL_law 1098 = .ok (.aload_n 0, 1) := by decide +kernel
theorem dL_law_1099 : decode cL_law 1099 = .ok (.iload_n 3, 1) := by decide +kernel
theorem dL_law_1100 : decode cL_law 1100 = .ok (.iconst 1, 1) := by decide +kernel
theorem dL_law_1101 : decode cL_law 1101 = .ok (.iadd, 1) := by decide +kernel
theorem dL_law_1102 : decode cL_law 1102 = .ok (.iaload, 1) := by decide +kernel
theorem dL_law_1103 : decode cL_law 1103 = .ok (.aload_n 0, 1) := by decide +kernel
theorem dL_law_1104 : decode cL_law 1104 = .ok (.iload_n 3, 1) := by decide +kernel
theorem dL_law_1105 : decode cL_law 1105 = .ok (.iconst 2, 1) := by decide +kernel
theorem dL_law_1106 : decode cL_law 1106 = .ok (.iadd, 1) := by decide +kernel
theorem dL_law_1107 : decode cL_law 1107 = .ok (.iaload, 1) := by decide +kernel
theorem dL_law_1108 : decode cL_law 1108 = .ok (.aload_n 0, 1) := by decide +kernel
theorem dL_law_1109 : decode cL_law 1109 = .ok (.iload_n 3, 1) := by decide +kernel
theorem dL_law_1110 : decode cL_law 1110 = .ok (.iconst 3, 1) := by decide +kernel
theorem dL_law_1111 : decode cL_law 1111 = .ok (.iadd, 1) := by decide +kernel
theorem dL_law_1112 : decode cL_law 1112 = .ok (.iaload, 1) := by decide +kernel
theorem dL_law_1113 : decode cL_law 1113 = .ok (.aload_n 0, 1) := by decide +kernel
theorem dL_law_1114 : decode cL_law 1114 = .ok (.iload_n 3, 1) := by decide +kernel
theorem dL_law_1115 : decode cL_law 1115 = .ok (.iconst 4, 1) := by decide +kernel
theorem dL_law_1116 : decode cL_law 1116 = .ok (.iadd, 1) := by decide +kernel
theorem dL_law_1117 : decode cL_law 1117 = .ok (.iaload, 1) := by decide +kernel
theorem dL_law_1118 : decode cL_law 1118 = .ok (.invokevirtual 123, 3) := by decide +kernel
theorem dL_law_1121 : decode cL_law 1121 = .ok (.if_icmp .eq 404, 3) := by decide +kernel
theorem dL_law_1124 : decode cL_law 1124 = .ok (.iconst 0, 1) := by decide +kernel
theorem dL_law_1125 : decode cL_law 1125 = .ok (.ireturn, 1) := by decide +kernel
theorem dL_law_1126 : decode cL_law 1126 = .ok (.aload_n 1, 1) := by decide +kernel
theorem dL_law_1127 : decode cL_law 1127 = .ok (.aload_n 0, 1) := by decide +kernel
theorem dL_law_1128 : decode cL_law 1128 = .ok (.iload_n 3, 1) := by decide +kernel
theorem dL_law_1129 : decode cL_law 1129 = .ok (.iconst 1, 1) := by decide +kernel
theorem dL_law_1130 : decode cL_law 1130 = .ok (.iadd, 1) := by decide +kernel
theorem dL_law_1131 : decode cL_law 1131 = .ok (.iaload, 1) := by decide +kernel
theorem dL_law_1132 : decode cL_law 1132 = .ok (.invokevirtual 124, 3) := by decide +kernel
theorem dL_law_1135 : decode cL_law 1135 = .ok (.aload_n 2, 1) := by decide +kernel
theorem dL_law_1136 : decode cL_law 1136 = .ok (.aload_n 0, 1) := by decide +kernel
theorem dL_law_1137 : decode cL_law 1137 = .ok (.iload_n 3, 1) := by decide +kernel
theorem dL_law_1138 : decode cL_law 1138 = .ok (.iconst 1, 1) := by decide +kernel
theorem dL_law_1139 : decode cL_law 1139 = .ok (.iadd, 1) := by decide +kernel
theorem dL_law_1140 : decode cL_law 1140 = .ok (.iaload, 1) := by decide +kernel
theorem dL_law_1141 : decode cL_law 1141 = .ok (.invokevirtual 127, 3) := by decide +kernel
theorem dL_law_1144 : decode cL_law 1144 = .ok (.if_icmp .eq 381, 3) := by decide +kernel
theorem dL_law_1147 : decode cL_law 1147 = .ok (.iconst 0, 1) := by decide +kernel
theorem dL_law_1148 : decode cL_law 1148 = .ok (.ireturn, 1) := by decide +kernel
theorem dL_law_1149 : decode cL_law 1149 = .ok (.aload_n 1, 1) := by decide +kernel
theorem dL_law_1150 : decode cL_law 1150 = .ok (.aload_n 0, 1) := by decide +kernel
theorem dL_law_1151 : decode cL_law 1151 = .ok (.iload_n 3, 1) := by decide +kernel
theorem dL_law_1152 : decode cL_law 1152 = .ok (.iconst 1, 1) := by decide +kernel
theorem dL_law_1153 : decode cL_law 1153 = .ok (.iadd, 1) := by decide +kernel
theorem dL_law_1154 : decode cL_law 1154 = .ok (.iaload, 1) := by decide +kernel
theorem dL_law_1155 : decode cL_law 1155 = .ok (.invokevirtual 128, 3) := by decide +kernel
theorem dL_law_1158 : decode cL_law 1158 = .ok (.aload_n 2, 1) := by decide +kernel
theorem dL_law_1159 : decode cL_law 1159 = .ok (.aload_n 0, 1) := by decide +kernel
theorem dL_law_1160 : decode cL_law 1160 = .ok (.iload_n 3, 1) := by decide +kernel
theorem dL_law_1161 : decode cL_law 1161 = .ok (.iconst 1, 1) := by decide +kernel
theorem dL_law_1162 : decode cL_law 1162 = .ok (.iadd, 1) := by decide +kernel
theorem dL_law_1163 : decode cL_law 1163 = .ok (.iaload, 1) := by decide +kernel
theorem dL_law_1164 : decode cL_law 1164 = .ok (.invokevirtual 131, 3) := by decide +kernel
theorem dL_law_1167 : decode cL_law 1167 = .ok (.if_icmp .eq 358, 3) := by decide +kernel
theorem dL_law_1170 : decode cL_law 1170 = .ok (.iconst 0, 1) := by decide +kernel
theorem dL_law_1171 : decode cL_law 1171 = .ok (.ireturn, 1) := by decide +kernel
theorem dL_law_1172 : decode cL_law 1172 = .ok (.aload_n 1, 1) := by decide +kernel
theorem dL_law_1173 : decode cL_law 1173 = .ok (.aload_n 0, 1) := by decide +kernel
theorem dL_law_1174 : decode cL_law 1174 = .ok (.iload_n 3, 1) := by decide +kernel
theorem dL_law_1175 : decode cL_law 1175 = .ok (.iconst 1, 1) := by decide +kernel
theorem dL_law_1176 : decode cL_law 1176 = .ok (.iadd, 1) := by decide +kernel
theorem dL_law_1177 : decode cL_law 1177 = .ok (.iaload, 1) := by decide +kernel
theorem dL_law_1178 : decode cL_law 1178 = .ok (.aload_n 0, 1) := by decide +kernel
theorem dL_law_1179 : decode cL_law 1179 = .ok (.iload_n 3, 1) := by decide +kernel
theorem dL_law_1180 : decode cL_law 1180 = .ok (.iconst 2, 1) := by decide +kernel
theorem dL_law_1181 : decode cL_law 1181 = .ok (.iadd, 1) := by decide +kernel
theorem dL_law_1182 : decode cL_law 1182 = .ok (.iaload, 1) := by decide +kernel
theorem dL_law_1183 : decode cL_law 1183 = .ok (.aload_n 0, 1) := by decide +kernel
theorem dL_law_1184 : decode cL_law 1184 = .ok (.iload_n 3, 1) := by decide +kernel
theorem dL_law_1185 : decode cL_law 1185 = .ok (.iconst 3, 1) := by decide +kernel
theorem dL_law_1186 : decode cL_law 1186 = .ok (.iadd, 1) := by decide +kernel
theorem dL_law_1187 : decode cL_law 1187 = .ok (.iaload, 1) := by decide +kernel
theorem dL_law_1188 : decode cL_law 1188 = .ok (.invokevirtual 132, 3) := by decide +kernel
theorem dL_law_1191 : decode cL_law 1191 = .ok (.aload_n 2, 1) := by decide +kernel
theorem dL_law_1192 : decode cL_law 1192 = .ok (.aload_n 0, 1) := by decide +kernel
theorem dL_law_1193 : decode cL_law 1193 = .ok (.iload_n 3, 1) := by decide +kernel
theorem dL_law_1194 : decode cL_law 1194 = .ok (.iconst 1, 1) := by decide +kernel
theorem dL_law_1195 : decode cL_law 1195 = .ok (.iadd, 1) := by decide +kernel
theorem dL_law_1196 : decode cL_law 1196 = .ok (.iaload, 1) := by decide +kernel
theorem dL_law_1197 : decode cL_law 1197 = .ok (.aload_n 0, 1) := by decide +kernel
theorem dL_law_1198 : decode cL_law 1198 = .ok (.iload_n 3, 1) := by decide +kernel
theorem dL_law_1199 : decode cL_law 1199 = .ok (.iconst 2, 1) := by decide +kernel
theorem dL_law_1200 : decode cL_law 1200 = .ok (.iadd, 1) := by decide +kernel
theorem dL_law_1201 : decode cL_law 1201 = .ok (.iaload, 1) := by decide +kernel
theorem dL_law_1202 : decode cL_law 1202 = .ok (.aload_n 0, 1) := by decide +kernel
theorem dL_law_1203 : decode cL_law 1203 = .ok (.iload_n 3, 1) := by decide +kernel
theorem dL_law_1204 : decode cL_law 1204 = .ok (.iconst 3, 1) := by decide +kernel
theorem dL_law_1205 : decode cL_law 1205 = .ok (.iadd, 1) := by decide +kernel
theorem dL_law_1206 : decode cL_law 1206 = .ok (.iaload, 1) := by decide +kernel
theorem dL_law_1207 : decode cL_law 1207 = .ok (.invokevirtual 135, 3) := by decide +kernel
theorem dL_law_1210 : decode cL_law 1210 = .ok (.if_icmp .eq 315, 3) := by decide +kernel
theorem dL_law_1213 : decode cL_law 1213 = .ok (.iconst 0, 1) := by decide +kernel
theorem dL_law_1214 : decode cL_law 1214 = .ok (.ireturn, 1) := by decide +kernel
theorem dL_law_1215 : decode cL_law 1215 = .ok (.aload_n 1, 1) := by decide +kernel
theorem dL_law_1216 : decode cL_law 1216 = .ok (.aload_n 0, 1) := by decide +kernel
theorem dL_law_1217 : decode cL_law 1217 = .ok (.iload_n 3, 1) := by decide +kernel
theorem dL_law_1218 : decode cL_law 1218 = .ok (.iconst 1, 1) := by decide +kernel
theorem dL_law_1219 : decode cL_law 1219 = .ok (.iadd, 1) := by decide +kernel
theorem dL_law_1220 : decode cL_law 1220 = .ok (.iaload, 1) := by decide +kernel
theorem dL_law_1221 : decode cL_law 1221 = .ok (.aload_n 0, 1) := by decide +kernel
theorem dL_law_1222 : decode cL_law 1222 = .ok (.iload_n 3, 1) := by decide +kernel
theorem dL_law_1223 : decode cL_law 1223 = .ok (.iconst 2, 1) := by decide +kernel
theorem dL_law_1224 : decode cL_law 1224 = .ok (.iadd, 1) := by decide +kernel
theorem dL_law_1225 : decode cL_law 1225 = .ok (.iaload, 1) := by decide +kernel
theorem dL_law_1226 : decode cL_law 1226 = .ok (.aload_n 0, 1) := by decide +kernel
theorem dL_law_1227 : decode cL_law 1227 = .ok (.iload_n 3, 1) := by decide +kernel
theorem dL_law_1228 : decode cL_law 1228 = .ok (.iconst 3, 1) := by decide +kernel
theorem dL_law_1229 : decode cL_law 1229 = .ok (.iadd, 1) := by decide +kernel
theorem dL_law_1230 : decode cL_law 1230 = .ok (.iaload, 1) := by decide +kernel
theorem dL_law_1231 : decode cL_law 1231 = .ok (.invokevirtual 136, 3) := by decide +kernel
theorem dL_law_1234 : decode cL_law 1234 = .ok (.aload_n 2, 1) := by decide +kernel
theorem dL_law_1235 : decode cL_law 1235 = .ok (.aload_n 0, 1) := by decide +kernel
theorem dL_law_1236 : decode cL_law 1236 = .ok (.iload_n 3, 1) := by decide +kernel
theorem dL_law_1237 : decode cL_law 1237 = .ok (.iconst 1, 1) := by decide +kernel
theorem dL_law_1238 : decode cL_law 1238 = .ok (.iadd, 1) := by decide +kernel
theorem dL_law_1239 : decode cL_law 1239 = .ok (.iaload, 1) := by decide +kernel
theorem dL_law_1240 : decode cL_law 1240 = .ok (.aload_n 0, 1) := by decide +kernel
theorem dL_law_1241 : decode cL_law 1241 = .ok (.iload_n 3, 1) := by decide +kernel
theorem dL_law_1242 : decode cL_law 1242 = .ok (.iconst 2, 1) := by decide +kernel
theorem dL_law_1243 : decode cL_law 1243 = .ok (.iadd, 1) := by decide +kernel
theorem dL_law_1244 : decode cL_law 1244 = .ok (.iaload, 1) := by decide +kernel
theorem dL_law_1245 : decode cL_law 1245 = .ok (.aload_n 0, 1) := by decide +kernel
theorem dL_law_1246 : decode cL_law 1246 = .ok (.iload_n 3, 1) := by decide +kernel
theorem dL_law_1247 : decode cL_law 1247 = .ok (.iconst 3, 1) := by decide +kernel
theorem dL_law_1248 : decode cL_law 1248 = .ok (.iadd, 1) := by decide +kernel
theorem dL_law_1249 : decode cL_law 1249 = .ok (.iaload, 1) := by decide +kernel
theorem dL_law_1250 : decode cL_law 1250 = .ok (.invokevirtual 139, 3) := by decide +kernel
theorem dL_law_1253 : decode cL_law 1253 = .ok (.if_icmp .eq 272, 3) := by decide +kernel
theorem dL_law_1256 : decode cL_law 1256 = .ok (.iconst 0, 1) := by decide +kernel
theorem dL_law_1257 : decode cL_law 1257 = .ok (.ireturn, 1) := by decide +kernel
theorem dL_law_1258 : decode cL_law 1258 = .ok (.aload_n 1, 1) := by decide +kernel
theorem dL_law_1259 : decode cL_law 1259 = .ok (.aload_n 0, 1) := by decide +kernel
theorem dL_law_1260 : decode cL_law 1260 = .ok (.iload_n 3, 1) := by decide +kernel
theorem dL_law_1261 : decode cL_law 1261 = .ok (.iconst 1, 1) := by decide +kernel
theorem dL_law_1262 : decode cL_law 1262 = .ok (.iadd, 1) := by decide +kernel
theorem dL_law_1263 : decode cL_law 1263 = .ok (.iaload, 1) := by decide +kernel
theorem dL_law_1264 : decode cL_law 1264 = .ok (.invokevirtual 140, 3) := by decide +kernel
theorem dL_law_1267 : decode cL_law 1267 = .ok (.aload_n 2, 1) := by decide +kernel
theorem dL_law_1268 : decode cL_law 1268 = .ok (.aload_n 0, 1) := by decide +kernel
theorem dL_law_1269 : decode cL_law 1269 = .ok (.iload_n 3, 1) := by decide +kernel
theorem dL_law_1270 : decode cL_law 1270 = .ok (.iconst 1, 1) := by decide +kernel
theorem dL_law_1271 : decode cL_law 1271 = .ok (.iadd, 1) := by decide +kernel
theorem dL_law_1272 : decode cL_law 1272 = .ok (.iaload, 1) := by decide +kernel
theorem dL_law_1273 : decode cL_law 1273 = .ok (.invokevirtual 143, 3) := by decide +kernel
theorem dL_law_1276 : decode cL_law 1276 = .ok (.if_icmp .eq 249, 3) := by decide +kernel
theorem dL_law_1279 : decode cL_law 1279 = .ok (.iconst 0, 1) := by decide +kernel
theorem dL_law_1280 : decode cL_law 1280 = .ok (.ireturn, 1) := by decide +kernel
theorem dL_law_1281 : decode cL_law 1281 = .ok (.aload_n 1, 1) := by decide +kernel
theorem dL_law_1282 : decode cL_law 1282 = .ok (.aload_n 0, 1) := by decide +kernel
theorem dL_law_1283 : decode cL_law 1283 = .ok (.iload_n 3, 1) := by decide +kernel
theorem dL_law_1284 : decode cL_law 1284 = .ok (.iconst 1, 1) := by decide +kernel
theorem dL_law_1285 : decode cL_law 1285 = .ok (.iadd, 1) := by decide +kernel
theorem dL_law_1286 : decode cL_law 1286 = .ok (.iaload, 1) := by decide +kernel
theorem dL_law_1287 : decode cL_law 1287 = .ok (.aload_n 0, 1) := by decide +kernel
theorem dL_law_1288 : decode cL_law 1288 = .ok (.iload_n 3, 1) := by decide +kernel
theorem dL_law_1289 : decode cL_law 1289 = .ok (.iconst 2, 1) := by decide +kernel
theorem dL_law_1290 : decode cL_law 1290 = .ok (.iadd, 1) := by decide +kernel
theorem dL_law_1291 : decode cL_law 1291 = .ok (.iaload, 1) := by decide +kernel
theorem dL_law_1292 : decode cL_law 1292 = .ok (.aload_n 0, 1) := by decide +kernel
theorem dL_law_1293 : decode cL_law 1293 = .ok (.iload_n 3, 1) := by decide +kernel
theorem dL_law_1294 : decode cL_law 1294 = .ok (.iconst 3, 1) := by decide +kernel
theorem dL_law_1295 : decode cL_law 1295 = .ok (.iadd, 1) := by decide +kernel
theorem dL_law_1296 : decode cL_law 1296 = .ok (.iaload, 1) := by decide +kernel
theorem dL_law_1297 : decode cL_law 1297 = .ok (.invokevirtual 144, 3) := by decide +kernel
theorem dL_law_1300 : decode cL_law 1300 = .ok (.aload_n 2, 1) := by decide +kernel
theorem dL_law_1301 : decode cL_law 1301 = .ok (.aload_n 0, 1) := by decide +kernel
theorem dL_law_1302 : decode cL_law 1302 = .ok (.iload_n 3, 1) := by decide +kernel
theorem dL_law_1303 : decode cL_law 1303 = .ok (.iconst 1, 1) := by decide +kernel
theorem dL_law_1304 : decode cL_law 1304 = .ok (.iadd, 1) := by decide +kernel
theorem dL_law_1305 : decode cL_law 1305 = .ok (.iaload, 1) := by decide +kernel
theorem dL_law_1306 : decode cL_law 1306 = .ok (.aload_n 0, 1) := by decide +kernel
theorem dL_law_1307 : decode cL_law 1307 = .ok (.iload_n 3, 1) := by decide +kernel
theorem dL_law_1308 : decode cL_law 1308 = .ok (.iconst 2, 1) := by decide +kernel
theorem dL_law_1309 : decode cL_law 1309 = .ok (.iadd, 1) := by decide +kernel
theorem dL_law_1310 : decode cL_law 1310 = .ok (.iaload, 1) := by decide +kernel
theorem dL_law_1311 : decode cL_law 1311 = .ok (.aload_n 0, 1) := by decide +kernel
theorem dL_law_1312 : decode cL_law 1312 = .ok (.iload_n 3, 1) := by decide +kernel
theorem dL_law_1313 : decode cL_law 1313 = .ok (.iconst 3, 1) := by decide +kernel
theorem dL_law_1314 : decode cL_law 1314 = .ok (.iadd, 1) := by decide +kernel
theorem dL_law_1315 : decode cL_law 1315 = .ok (.iaload, 1) := by decide +kernel
theorem dL_law_1316 : decode cL_law 1316 = .ok (.invokevirtual 147, 3) := by decide +kernel
theorem dL_law_1319 : decode cL_law 1319 = .ok (.if_icmp .eq 206, 3) := by decide +kernel
theorem dL_law_1322 : decode cL_law 1322 = .ok (.iconst 0, 1) := by decide +kernel
theorem dL_law_1323 : decode cL_law 1323 = .ok (.ireturn, 1) := by decide +kernel
theorem dL_law_1324 : decode cL_law 1324 = .ok (.aload_n 1, 1) := by decide +kernel
theorem dL_law_1325 : decode cL_law 1325 = .ok (.aload_n 0, 1) := by decide +kernel
theorem dL_law_1326 : decode cL_law 1326 = .ok (.iload_n 3, 1) := by decide +kernel
theorem dL_law_1327 : decode cL_law 1327 = .ok (.iconst 1, 1) := by decide +kernel
theorem dL_law_1328 : decode cL_law 1328 = .ok (.iadd, 1) := by decide +kernel
theorem dL_law_1329 : decode cL_law 1329 = .ok (.iaload, 1) := by decide +kernel
theorem dL_law_1330 : decode cL_law 1330 = .ok (.aload_n 0, 1) := by decide +kernel
theorem dL_law_1331 : decode cL_law 1331 = .ok (.iload_n 3, 1) := by decide +kernel
theorem dL_law_1332 : decode cL_law 1332 = .ok (.iconst 2, 1) := by decide +kernel
theorem dL_law_1333 : decode cL_law 1333 = .ok (.iadd, 1) := by decide +kernel
theorem dL_law_1334 : decode cL_law 1334 = .ok (.iaload, 1) := by decide +kernel
theorem dL_law_1335 : decode cL_law 1335 = .ok (.aload_n 0, 1) := by decide +kernel
theorem dL_law_1336 : decode cL_law 1336 = .ok (.iload_n 3, 1) := by decide +kernel
theorem dL_law_1337 : decode cL_law 1337 = .ok (.iconst 3, 1) := by decide +kernel
theorem dL_law_1338 : decode cL_law 1338 = .ok (.iadd, 1) := by decide +kernel
theorem dL_law_1339 : decode cL_law 1339 = .ok (.iaload, 1) := by decide +kernel
theorem dL_law_1340 : decode cL_law 1340 = .ok (.invokevirtual 148, 3) := by decide +kernel
theorem dL_law_1343 : decode cL_law 1343 = .ok (.aload_n 2, 1) := by decide +kernel
theorem dL_law_1344 : decode cL_law 1344 = .ok (.aload_n 0, 1) := by decide +kernel
theorem dL_law_1345 : decode cL_law 1345 = .ok (.iload_n 3, 1) := by decide +kernel
theorem dL_law_1346 : decode cL_law 1346 = .ok (.iconst 1, 1) := by decide +kernel
theorem dL_law_1347 : decode cL_law 1347 = .ok (.iadd, 1) := by decide +kernel
theorem dL_law_1348 : decode cL_law 1348 = .ok (.iaload, 1) := by decide +kernel
theorem dL_law_1349 : decode cL_law 1349 = .ok (.aload_n 0, 1) := by decide +kernel
theorem dL_law_1350 : decode cL_law 1350 = .ok (.iload_n 3, 1) := by decide +kernel
theorem dL_law_1351 : decode cL_law 1351 = .ok (.iconst 2, 1) := by decide +kernel
theorem dL_law_1352 : decode cL_law 1352 = .ok (.iadd, 1) := by decide +kernel
theorem dL_law_1353 : decode cL_law 1353 = .ok (.iaload, 1) := by decide +kernel
theorem dL_law_1354 : decode cL_law 1354 = .ok (.aload_n 0, 1) := by decide +kernel
theorem dL_law_1355 : decode cL_law 1355 = .ok (.iload_n 3, 1) := by decide +kernel
theorem dL_law_1356 : decode cL_law 1356 = .ok (.iconst 3, 1) := by decide +kernel
theorem dL_law_1357 : decode cL_law 1357 = .ok (.iadd, 1) := by decide +kernel
theorem dL_law_1358 : decode cL_law 1358 = .ok (.iaload, 1) := by decide +kernel
theorem dL_law_1359 : decode cL_law 1359 = .ok (.invokevirtual 151, 3) := by decide +kernel
theorem dL_law_1362 : decode cL_law 1362 = .ok (.if_icmp .eq 163, 3) := by decide +kernel
theorem dL_law_1365 : decode cL_law 1365 = .ok (.iconst 0, 1) := by decide +kernel
theorem dL_law_1366 : decode cL_law 1366 = .ok (.ireturn, 1) := by decide +kernel
theorem dL_law_1367 : decode cL_law 1367 = .ok (.aload_n 1, 1) := by decide +kernel
theorem dL_law_1368 : decode cL_law 1368 = .ok (.aload_n 0, 1) := by decide +kernel
theorem dL_law_1369 : decode cL_law 1369 = .ok (.iload_n 3, 1) := by decide +kernel
theorem dL_law_1370 : decode cL_law 1370 = .ok (.iconst 1, 1) := by decide +kernel
theorem dL_law_1371 : decode cL_law 1371 = .ok (.iadd, 1) := by decide +kernel
theorem dL_law_1372 : decode cL_law 1372 = .ok (.iaload, 1) := by decide +kernel
theorem dL_law_1373 : decode cL_law 1373 = .ok (.aload_n 0, 1) := by decide +kernel
theorem dL_law_1374 : decode cL_law 1374 = .ok (.iload_n 3, 1) := by decide +kernel
theorem dL_law_1375 : decode cL_law 1375 = .ok (.iconst 2, 1) := by decide +kernel
theorem dL_law_1376 : decode cL_law 1376 = .ok (.iadd, 1) := by decide +kernel
theorem dL_law_1377 : decode cL_law 1377 = .ok (.iaload, 1) := by decide +kernel
theorem dL_law_1378 : decode cL_law 1378 = .ok (.aload_n 0, 1) := by decide +kernel
theorem dL_law_1379 : decode cL_law 1379 = .ok (.iload_n 3, 1) := by decide +kernel
theorem dL_law_1380 : decode cL_law 1380 = .ok (.iconst 3, 1) := by decide +kernel
theorem dL_law_1381 : decode cL_law 1381 = .ok (.iadd, 1) := by decide +kernel
theorem dL_law_1382 : decode cL_law 1382 = .ok (.iaload, 1) := by decide +kernel
theorem dL_law_1383 : decode cL_law 1383 = .ok (.invokevirtual 152, 3) := by decide +kernel
theorem dL_law_1386 : decode cL_law 1386 = .ok (.aload_n 2, 1) := by decide +kernel
theorem dL_law_1387 : decode cL_law 1387 = .ok (.aload_n 0, 1) := by decide +kernel
theorem dL_law_1388 : decode cL_law 1388 = .ok (.iload_n 3, 1) := by decide +kernel
theorem dL_law_1389 : decode cL_law 1389 = .ok (.iconst 1, 1) := by decide +kernel
theorem dL_law_1390 : decode cL_law 1390 = .ok (.iadd, 1) := by decide +kernel
theorem dL_law_1391 : decode cL_law 1391 = .ok (.iaload, 1) := by decide +kernel
theorem dL_law_1392 : decode cL_law 1392 = .ok (.aload_n 0, 1) := by decide +kernel
theorem dL_law_1393 : decode cL_law 1393 = .ok (.iload_n 3, 1) := by decide +kernel
theorem dL_law_1394 : decode cL_law 1394 = .ok (.iconst 2, 1) := by decide +kernel
theorem dL_law_1395 : decode cL_law 1395 = .ok (.iadd, 1) := by decide +kernel
theorem dL_law_1396 : decode cL_law 1396 = .ok (.iaload, 1) := by decide +kernel
theorem dL_law_1397 : decode cL_law 1397 = .ok (.aload_n 0, 1) := by decide +kernel
theorem dL_law_1398 : decode cL_law 1398 = .ok (.iload_n 3, 1) := by decide +kernel
theorem dL_law_1399 : decode cL_law 1399 = .ok (.iconst 3, 1) := by decide +kernel
theorem dL_law_1400 : decode cL_law 1400 = .ok (.iadd, 1) := by decide +kernel
theorem dL_law_1401 : decode cL_law 1401 = .ok (.iaload, 1) := by decide +kernel
theorem dL_law_1402 : decode cL_law 1402 = .ok (.invokevirtual 155, 3) := by decide +kernel
theorem dL_law_1405 : decode cL_law 1405 = .ok (.if_icmp .eq 120, 3) := by decide +kernel
theorem dL_law_1408 : decode cL_law 1408 = .ok (.iconst 0, 1) := by decide +kernel
theorem dL_law_1409 : decode cL_law 1409 = .ok (.ireturn, 1) := by decide +kernel
theorem dL_law_1410 : decode cL_law 1410 = .ok (.aload_n 1, 1) := by decide +kernel
theorem dL_law_1411 : decode cL_law 1411 = .ok (.aload_n 0, 1) := by decide +kernel
theorem dL_law_1412 : decode cL_law 1412 = .ok (.iload_n 3, 1) := by decide +kernel
theorem dL_law_1413 : decode cL_law 1413 = .ok (.iconst 1, 1) := by decide +kernel
theorem dL_law_1414 : decode cL_law 1414 = .ok (.iadd, 1) := by decide +kernel
theorem dL_law_1415 : decode cL_law 1415 = .ok (.iaload, 1) := by decide +kernel
theorem dL_law_1416 : decode cL_law 1416 = .ok (.aload_n 0, 1) := by decide +kernel
theorem dL_law_1417 : decode cL_law 1417 = .ok (.iload_n 3, 1) := by decide +kernel
theorem dL_law_1418 : decode cL_law 1418 = .ok (.iconst 2, 1) := by decide +kernel
theorem dL_law_1419 : decode cL_law 1419 = .ok (.iadd, 1) := by decide +kernel
theorem dL_law_1420 : decode cL_law 1420 = .ok (.iaload, 1) := by decide +kernel
theorem dL_law_1421 : decode cL_law 1421 = .ok (.invokevirtual 156, 3) := by decide +kernel
theorem dL_law_1424 : decode cL_law 1424 = .ok (.aload_n 2, 1) := by decide +kernel
theorem dL_law_1425 : decode cL_law 1425 = .ok (.aload_n 0, 1) := by decide +kernel
theorem dL_law_1426 : decode cL_law 1426 = .ok (.iload_n 3, 1) := by decide +kernel
theorem dL_law_1427 : decode cL_law 1427 = .ok (.iconst 1, 1) := by decide +kernel
theorem dL_law_1428 : decode cL_law 1428 = .ok (.iadd, 1) := by decide +kernel
theorem dL_law_1429 : decode cL_law 1429 = .ok (.iaload, 1) := by decide +kernel
theorem dL_law_1430 : decode cL_law 1430 = .ok (.aload_n 0, 1) := by decide +kernel
theorem dL_law_1431 : decode cL_law 1431 = .ok (.iload_n 3, 1) := by decide +kernel
theorem dL_law_1432 : decode cL_law 1432 = .ok (.iconst 2, 1) := by decide +kernel
theorem dL_law_1433 : decode cL_law 1433 = .ok (.iadd, 1) := by decide +kernel
theorem dL_law_1434 : decode cL_law 1434 = .ok (.iaload, 1) := by decide +kernel
theorem dL_law_1435 : decode cL_law 1435 = .ok (.invokevirtual 159, 3) := by decide +kernel
theorem dL_law_1438 : decode cL_law 1438 = .ok (.if_icmp .eq 87, 3) := by decide +kernel
theorem dL_law_1441 : decode cL_law 1441 = .ok (.iconst 0, 1) := by decide +kernel
theorem dL_law_1442 : decode cL_law 1442 = .ok (.ireturn, 1) := by decide +kernel
theorem dL_law_1443 : decode cL_law 1443 = .ok (.aload_n 1, 1) := by decide +kernel
theorem dL_law_1444 : decode cL_law 1444 = .ok (.aload_n 0, 1) := by decide +kernel
theorem dL_law_1445 : decode cL_law 1445 = .ok (.iload_n 3, 1) := by decide +kernel
theorem dL_law_1446 : decode cL_law 1446 = .ok (.iconst 1, 1) := by decide +kernel
theorem dL_law_1447 : decode cL_law 1447 = .ok (.iadd, 1) := by decide +kernel
theorem dL_law_1448 : decode cL_law 1448 = .ok (.iaload, 1) := by decide +kernel
theorem dL_law_1449 : decode cL_law 1449 = .ok (.invokevirtual 160, 3) := by decide +kernel
theorem dL_law_1452 : decode cL_law 1452 = .ok (.aload_n 2, 1) := by decide +kernel
theorem dL_law_1453 : decode cL_law 1453 = .ok (.aload_n 0, 1) := by decide +kernel
theorem dL_law_1454 : decode cL_law 1454 = .ok (.iload_n 3, 1) := by decide +kernel
theorem dL_law_1455 : decode cL_law 1455 = .ok (.iconst 1, 1) := by decide +kernel
theorem dL_law_1456 : decode cL_law 1456 = .ok (.iadd, 1) := by decide +kernel
theorem dL_law_1457 : decode cL_law 1457 = .ok (.iaload, 1) := by decide +kernel
theorem dL_law_1458 : decode cL_law 1458 = .ok (.invokevirtual 163, 3) := by decide +kernel
theorem dL_law_1461 : decode cL_law 1461 = .ok (.if_icmp .eq 64, 3) := by decide +kernel
theorem dL_law_1464 : decode cL_law 1464 = .ok (.iconst 0, 1) := by decide +kernel
theorem dL_law_1465 : decode cL_law 1465 = .ok (.ireturn, 1) := by decide +kernel
theorem dL_law_1466 : decode cL_law 1466 = .ok (.aload_n 1, 1) := by decide +kernel
theorem dL_law_1467 : decode cL_law 1467 = .ok (.aload_n 0, 1) := by decide +kernel
theorem dL_law_1468 : decode cL_law 1468 = .ok (.iload_n 3, 1) := by decide +kernel
theorem dL_law_1469 : decode cL_law 1469 = .ok (.iconst 1, 1) := by decide +kernel
theorem dL_law_1470 : decode cL_law 1470 = .ok (.iadd, 1) := by decide +kernel
theorem dL_law_1471 : decode cL_law 1471 = .ok (.iaload, 1) := by decide +kernel
theorem dL_law_1472 : decode cL_law 1472 = .ok (.invokevirtual 164, 3) := by decide +kernel
theorem dL_law_1475 : decode cL_law 1475 = .ok (.aload_n 2, 1) := by decide +kernel
theorem dL_law_1476 : decode cL_law 1476 = .ok (.aload_n 0, 1) := by decide +kernel
theorem dL_law_1477 : decode cL_law 1477 = .ok (.iload_n 3, 1) := by decide +kernel
theorem dL_law_1478 : decode cL_law 1478 = .ok (.iconst 1, 1) := by decide +kernel
theorem dL_law_1479 : decode cL_law 1479 = .ok (.iadd, 1) := by decide +kernel
theorem dL_law_1480 : decode cL_law 1480 = .ok (.iaload, 1) := by decide +kernel
theorem dL_law_1481 : decode cL_law 1481 = .ok (.invokevirtual 167, 3) := by decide +kernel
theorem dL_law_1484 : decode cL_law 1484 = .ok (.if_icmp .eq 41, 3) := by decide +kernel
theorem dL_law_1487 : decode cL_law 1487 = .ok (.iconst 0, 1) := by decide +kernel
theorem dL_law_1488 : decode cL_law 1488 = .ok (.ireturn, 1) := by decide +kernel
theorem dL_law_1489 : decode cL_law 1489 = .ok (.aload_n 1, 1) := by decide +kernel
theorem dL_law_1490 : decode cL_law 1490 = .ok (.aload_n 0, 1) := by decide +kernel
theorem dL_law_1491 : decode cL_law 1491 = .ok (.iload_n 3, 1) := by decide +kernel
theorem dL_law_1492 : decode cL_law 1492 = .ok (.iconst 1, 1) := by decide +kernel
theorem dL_law_1493 : decode cL_law 1493 = .ok (.iadd, 1) := by decide +kernel
theorem dL_law_1494 : decode cL_law 1494 = .ok (.iaload, 1) := by decide +kernel
theorem dL_law_1495 : decode cL_law 1495 = .ok (.invokevirtual 168, 3) := by decide +kernel
theorem dL_law_1498 : decode cL_law 1498 = .ok (.aload_n 2, 1) := by decide +kernel
theorem dL_law_1499 : decode cL_law 1499 = .ok (.aload_n 0, 1) := by decide +kernel
theorem dL_law_1500 : decode cL_law 1500 = .ok (.iload_n 3, 1) := by decide +kernel
theorem dL_law_1501 : decode cL_law 1501 = .ok (.iconst 1, 1) := by decide +kernel
theorem dL_law_1502 : decode cL_law 1502 = .ok (.iadd, 1) := by decide +kernel
theorem dL_law_1503 : decode cL_law 1503 = .ok (.iaload, 1) := by decide +kernel
theorem dL_law_1504 : decode cL_law 1504 = .ok (.invokevirtual 171, 3) := by decide +kernel
theorem dL_law_1507 : decode cL_law 1507 = .ok (.if_icmp .eq 18, 3) := by decide +kernel
theorem dL_law_1510 : decode cL_law 1510 = .ok (.iconst 0, 1) := by decide +kernel
theorem dL_law_1511 : decode cL_law 1511 = .ok (.ireturn, 1) := by decide +kernel
theorem dL_law_1512 : decode cL_law 1512 = .ok (.aload_n 1, 1) := by decide +kernel
theorem dL_law_1513 : decode cL_law 1513 = .ok (.invokevirtual 172, 3) := by decide +kernel
theorem dL_law_1516 : decode cL_law 1516 = .ok (.aload_n 2, 1) := by decide +kernel
theorem dL_law_1517 : decode cL_law 1517 = .ok (.invokevirtual 175, 3) := by decide +kernel
theorem dL_law_1520 : decode cL_law 1520 = .ok (.if_icmp .eq 5, 3) := by decide +kernel
theorem dL_law_1523 : decode cL_law 1523 = .ok (.iconst 0, 1) := by decide +kernel
theorem dL_law_1524 : decode cL_law 1524 = .ok (.ireturn, 1) := by decide +kernel
theorem dL_law_1525 : decode cL_law 1525 = .ok (.iinc 3 8, 3) := by decide +kernel
theorem dL_law_1528 : decode cL_law 1528 = .ok (.goto (-1510), 3) := by decide +kernel
theorem dL_law_1531 : decode cL_law 1531 = .ok (.iconst 1, 1) := by decide +kernel
theorem dL_law_1532 : decode cL_law 1532 = .ok (.ireturn, 1) := by decide +kernel
