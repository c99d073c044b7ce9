theorem d_Mo_whole_79 : decode c_Mo_whole 79 = .ok (.if_icmp .ge 34, 3) := by decide +kernel
theorem d_Mo_whole_82 : decode c_Mo_whole 82 = .ok (.iload_n 1, 1) := by decide +kernel
theorem d_Mo_whole_83 : decode c_Mo_whole 83 = .ok (.ifCond .eq 22, 3) := by decide +kernel
theorem d_Mo_whole_86 : decode c_Mo_whole 86 = .ok (.aload_n 0, 1) := by decide +kernel
theorem d_Mo_whole_87 : decode c_Mo_whole 87 = .ok (.getfield 75, 3) := by decide +kernel
theorem d_Mo_whole_90 : decode c_Mo_whole 90 = .ok (.iload_n 2, 1) := by decide +kernel
theorem d_Mo_whole_91 : decode c_Mo_whole 91 = .ok (.iaload, 1) := by decide +kernel
theorem d_Mo_whole_92 : decode c_Mo_whole 92 = .ok (.aload_n 0, 1) := by decide +kernel
theorem d_Mo_whole_93 : decode c_Mo_whole 93 = .ok (.getfield 78, 3) := by decide +kernel
theorem d_Mo_whole_96 : decode c_Mo_whole 96 = .ok (.iload_n 2, 1) := by decide +kernel
theorem d_Mo_whole_97 : decode c_Mo_whole 97 = .ok (.iaload, 1) := by decide +kernel
theorem d_Mo_whole_98 : decode c_Mo_whole 98 = .ok (.if_icmp .ne 7, 3) := by decide +kernel
theorem d_Mo_whole_101 : decode c_Mo_whole 101 = .ok (.iconst 1, 1) := by decide +kernel
theorem d_Mo_whole_102 : decode c_Mo_whole 102 = .ok (.goto 4, 3) := by decide +kernel
theorem d_Mo_whole_105 : decode c_Mo_whole 105 = .ok (.iconst 0, 1) := by decide +kernel
theorem d_Mo_whole_106 : decode c_Mo_whole 106 = .ok (.istore_n 1, 1) := by decide +kernel
theorem d_Mo_whole_107 : decode c_Mo_whole 107 = .ok (.iinc 2 1, 3) := by decide +kernel
theorem d_Mo_whole_110 : decode c_Mo_whole 110 = .ok (.goto (-36), 3) := by decide +kernel
theorem d_Mo_whole_113 : decode c_Mo_whole 113 = .ok (.aload_n 0, 1) := by decide +kernel
theorem d_Mo_whole_114 : decode c_Mo_whole 114 = .ok (.iload_n 1, 1) := by decide +kernel
theorem d_Mo_whole_115 : decode c_Mo_whole 115 = .ok (.ifCond .eq 10, 3) := by decide +kernel
theorem d_Mo_whole_118 : decode c_Mo_whole 118 = .ok (.aload_n 0, 1) := by decide +kernel
theorem d_Mo_whole_119 : decode c_Mo_whole 119 = .ok (.getfield 164, 3) := by decide +kernel
theorem d_Mo_whole_122 : decode c_Mo_whole 122 = .ok (.goto 7, 3) := by decide +kernel
theorem d_Mo_whole_125 : decode c_Mo_whole 125 = .ok (.aload_n 0, 1) := by decide +kernel
theorem d_Mo_whole_126 : decode c_Mo_whole 126 = .ok (.getfield 167, 3) := by decide +kernel
theorem d_Mo_whole_129 : decode c_Mo_whole 129 = .ok (.putfield 167, 3) := by decide +kernel
theorem d_Mo_whole_132 : decode c_Mo_whole 132 = .ok (.aload_n 0, 1) := by decide +kernel
theorem d_Mo_whole_133 : decode c_Mo_whole 133 = .ok (.getfield 164, 3) := by decide +kernel
theorem d_Mo_whole_136 : decode c_Mo_whole 136 = .ok (.aload_n 0, 1) := by decide +kernel
theorem d_Mo_whole_137 : decode c_Mo_whole 137 = .ok (.getfield 170, 3) := by decide +kernel
theorem d_Mo_whole_140 : decode c_Mo_whole 140 = .ok (.if_icmp .ne 31, 3) := by decide +kernel
theorem d_Mo_whole_143 : decode c_Mo_whole 143 = .ok (.iconst 0, 1) := by decide +kernel
theorem d_Mo_whole_144 : decode c_Mo_whole 144 = .ok (.istore_n 2, 1) := by decide +kernel
theorem d_Mo_whole_145 : decode c_Mo_whole 145 = .ok (.iload_n 2, 1) := by decide +kernel
theorem d_Mo_whole_146 : decode c_Mo_whole 146 = .ok (.aload_n 0, 1) := by decide +kernel
theorem d_Mo_whole_147 : decode c_Mo_whole 147 = .ok (.getfield 34, 3) := by decide +kernel
theorem d_Mo_whole_150 : decode c_Mo_whole 150 = .ok (.if_icmp .ge 21, 3) := by decide +kernel
theorem d_Mo_whole_153 : decode c_Mo_whole 153 = .ok (.aload_n 0, 1) := by decide +kernel
theorem d_Mo_whole_154 : decode c_Mo_whole 154 = .ok (.getfield 84, 3) := by decide +kernel
theorem d_Mo_whole_157 : decode c_Mo_whole 157 = .ok (.iload_n 2, 1) := by decide +kernel
theorem d_Mo_whole_158 : decode c_Mo_whole 158 = .ok (.aload_n 0, 1) := by decide +kernel
theorem d_Mo_whole_159 : decode c_Mo_whole 159 = .ok (.getfield 75, 3) := by decide +kernel
theorem d_Mo_whole_162 : decode c_Mo_whole 162 = .ok (.iload_n 2, 1) := by decide +kernel
theorem d_Mo_whole_163 : decode c_Mo_whole 163 = .ok (.iaload, 1) := by decide +kernel
theorem d_Mo_whole_164 : decode c_Mo_whole 164 = .ok (.iastore, 1) := by decide +kernel
theorem d_Mo_whole_165 : decode c_Mo_whole 165 = .ok (.iinc 2 1, 3) := by decide +kernel
theorem d_Mo_whole_168 : decode c_Mo_whole 168 = .ok (.goto (-23), 3) := by decide +kernel
theorem d_Mo_whole_171 : decode c_Mo_whole 171 = .ok (.aload_n 0, 1) := by decide +kernel
theorem d_Mo_whole_172 : decode c_Mo_whole 172 = .ok (.getfield 173, 3) := by decide +kernel
theorem d_Mo_whole_175 : decode c_Mo_whole 175 = .ok (.ifCond .lt 73, 3) := by decide +kernel
theorem d_Mo_whole_178 : decode c_Mo_whole 178 = .ok (.aload_n 0, 1) := by decide +kernel
theorem d_Mo_whole_179 : decode c_Mo_whole 179 = .ok (.aload_n 0, 1) := by decide +kernel
theorem d_Mo_whole_180 : decode c_Mo_whole 180 = .ok (.getfield 173, 3) := by decide +kernel
theorem d_Mo_whole_183 : decode c_Mo_whole 183 = .ok (.invokevirtual 150, 3) := by decide +kernel
theorem d_Mo_whole_186 : decode c_Mo_whole 186 = .ok (.istore_n 2, 1) := by decide +kernel
theorem d_Mo_whole_187 : decode c_Mo_whole 187 = .ok (.aload_n 0, 1) := by decide +kernel
theorem d_Mo_whole_188 : decode c_Mo_whole 188 = .ok (.aload_n 0, 1) := by decide +kernel
theorem d_Mo_whole_189 : decode c_Mo_whole 189 = .ok (.getfield 164, 3) := by decide +kernel
theorem d_Mo_whole_192 : decode c_Mo_whole 192 = .ok (.ifCond .eq 11, 3) := by decide +kernel
theorem d_Mo_whole_195 : decode c_Mo_whole 195 = .ok (.iload_n 2, 1) := by decide +kernel
theorem d_Mo_whole_196 : decode c_Mo_whole 196 = .ok (.aload_n 0, 1) := by decide +kernel
theorem d_Mo_whole_197 : decode c_Mo_whole 197 = .ok (.getfield 176, 3) := by decide +kernel
theorem d_Mo_whole_200 : decode c_Mo_whole 200 = .ok (.if_icmp .ge 7, 3) := by decide +kernel
theorem d_Mo_whole_203 : decode c_Mo_whole 203 = .ok (.iload_n 2, 1) := by decide +kernel
theorem d_Mo_whole_204 : decode c_Mo_whole 204 = .ok (.goto 7, 3) := by decide +kernel
theorem d_Mo_whole_207 : decode c_Mo_whole 207 = .ok (.aload_n 0, 1) := by decide +kernel
theorem d_Mo_whole_208 : decode c_Mo_whole 208 = .ok (.getfield 176, 3) := by decide +kernel
theorem d_Mo_whole_211 : decode c_Mo_whole 211 = .ok (.putfield 176, 3) := by decide +kernel
theorem d_Mo_whole_214 : decode c_Mo_whole 214 = .ok (.aload_n 0, 1) := by decide +kernel
theorem d_Mo_whole_215 : decode c_Mo_whole 215 = .ok (.getfield 81, 3) := by decide +kernel
theorem d_Mo_whole_218 : decode c_Mo_whole 218 = .ok (.iload_n 2, 1) := by decide +kernel
theorem d_Mo_whole_219 : decode c_Mo_whole 219 = .ok (.aload_n 0, 1) := by decide +kernel
theorem d_Mo_whole_220 : decode c_Mo_whole 220 = .ok (.getfield 179, 3) := by decide +kernel
theorem d_Mo_whole_223 : decode c_Mo_whole 223 = .ok (.if_icmp .ge 7, 3) := by decide +kernel
theorem d_Mo_whole_226 : decode c_Mo_whole 226 = .ok (.iconst 0, 1) := by decide +kernel
theorem d_Mo_whole_227 : decode c_Mo_whole 227 = .ok (.goto 16, 3) := by decide +kernel
theorem d_Mo_whole_230 : decode c_Mo_whole 230 = .ok (.iload_n 2, 1) := by decide +kernel
theorem d_Mo_whole_231 : decode c_Mo_whole 231 = .ok (.aload_n 0, 1) := by decide +kernel
theorem d_Mo_whole_232 : decode c_Mo_whole 232 = .ok (.getfield 179, 3) := by decide +kernel
theorem d_Mo_whole_235 : decode c_Mo_whole 235 = .ok (.if_icmp .ne 7, 3) := by decide +kernel
theorem d_Mo_whole_238 : decode c_Mo_whole 238 = .ok (.iconst 1, 1) := by decide +kernel
theorem d_Mo_whole_239 : decode c_Mo_whole 239 = .ok (.goto 4, 3) := by decide +kernel
theorem d_Mo_whole_242 : decode c_Mo_whole 242 = .ok (.iconst 2, 1) := by decide +kernel
theorem d_Mo_whole_243 : decode c_Mo_whole 243 = .ok (.dup2, 1) := by decide +kernel
theorem d_Mo_whole_244 : decode c_Mo_whole 244 = .ok (.iaload, 1) := by decide +kernel
theorem d_Mo_whole_245 : decode c_Mo_whole 245 = .ok (.iconst 1, 1) := by decide +kernel
theorem d_Mo_whole_246 : decode c_Mo_whole 246 = .ok (.iadd, 1) := by decide +kernel
theorem d_Mo_whole_247 : decode c_Mo_whole 247 = .ok (.iastore, 1) := by decide +kernel
theorem d_Mo_whole_248 : decode c_Mo_whole 248 = .ok (.aload_n 0, 1) := by decide +kernel
theorem d_Mo_whole_249 : decode c_Mo_whole 249 = .ok (.dup, 1) := by decide +kernel
theorem d_Mo_whole_250 : decode c_Mo_whole 250 = .ok (.getfield 164, 3) := by decide +kernel
theorem d_Mo_whole_253 : decode c_Mo_whole 253 = .ok (.iconst 1, 1) := by decide +kernel
theorem d_Mo_whole_254 : decode c_Mo_whole 254 = .ok (.iadd, 1) := by decide +kernel
theorem d_Mo_whole_255 : decode c_Mo_whole 255 = .ok (.putfield 164, 3) := by decide +kernel
theorem d_Mo_whole_258 : decode c_Mo_whole 258 = .ok (.return_, 1) := by decide +kernel
theorem d_Mo_goThrough_0 : decode c_Mo_goThrough 0 = .ok (.iconst 0, 1) := by decide +kernel
theorem d_Mo_goThrough_1 : decode c_Mo_goThrough 1 = .ok (.istore_n 3, 1) := by decide +kernel
theorem d_Mo_goThrough_2 : decode c_Mo_goThrough 2 = .ok (.iconst 1, 1) := by decide +kernel
theorem d_Mo_goThrough_3 : decode c_Mo_goThrough 3 = .ok (.aload_n 0, 1) := by decide +kernel
theorem d_Mo_goThrough_4 : decode c_Mo_goThrough 4 = .ok (.getfield 91, 3) := by decide +kernel
theorem d_Mo_goThrough_7 : decode c_Mo_goThrough 7 = .ok (.ishl, 1) := by decide +kernel
theorem d_Mo_goThrough_8 : decode c_Mo_goThrough 8 = .ok (.iconst 1, 1) := by decide +kernel
theorem d_Mo_goThrough_9 : decode c_Mo_goThrough 9 = .ok (.isub, 1) := by decide +kernel
theorem d_Mo_goThrough_10 : decode c_Mo_goThrough 10 = .ok (.istore 4, 2) := by decide +kernel
theorem d_Mo_goThrough_12 : decode c_Mo_goThrough 12 = .ok (.iconst 0, 1) := by decide +kernel
theorem d_Mo_goThrough_13 : decode c_Mo_goThrough 13 = .ok (.istore 5, 2) := by decide +kernel
theorem d_Mo_goThrough_15 : decode c_Mo_goThrough 15 = .ok (.iload 5, 2) := by decide +kernel
theorem d_Mo_goThrough_17 : decode c_Mo_goThrough 17 = .ok (.bipush 6, 2) := by decide +kernel
theorem d_Mo_goThrough_19 : decode c_Mo_goThrough 19 = .ok (.if_icmp .ge 17, 3) := by decide +kernel
theorem d_Mo_goThrough_22 : decode c_Mo_goThrough 22 = .ok (.aload_n 0, 1) := by decide +kernel
theorem d_Mo_goThrough_23 : decode c_Mo_goThrough 23 = .ok (.getfield 78, 3) := by decide +kernel
theorem d_Mo_goThrough_26 : decode c_Mo_goThrough 26 = .ok (.iload 5, 2) := by decide +kernel
theorem d_Mo_goThrough_28 : decode c_Mo_goThrough 28 = .ok (.iconst 0, 1) := by decide +kernel
theorem d_Mo_goThrough_29 : decode c_Mo_goThrough 29 = .ok (.iastore, 1) := by decide +kernel
theorem d_Mo_goThrough_30 : decode c_Mo_goThrough 30 = .ok (.iinc 5 1, 3) := by decide +kernel
theorem d_Mo_goThrough_33 : decode c_Mo_goThrough 33 = .ok (.goto (-18), 3) := by decide +kernel
theorem d_Mo_goThrough_36 : decode c_Mo_goThrough 36 = .ok (.iload 4, 2) := by decide +kernel
theorem d_Mo_goThrough_38 : decode c_Mo_goThrough 38 = .ok (.ifCond .eq 42, 3) := by decide +kernel
theorem d_Mo_goThrough_41 : decode c_Mo_goThrough 41 = .ok (.aload_n 0, 1) := by decide +kernel
theorem d_Mo_goThrough_42 : decode c_Mo_goThrough 42 = .ok (.getfield 78, 3) := by decide +kernel
theorem d_Mo_goThrough_45 : decode c_Mo_goThrough 45 = .ok (.iload_n 3, 1) := by decide +kernel
theorem d_Mo_goThrough_46 : decode c_Mo_goThrough 46 = .ok (.aload_n 0, 1) := by decide +kernel
theorem d_Mo_goThrough_47 : decode c_Mo_goThrough 47 = .ok (.aload_n 0, 1) := by decide +kernel
theorem d_Mo_goThrough_48 : decode c_Mo_goThrough 48 = .ok (.getfield 51, 3) := by decide +kernel
theorem d_Mo_goThrough_51 : decode c_Mo_goThrough 51 = .ok (.iload 4, 2) := by decide +kernel
theorem d_Mo_goThrough_53 : decode c_Mo_goThrough 53 = .ok (.invokestatic 109, 3) := by decide +kernel
theorem d_Mo_goThrough_56 : decode c_Mo_goThrough 56 = .ok (.iaload, 1) := by decide +kernel
theorem d_Mo_goThrough_57 : decode c_Mo_goThrough 57 = .ok (.invokevirtual 121, 3) := by decide +kernel
theorem d_Mo_goThrough_60 : decode c_Mo_goThrough 60 = .ok (.iastore, 1) := by decide +kernel
theorem d_Mo_goThrough_61 : decode c_Mo_goThrough 61 = .ok (.iload 4, 2) := by decide +kernel
theorem d_Mo_goThrough_63 : decode c_Mo_goThrough 63 = .ok (.aload_n 0, 1) := by decide +kernel
theorem d_Mo_goThrough_64 : decode c_Mo_goThrough 64 = .ok (.getfield 78, 3) := by decide +kernel
theorem d_Mo_goThrough_67 : decode c_Mo_goThrough 67 = .ok (.iload_n 3, 1) := by decide +kernel
theorem d_Mo_goThrough_68 : decode c_Mo_goThrough 68 = .ok (.iaload, 1) := by decide +kernel
theorem d_Mo_goThrough_69 : decode c_Mo_goThrough 69 = .ok (.iconst (-1), 1) := by decide +kernel
theorem d_Mo_goThrough_70 : decode c_Mo_goThrough 70 = .ok (.ixor, 1) := by decide +kernel
theorem d_Mo_goThrough_71 : decode c_Mo_goThrough 71 = .ok (.iand, 1) := by decide +kernel
theorem d_Mo_goThrough_72 : decode c_Mo_goThrough 72 = .ok (.istore 4, 2) := by decide +kernel
theorem d_Mo_goThrough_74 : decode c_Mo_goThrough 74 = .ok (.iinc 3 1, 3) := by decide +kernel
theorem d_Mo_goThrough_77 : decode c_Mo_goThrough 77 = .ok (.goto (-41), 3) := by decide +kernel
theorem d_Mo_goThrough_80 : decode c_Mo_goThrough 80 = .ok (.aload_n 0, 1) := by decide +kernel
theorem d_Mo_goThrough_81 : decode c_Mo_goThrough 81 = .ok (.iconst 0, 1) := by decide +kernel
theorem d_Mo_goThrough_82 : decode c_Mo_goThrough 82 = .ok (.putfield 164, 3) := by decide +kernel
theorem d_Mo_goThrough_85 : decode c_Mo_goThrough 85 = .ok (.aload_n 0, 1) := by decide +kernel
theorem d_Mo_goThrough_86 : decode c_Mo_goThrough 86 = .ok (.iload_n 1, 1) := by decide +kernel
theorem d_Mo_goThrough_87 : decode c_Mo_goThrough 87 = .ok (.putfield 170, 3) := by decide +kernel
theorem d_Mo_goThrough_90 : decode c_Mo_goThrough 90 = .ok (.aload_n 0, 1) := by decide +kernel
theorem d_Mo_goThrough_91 : decode c_Mo_goThrough 91 = .ok (.iload_n 2, 1) := by decide +kernel
theorem d_Mo_goThrough_92 : decode c_Mo_goThrough 92 = .ok (.putfield 173, 3) := by decide +kernel
theorem d_Mo_goThrough_95 : decode c_Mo_goThrough 95 = .ok (.aload_n 0, 1) := by decide +kernel
theorem d_Mo_goThrough_96 : decode c_Mo_goThrough 96 = .ok (.iload_n 2, 1) := by decide +kernel
theorem d_Mo_goThrough_97 : decode c_Mo_goThrough 97 = .ok (.ifCond .lt 11, 3) := by decide +kernel
theorem d_Mo_goThrough_100 : decode c_Mo_goThrough 100 = .ok (.aload_n 0, 1) := by decide +kernel
theorem d_Mo_goThrough_101 : decode c_Mo_goThrough 101 = .ok (.iload_n 2, 1) := by decide +kernel
theorem d_Mo_goThrough_102 : decode c_Mo_goThrough 102 = .ok (.invokevirtual 150, 3) := by decide +kernel
theorem d_Mo_goThrough_105 : decode c_Mo_goThrough 105 = .ok (.goto 4, 3) := by decide +kernel
theorem d_Mo_goThrough_108 : decode c_Mo_goThrough 108 = .ok (.iconst 0, 1) := by decide +kernel
theorem d_Mo_goThrough_109 : decode c_Mo_goThrough 109 = .ok (.putfield 179, 3) := by decide +kernel
theorem d_Mo_goThrough_112 : decode c_Mo_goThrough 112 = .ok (.aload_n 0, 1) := by decide +kernel
theorem d_Mo_goThrough_113 : decode c_Mo_goThrough 113 = .ok (.iconst (-1), 1) := by decide +kernel
theorem d_Mo_goThrough_114 : decode c_Mo_goThrough 114 = .ok (.putfield 167, 3) := by decide +kernel
theorem d_Mo_goThrough_117 : decode c_Mo_goThrough 117 = .ok (.iconst 0, 1) := by decide +kernel
theorem d_Mo_goThrough_118 : decode c_Mo_goThrough 118 = .ok (.istore 5, 2) := by decide +kernel
theorem d_Mo_goThrough_120 : decode c_Mo_goThrough 120 = .ok (.iload 5, 2) := by decide +kernel
theorem d_Mo_goThrough_122 : decode c_Mo_goThrough 122 = .ok (.iconst 3, 1) := by decide +kernel
theorem d_Mo_goThrough_123 : decode c_Mo_goThrough 123 = .ok (.if_icmp .ge 17, 3) := by decide +kernel
theorem d_Mo_goThrough_126 : decode c_Mo_goThrough 126 = .ok (.aload_n 0, 1) := by decide +kernel
theorem d_Mo_goThrough_127 : decode c_Mo_goThrough 127 = .ok (.getfield 81, 3) := by decide +kernel
theorem d_Mo_goThrough_130 : decode c_Mo_goThrough 130 = .ok (.iload 5, 2) := by decide +kernel
theorem d_Mo_goThrough_132 : decode c_Mo_goThrough 132 = .ok (.iconst 0, 1) := by decide +kernel
theorem d_Mo_goThrough_133 : decode c_Mo_goThrough 133 = .ok (.iastore, 1) := by decide +kernel
theorem d_Mo_goThrough_134 : decode c_Mo_goThrough 134 = .ok (.iinc 5 1, 3) := by decide +kernel
theorem d_Mo_goThrough_137 : decode c_Mo_goThrough 137 = .ok (.goto (-17), 3) := by decide +kernel
theorem d_Mo_goThrough_140 : decode c_Mo_goThrough 140 = .ok (.iconst 0, 1) := by decide +kernel
theorem d_Mo_goThrough_141 : decode c_Mo_goThrough 141 = .ok (.istore 5, 2) := by decide +kernel
theorem d_Mo_goThrough_143 : decode c_Mo_goThrough 143 = .ok (.iload 5, 2) := by decide +kernel
theorem d_Mo_goThrough_145 : decode c_Mo_goThrough 145 = .ok (.aload_n 0, 1) := by decide +kernel
theorem d_Mo_goThrough_146 : decode c_Mo_goThrough 146 = .ok (.getfield 91, 3) := by decide +kernel
theorem d_Mo_goThrough_149 : decode c_Mo_goThrough 149 = .ok (.if_icmp .ge 23, 3) := by decide +kernel
theorem d_Mo_goThrough_152 : decode c_Mo_goThrough 152 = .ok (.aload_n 0, 1) := by decide +kernel
theorem d_Mo_goThrough_153 : decode c_Mo_goThrough 153 = .ok (.getfield 66, 3) := by decide +kernel
theorem d_Mo_goThrough_156 : decode c_Mo_goThrough 156 = .ok (.iload 5, 2) := by decide +kernel
theorem d_Mo_goThrough_158 : decode c_Mo_goThrough 158 = .ok (.aload_n 0, 1) := by decide +kernel
theorem d_Mo_goThrough_159 : decode c_Mo_goThrough 159 = .ok (.getfield 51, 3) := by decide +kernel
theorem d_Mo_goThrough_162 : decode c_Mo_goThrough 162 = .ok (.iload 5, 2) := by decide +kernel
theorem d_Mo_goThrough_164 : decode c_Mo_goThrough 164 = .ok (.iaload, 1) := by decide +kernel
theorem d_Mo_goThrough_165 : decode c_Mo_goThrough 165 = .ok (.iastore, 1) := by decide +kernel
theorem d_Mo_goThrough_166 : decode c_Mo_goThrough 166 = .ok (.iinc 5 1, 3) := by decide +kernel
theorem d_Mo_goThrough_169 : decode c_Mo_goThrough 169 = .ok (.goto (-26), 3) := by decide +kernel
theorem d_Mo_goThrough_172 : decode c_Mo_goThrough 172 = .ok (.aload_n 0, 1) := by decide +kernel
theorem d_Mo_goThrough_173 : decode c_Mo_goThrough 173 = .ok (.iconst 0, 1) := by decide +kernel
theorem d_Mo_goThrough_174 : decode c_Mo_goThrough 174 = .ok (.iconst 1, 1) := by decide +kernel
theorem d_Mo_goThrough_175 : decode c_Mo_goThrough 175 = .ok (.aload_n 0, 1) := by decide +kernel
theorem d_Mo_goThrough_176 : decode c_Mo_goThrough 176 = .ok (.getfield 91, 3) := by decide +kernel
theorem d_Mo_goThrough_179 : decode c_Mo_goThrough 179 = .ok (.ishl, 1) := by decide +kernel
theorem d_Mo_goThrough_180 : decode c_Mo_goThrough 180 = .ok (.iconst 1, 1) := by decide +kernel
theorem d_Mo_goThrough_181 : decode c_Mo_goThrough 181 = .ok (.isub, 1) := by decide +kernel
theorem d_Mo_goThrough_182 : decode c_Mo_goThrough 182 = .ok (.invokevirtual 160, 3) := by decide +kernel
theorem d_Mo_goThrough_185 : decode c_Mo_goThrough 185 = .ok (.iconst 0, 1) := by decide +kernel
theorem d_Mo_goThrough_186 : decode c_Mo_goThrough 186 = .ok (.istore 5, 2) := by decide +kernel
theorem d_Mo_goThrough_188 : decode c_Mo_goThrough 188 = .ok (.iload 5, 2) := by decide +kernel
theorem d_Mo_goThrough_190 : decode c_Mo_goThrough 190 = .ok (.aload_n 0, 1) := by decide +kernel
theorem d_Mo_goThrough_191 : decode c_Mo_goThrough 191 = .ok (.getfield 91, 3) := by decide +kernel
theorem d_Mo_goThrough_194 : decode c_Mo_goThrough 194 = .ok (.if_icmp .ge 23, 3) := by decide +kernel
theorem d_Mo_goThrough_197 : decode c_Mo_goThrough 197 = .ok (.aload_n 0, 1) := by decide +kernel
theorem d_Mo_goThrough_198 : decode c_Mo_goThrough 198 = .ok (.getfield 51, 3) := by decide +kernel
theorem d_Mo_goThrough_201 : decode c_Mo_goThrough 201 = .ok (.iload 5, 2) := by decide +kernel
theorem d_Mo_goThrough_203 : decode c_Mo_goThrough 203 = .ok (.aload_n 0, 1) := by decide +kernel
theorem d_Mo_goThrough_204 : decode c_Mo_goThrough 204 = .ok (.getfield 66, 3) := by decide +kernel
theorem d_Mo_goThrough_207 : decode c_Mo_goThrough 207 = .ok (.iload 5, 2) := by decide +kernel
theorem d_Mo_goThrough_209 : decode c_Mo_goThrough 209 = .ok (.iaload, 1) := by decide +kernel
theorem d_Mo_goThrough_210 : decode c_Mo_goThrough 210 = .ok (.iastore, 1) := by decide +kernel
theorem d_Mo_goThrough_211 : decode c_Mo_goThrough 211 = .ok (.iinc 5 1, 3) := by decide +kernel
theorem d_Mo_goThrough_214 : decode c_Mo_goThrough 214 = .ok (.goto (-26), 3) := by decide +kernel
theorem d_Mo_goThrough_217 : decode c_Mo_goThrough 217 = .ok (.return_, 1) := by decide +kernel
theorem d_Mo_size_0 : decode c_Mo_size 0 = .ok (.aload_n 0, 1) := by decide +kernel
theorem d_Mo_size_1 : decode c_Mo_size 1 = .ok (.getfield 91, 3) := by decide +kernel
theorem d_Mo_size_4 : decode c_Mo_size 4 = .ok (.bipush 12, 2) := by decide +kernel
theorem d_Mo_size_6 : decode c_Mo_size 6 = .ok (.if_icmp .le 8, 3) := by decide +kernel
theorem d_Mo_size_9 : decode c_Mo_size 9 = .ok (.bipush (-4), 2) := by decide +kernel
theorem d_Mo_size_11 : decode c_Mo_size 11 = .ok (.goto 16, 3) := by decide +kernel
theorem d_Mo_size_14 : decode c_Mo_size 14 = .ok (.aload_n 0, 1) := by decide +kernel
theorem d_Mo_size_15 : decode c_Mo_size 15 = .ok (.getfield 91, 3) := by decide +kernel
theorem d_Mo_size_18 : decode c_Mo_size 18 = .ok (.ifCond .ne 8, 3) := by decide +kernel
theorem d_Mo_size_21 : decode c_Mo_size 21 = .ok (.bipush (-5), 2) := by decide +kernel
theorem d_Mo_size_23 : decode c_Mo_size 23 = .ok (.goto 4, 3) := by decide +kernel
theorem d_Mo_size_26 : decode c_Mo_size 26 = .ok (.iconst 0, 1) := by decide +kernel
theorem d_Mo_size_27 : decode c_Mo_size 27 = .ok (.ireturn, 1) := by decide +kernel
theorem d_Mo_count_0 : decode c_Mo_count 0 = .ok (.aload_n 0, 1) := by decide +kernel
theorem d_Mo_count_1 : decode c_Mo_count 1 = .ok (.invokevirtual 182, 3) := by decide +kernel
theorem d_Mo_count_4 : decode c_Mo_count 4 = .ok (.ifCond .eq 8, 3) := by decide +kernel
theorem d_Mo_count_7 : decode c_Mo_count 7 = .ok (.aload_n 0, 1) := by decide +kernel
theorem d_Mo_count_8 : decode c_Mo_count 8 = .ok (.invokevirtual 182, 3) := by decide +kernel
theorem d_Mo_count_11 : decode c_Mo_count 11 = .ok (.ireturn, 1) := by decide +kernel
theorem d_Mo_count_12 : decode c_Mo_count 12 = .ok (.aload_n 0, 1) := by decide +kernel
theorem d_Mo_count_13 : decode c_Mo_count 13 = .ok (.iconst (-1), 1) := by decide +kernel
theorem d_Mo_count_14 : decode c_Mo_count 14 = .ok (.iconst (-1), 1) := by decide +kernel
theorem d_Mo_count_15 : decode c_Mo_count 15 = .ok (.invokevirtual 185, 3) := by decide +kernel
theorem d_Mo_count_18 : decode c_Mo_count 18 = .ok (.aload_n 0, 1) := by decide +kernel
theorem d_Mo_count_19 : decode c_Mo_count 19 = .ok (.getfield 164, 3) := by decide +kernel
theorem d_Mo_count_22 : decode c_Mo_count 22 = .ok (.ireturn, 1) := by decide +kernel
theorem d_Mo_isClass_0 : decode c_Mo_isClass 0 = .ok (.aload_n 0, 1) := by decide +kernel
theorem d_Mo_isClass_1 : decode c_Mo_isClass 1 = .ok (.iload_n 1, 1) := by decide +kernel
theorem d_Mo_isClass_2 : decode c_Mo_isClass 2 = .ok (.iconst (-1), 1) := by decide +kernel
theorem d_Mo_isClass_3 : decode c_Mo_isClass 3 = .ok (.invokevirtual 185, 3) := by decide +kernel
theorem d_Mo_isClass_6 : decode c_Mo_isClass 6 = .ok (.iload_n 1, 1) := by decide +kernel
theorem d_Mo_isClass_7 : decode c_Mo_isClass 7 = .ok (.ifCond .lt 15, 3) := by decide +kernel
theorem d_Mo_isClass_10 : decode c_Mo_isClass 10 = .ok (.iload_n 1, 1) := by decide +kernel
theorem d_Mo_isClass_11 : decode c_Mo_isClass 11 = .ok (.aload_n 0, 1) := by decide +kernel
theorem d_Mo_isClass_12 : decode c_Mo_isClass 12 = .ok (.getfield 164, 3) := by decide +kernel
theorem d_Mo_isClass_15 : decode c_Mo_isClass 15 = .ok (.if_icmp .ge 7, 3) := by decide +kernel
theorem d_Mo_isClass_18 : decode c_Mo_isClass 18 = .ok (.iconst 1, 1) := by decide +kernel
theorem d_Mo_isClass_19 : decode c_Mo_isClass 19 = .ok (.goto 4, 3) := by decide +kernel
theorem d_Mo_isClass_22 : decode c_Mo_isClass 22 = .ok (.iconst 0, 1) := by decide +kernel
theorem d_Mo_isClass_23 : decode c_Mo_isClass 23 = .ok (.ireturn, 1) := by decide +kernel
theorem d_Mo_kth_0 : decode c_Mo_kth 0 = .ok (.aload_n 0, 1) := by decide +kernel
theorem d_Mo_kth_1 : decode c_Mo_kth 1 = .ok (.invokevirtual 182, 3) := by decide +kernel
theorem d_Mo_kth_4 : decode c_Mo_kth 4 = .ok (.ifCond .eq 8, 3) := by decide +kernel
theorem d_Mo_kth_7 : decode c_Mo_kth 7 = .ok (.aload_n 0, 1) := by decide +kernel
theorem d_Mo_kth_8 : decode c_Mo_kth 8 = .ok (.invokevirtual 182, 3) := by decide +kernel
theorem d_Mo_kth_11 : decode c_Mo_kth 11 = .ok (.ireturn, 1) := by decide +kernel
theorem d_Mo_kth_12 : decode c_Mo_kth 12 = .ok (.aload_n 0, 1) := by decide +kernel
theorem d_Mo_kth_13 : decode c_Mo_kth 13 = .ok (.iload_n 1, 1) := by decide +kernel
theorem d_Mo_kth_14 : decode c_Mo_kth 14 = .ok (.invokevirtual 188, 3) := by decide +kernel
theorem d_Mo_kth_17 : decode c_Mo_kth 17 = .ok (.ifCond .ne 5, 3) := by decide +kernel
theorem d_Mo_kth_20 : decode c_Mo_kth 20 = .ok (.iconst (-1), 1) := by decide +kernel
theorem d_Mo_kth_21 : decode c_Mo_kth 21 = .ok (.ireturn, 1) := by decide +kernel
theorem d_Mo_kth_22 : decode c_Mo_kth 22 = .ok (.iconst 0, 1) := by decide +kernel
theorem d_Mo_kth_23 : decode c_Mo_kth 23 = .ok (.istore_n 2, 1) := by decide +kernel
theorem d_Mo_kth_24 : decode c_Mo_kth 24 = .ok (.iload_n 2, 1) := by decide +kernel
theorem d_Mo_kth_25 : decode c_Mo_kth 25 = .ok (.aload_n 0, 1) := by decide +kernel
theorem d_Mo_kth_26 : decode c_Mo_kth 26 = .ok (.getfield 34, 3) := by decide +kernel
theorem d_Mo_kth_29 : decode c_Mo_kth 29 = .ok (.if_icmp .ge 54, 3) := by decide +kernel
theorem d_Mo_kth_32 : decode c_Mo_kth 32 = .ok (.iconst 0, 1) := by decide +kernel
theorem d_Mo_kth_33 : decode c_Mo_kth 33 = .ok (.istore_n 3, 1) := by decide +kernel
theorem d_Mo_kth_34 : decode c_Mo_kth 34 = .ok (.iload_n 3, 1) := by decide +kernel
theorem d_Mo_kth_35 : decode c_Mo_kth 35 = .ok (.aload_n 0, 1) := by decide +kernel
theorem d_Mo_kth_36 : decode c_Mo_kth 36 = .ok (.getfield 91, 3) := by decide +kernel
theorem d_Mo_kth_39 : decode c_Mo_kth 39 = .ok (.if_icmp .ge 38, 3) := by decide +kernel
theorem d_Mo_kth_42 : decode c_Mo_kth 42 = .ok (.aload_n 0, 1) := by decide +kernel
theorem d_Mo_kth_43 : decode c_Mo_kth 43 = .ok (.getfield 51, 3) := by decide +kernel
theorem d_Mo_kth_46 : decode c_Mo_kth 46 = .ok (.iload_n 3, 1) := by decide +kernel
theorem d_Mo_kth_47 : decode c_Mo_kth 47 = .ok (.aload_n 0, 1) := by decide +kernel
theorem d_Mo_kth_48 : decode c_Mo_kth 48 = .ok (.getfield 84, 3) := by decide +kernel
theorem d_Mo_kth_51 : decode c_Mo_kth 51 = .ok (.iload_n 2, 1) := by decide +kernel
theorem d_Mo_kth_52 : decode c_Mo_kth 52 = .ok (.iaload, 1) := by decide +kernel
theorem d_Mo_kth_53 : decode c_Mo_kth 53 = .ok (.iload_n 3, 1) := by decide +kernel
theorem d_Mo_kth_54 : decode c_Mo_kth 54 = .ok (.invokestatic 98, 3) := by decide +kernel
theorem d_Mo_kth_57 : decode c_Mo_kth 57 = .ok (.ifCond .eq 7, 3) := by decide +kernel
theorem d_Mo_kth_60 : decode c_Mo_kth 60 = .ok (.iload_n 2, 1) := by decide +kernel
theorem d_Mo_kth_61 : decode c_Mo_kth 61 = .ok (.goto 9, 3) := by decide +kernel
theorem d_Mo_kth_64 : decode c_Mo_kth 64 = .ok (.aload_n 0, 1) := by decide +kernel
theorem d_Mo_kth_65 : decode c_Mo_kth 65 = .ok (.getfield 51, 3) := by decide +kernel
theorem d_Mo_kth_68 : decode c_Mo_kth 68 = .ok (.iload_n 3, 1) := by decide +kernel
theorem d_Mo_kth_69 : decode c_Mo_kth 69 = .ok (.iaload, 1) := by decide +kernel
theorem d_Mo_kth_70 : decode c_Mo_kth 70 = .ok (.iastore, 1) := by decide +kernel
theorem d_Mo_kth_71 : decode c_Mo_kth 71 = .ok (.iinc 3 1, 3) := by decide +kernel
theorem d_Mo_kth_74 : decode c_Mo_kth 74 = .ok (.goto (-40), 3) := by decide +kernel
theorem d_Mo_kth_77 : decode c_Mo_kth 77 = .ok (.iinc 2 1, 3) := by decide +kernel
theorem d_Mo_kth_80 : decode c_Mo_kth 80 = .ok (.goto (-56), 3) := by decide +kernel
theorem d_Mo_kth_83 : decode c_Mo_kth 83 = .ok (.iconst 1, 1) := by decide +kernel
theorem d_Mo_kth_84 : decode c_Mo_kth 84 = .ok (.ireturn, 1) := by decide +kernel
theorem d_Mo_which_0 : decode c_Mo_which 0 = .ok (.aload_n 0, 1) := by decide +kernel
theorem d_Mo_which_1 : decode c_Mo_which 1 = .ok (.invokevirtual 182, 3) := by decide +kernel
theorem d_Mo_which_4 : decode c_Mo_which 4 = .ok (.ifCond .eq 8, 3) := by decide +kernel
theorem d_Mo_which_7 : decode c_Mo_which 7 = .ok (.aload_n 0, 1) := by decide +kernel
theorem d_Mo_which_8 : decode c_Mo_which 8 = .ok (.invokevirtual 182, 3) := by decide +kernel
theorem d_Mo_which_11 : decode c_Mo_which 11 = .ok (.ireturn, 1) := by decide +kernel
theorem d_Mo_which_12 : decode c_Mo_which 12 = .ok (.aload_n 0, 1) := by decide +kernel
theorem d_Mo_which_13 : decode c_Mo_which 13 = .ok (.iconst (-1), 1) := by decide +kernel
theorem d_Mo_which_14 : decode c_Mo_which 14 = .ok (.iconst (-1), 1) := by decide +kernel
theorem d_Mo_which_15 : decode c_Mo_which 15 = .ok (.invokevirtual 185, 3) := by decide +kernel
theorem d_Mo_which_18 : decode c_Mo_which 18 = .ok (.aload_n 0, 1) := by decide +kernel
theorem d_Mo_which_19 : decode c_Mo_which 19 = .ok (.getfield 167, 3) := by decide +kernel
theorem d_Mo_which_22 : decode c_Mo_which 22 = .ok (.ireturn, 1) := by decide +kernel
theorem d_Mo_same_0 : decode c_Mo_same 0 = .ok (.aload_n 0, 1) := by decide +kernel
theorem d_Mo_same_1 : decode c_Mo_same 1 = .ok (.invokevirtual 182, 3) := by decide +kernel
theorem d_Mo_same_4 : decode c_Mo_same 4 = .ok (.ifCond .eq 8, 3) := by decide +kernel
theorem d_Mo_same_7 : decode c_Mo_same 7 = .ok (.aload_n 0, 1) := by decide +kernel
theorem d_Mo_same_8 : decode c_Mo_same 8 = .ok (.invokevirtual 182, 3) := by decide +kernel
theorem d_Mo_same_11 : decode c_Mo_same 11 = .ok (.ireturn, 1) := by decide +kernel
theorem d_Mo_same_12 : decode c_Mo_same 12 = .ok (.aload_n 0, 1) := by decide +kernel
theorem d_Mo_same_13 : decode c_Mo_same 13 = .ok (.iload_n 1, 1) := by decide +kernel
theorem d_Mo_same_14 : decode c_Mo_same 14 = .ok (.invokevirtual 188, 3) := by decide +kernel
theorem d_Mo_same_17 : decode c_Mo_same 17 = .ok (.ifCond .ne 5, 3) := by decide +kernel
theorem d_Mo_same_20 : decode c_Mo_same 20 = .ok (.iconst (-1), 1) := by decide +kernel
theorem d_Mo_same_21 : decode c_Mo_same 21 = .ok (.ireturn, 1) := by decide +kernel
theorem d_Mo_same_22 : decode c_Mo_same 22 = .ok (.aload_n 0, 1) := by decide +kernel
theorem d_Mo_same_23 : decode c_Mo_same 23 = .ok (.getfield 167, 3) := by decide +kernel
theorem d_Mo_same_26 : decode c_Mo_same 26 = .ok (.iload_n 1, 1) := by decide +kernel
theorem d_Mo_same_27 : decode c_Mo_same 27 = .ok (.if_icmp .ne 7, 3) := by decide +kernel
theorem d_Mo_same_30 : decode c_Mo_same 30 = .ok (.iconst 1, 1) := by decide +kernel
theorem d_Mo_same_31 : decode c_Mo_same 31 = .ok (.goto 4, 3) := by decide +kernel
theorem d_Mo_same_34 : decode c_Mo_same 34 = .ok (.iconst 0, 1) := by decide +kernel
theorem d_Mo_same_35 : decode c_Mo_same 35 = .ok (.ireturn, 1) := by decide +kernel
theorem d_Mo_least_0 : decode c_Mo_least 0 = .ok (.iload_n 1, 1) := by decide +kernel
theorem d_Mo_least_1 : decode c_Mo_least 1 = .ok (.iconst 0, 1) := by decide +kernel
theorem d_Mo_least_2 : decode c_Mo_least 2 = .ok (.bipush 6, 2) := by decide +kernel
theorem d_Mo_least_4 : decode c_Mo_least 4 = .ok (.invokestatic 87, 3) := by decide +kernel
theorem d_Mo_least_7 : decode c_Mo_least 7 = .ok (.ifCond .ne 5, 3) := by decide +kernel
theorem d_Mo_least_10 : decode c_Mo_least 10 = .ok (.iconst (-1), 1) := by decide +kernel
theorem d_Mo_least_11 : decode c_Mo_least 11 = .ok (.ireturn, 1) := by decide +kernel
theorem d_Mo_least_12 : decode c_Mo_least 12 = .ok (.aload_n 0, 1) := by decide +kernel
theorem d_Mo_least_13 : decode c_Mo_least 13 = .ok (.invokevirtual 182, 3) := by decide +kernel
theorem d_Mo_least_16 : decode c_Mo_least 16 = .ok (.ifCond .eq 8, 3) := by decide +kernel
theorem d_Mo_least_19 : decode c_Mo_least 19 = .ok (.aload_n 0, 1) := by decide +kernel
theorem d_Mo_least_20 : decode c_Mo_least 20 = .ok (.invokevirtual 182, 3) := by decide +kernel
theorem d_Mo_least_23 : decode c_Mo_least 23 = .ok (.ireturn, 1) := by decide +kernel
theorem d_Mo_least_24 : decode c_Mo_least 24 = .ok (.aload_n 0, 1) := by decide +kernel
theorem d_Mo_least_25 : decode c_Mo_least 25 = .ok (.iconst (-1), 1) := by decide +kernel
theorem d_Mo_least_26 : decode c_Mo_least 26 = .ok (.iload_n 1, 1) := by decide +kernel
theorem d_Mo_least_27 : decode c_Mo_least 27 = .ok (.invokevirtual 185, 3) := by decide +kernel
theorem d_Mo_least_30 : decode c_Mo_least 30 = .ok (.aload_n 0, 1) := by decide +kernel
theorem d_Mo_least_31 : decode c_Mo_least 31 = .ok (.getfield 164, 3) := by decide +kernel
theorem d_Mo_least_34 : decode c_Mo_least 34 = .ok (.sipush 20000, 3) := by decide +kernel
theorem d_Mo_least_37 : decode c_Mo_least 37 = .ok (.if_icmp .le 8, 3) := by decide +kernel
theorem d_Mo_least_40 : decode c_Mo_least 40 = .ok (.bipush (-4), 2) := by decide +kernel
theorem d_Mo_least_42 : decode c_Mo_least 42 = .ok (.goto 19, 3) := by decide +kernel
theorem d_Mo_least_45 : decode c_Mo_least 45 = .ok (.aload_n 0, 1) := by decide +kernel
theorem d_Mo_least_46 : decode c_Mo_least 46 = .ok (.getfield 164, 3) := by decide +kernel
theorem d_Mo_least_49 : decode c_Mo_least 49 = .ok (.ifCond .ne 8, 3) := by decide +kernel
theorem d_Mo_least_52 : decode c_Mo_least 52 = .ok (.ldc 191, 2) := by decide +kernel
theorem d_Mo_least_54 : decode c_Mo_least 54 = .ok (.goto 7, 3) := by decide +kernel
theorem d_Mo_least_57 : decode c_Mo_least 57 = .ok (.aload_n 0, 1) := by decide +kernel
theorem d_Mo_least_58 : decode c_Mo_least 58 = .ok (.getfield 176, 3) := by decide +kernel
theorem d_Mo_least_61 : decode c_Mo_least 61 = .ok (.ireturn, 1) := by decide +kernel
theorem d_Mo_among_0 : decode c_Mo_among 0 = .ok (.iload_n 1, 1) := by decide +kernel
theorem d_Mo_among_1 : decode c_Mo_among 1 = .ok (.iconst 0, 1) := by decide +kernel
theorem d_Mo_among_2 : decode c_Mo_among 2 = .ok (.bipush 6, 2) := by decide +kernel
theorem d_Mo_among_4 : decode c_Mo_among 4 = .ok (.invokestatic 87, 3) := by decide +kernel
theorem d_Mo_among_7 : decode c_Mo_among 7 = .ok (.ifCond .eq 12, 3) := by decide +kernel
theorem d_Mo_among_10 : decode c_Mo_among 10 = .ok (.iload_n 2, 1) := by decide +kernel
theorem d_Mo_among_11 : decode c_Mo_among 11 = .ok (.iconst 0, 1) := by decide +kernel
theorem d_Mo_among_12 : decode c_Mo_among 12 = .ok (.iconst 2, 1) := by decide +kernel
theorem d_Mo_among_13 : decode c_Mo_among 13 = .ok (.invokestatic 87, 3) := by decide +kernel
theorem d_Mo_among_16 : decode c_Mo_among 16 = .ok (.ifCond .ne 5, 3) := by decide +kernel
theorem d_Mo_among_19 : decode c_Mo_among 19 = .ok (.iconst (-1), 1) := by decide +kernel
theorem d_Mo_among_20 : decode c_Mo_among 20 = .ok (.ireturn, 1) := by decide +kernel
theorem d_Mo_among_21 : decode c_Mo_among 21 = .ok (.aload_n 0, 1) := by decide +kernel
theorem d_Mo_among_22 : decode c_Mo_among 22 = .ok (.invokevirtual 182, 3) := by decide +kernel
theorem d_Mo_among_25 : decode c_Mo_among 25 = .ok (.ifCond .eq 8, 3) := by decide +kernel
theorem d_Mo_among_28 : decode c_Mo_among 28 = .ok (.aload_n 0, 1) := by decide +kernel
theorem d_Mo_among_29 : decode c_Mo_among 29 = .ok (.invokevirtual 182, 3) := by decide +kernel
theorem d_Mo_among_32 : decode c_Mo_among 32 = .ok (.ireturn, 1) := by decide +kernel
theorem d_Mo_among_33 : decode c_Mo_among 33 = .ok (.aload_n 0, 1) := by decide +kernel
theorem d_Mo_among_34 : decode c_Mo_among 34 = .ok (.iconst (-1), 1) := by decide +kernel
theorem d_Mo_among_35 : decode c_Mo_among 35 = .ok (.iload_n 1, 1) := by decide +kernel
theorem d_Mo_among_36 : decode c_Mo_among 36 = .ok (.invokevirtual 185, 3) := by decide +kernel
theorem d_Mo_among_39 : decode c_Mo_among 39 = .ok (.aload_n 0, 1) := by decide +kernel
theorem d_Mo_among_40 : decode c_Mo_among 40 = .ok (.getfield 164, 3) := by decide +kernel
theorem d_Mo_among_43 : decode c_Mo_among 43 = .ok (.sipush 20000, 3) := by decide +kernel
theorem d_Mo_among_46 : decode c_Mo_among 46 = .ok (.if_icmp .le 8, 3) := by decide +kernel
theorem d_Mo_among_49 : decode c_Mo_among 49 = .ok (.bipush (-4), 2) := by decide +kernel
theorem d_Mo_among_51 : decode c_Mo_among 51 = .ok (.goto 9, 3) := by decide +kernel
theorem d_Mo_among_54 : decode c_Mo_among 54 = .ok (.aload_n 0, 1) := by decide +kernel
theorem d_Mo_among_55 : decode c_Mo_among 55 = .ok (.getfield 81, 3) := by decide +kernel
theorem d_Mo_among_58 : decode c_Mo_among 58 = .ok (.iload_n 2, 1) := by decide +kernel
theorem d_Mo_among_59 : decode c_Mo_among 59 = .ok (.iaload, 1) := by decide +kernel
theorem d_Mo_among_60 : decode c_Mo_among 60 = .ok (.ireturn, 1) := by decide +kernel
theorem d_Mo_draw_0 : decode c_Mo_draw 0 = .ok (.aload_n 0, 1) := by decide +kernel
theorem d_Mo_draw_1 : decode c_Mo_draw 1 = .ok (.aload_n 0, 1) := by decide +kernel
theorem d_Mo_draw_2 : decode c_Mo_draw 2 = .ok (.getfield 192, 3) := by decide +kernel
theorem d_Mo_draw_5 : decode c_Mo_draw 5 = .ok (.ldc 195, 2) := by decide +kernel
theorem d_Mo_draw_7 : decode c_Mo_draw 7 = .ok (.imul, 1) := by decide +kernel
theorem d_Mo_draw_8 : decode c_Mo_draw 8 = .ok (.sipush 12345, 3) := by decide +kernel
theorem d_Mo_draw_11 : decode c_Mo_draw 11 = .ok (.iadd, 1) := by decide +kernel
theorem d_Mo_draw_12 : decode c_Mo_draw 12 = .ok (.putfield 192, 3) := by decide +kernel
theorem d_Mo_draw_15 : decode c_Mo_draw 15 = .ok (.aload_n 0, 1) := by decide +kernel
theorem d_Mo_draw_16 : decode c_Mo_draw 16 = .ok (.getfield 192, 3) := by decide +kernel
theorem d_Mo_draw_19 : decode c_Mo_draw 19 = .ok (.bipush 16, 2) := by decide +kernel
theorem d_Mo_draw_21 : decode c_Mo_draw 21 = .ok (.iushr, 1) := by decide +kernel
theorem d_Mo_draw_22 : decode c_Mo_draw 22 = .ok (.ireturn, 1) := by decide +kernel
theorem d_Mo_between_0 : decode c_Mo_between 0 = .ok (.iconst 0, 1) := by decide +kernel
theorem d_Mo_between_1 : decode c_Mo_between 1 = .ok (.istore_n 2, 1) := by decide +kernel
theorem d_Mo_between_2 : decode c_Mo_between 2 = .ok (.iconst 0, 1) := by decide +kernel
theorem d_Mo_between_3 : decode c_Mo_between 3 = .ok (.istore_n 3, 1) := by decide +kernel
theorem d_Mo_between_4 : decode c_Mo_between 4 = .ok (.iload_n 3, 1) := by decide +kernel
theorem d_Mo_between_5 : decode c_Mo_between 5 = .ok (.aload_n 0, 1) := by decide +kernel
theorem d_Mo_between_6 : decode c_Mo_between 6 = .ok (.getfield 102, 3) := by decide +kernel
theorem d_Mo_between_9 : decode c_Mo_between 9 = .ok (.if_icmp .ge 44, 3) := by decide +kernel
theorem d_Mo_between_12 : decode c_Mo_between 12 = .ok (.aload_n 0, 1) := by decide +kernel
theorem d_Mo_between_13 : decode c_Mo_between 13 = .ok (.getfield 51, 3) := by decide +kernel
theorem d_Mo_between_16 : decode c_Mo_between 16 = .ok (.aload_n 0, 1) := by decide +kernel
theorem d_Mo_between_17 : decode c_Mo_between 17 = .ok (.getfield 22, 3) := by decide +kernel
theorem d_Mo_between_20 : decode c_Mo_between 20 = .ok (.iload_n 3, 1) := by decide +kernel
theorem d_Mo_between_21 : decode c_Mo_between 21 = .ok (.iaload, 1) := by decide +kernel
theorem d_Mo_between_22 : decode c_Mo_between 22 = .ok (.iaload, 1) := by decide +kernel
theorem d_Mo_between_23 : decode c_Mo_between 23 = .ok (.aload_n 0, 1) := by decide +kernel
theorem d_Mo_between_24 : decode c_Mo_between 24 = .ok (.getfield 51, 3) := by decide +kernel
theorem d_Mo_between_27 : decode c_Mo_between 27 = .ok (.aload_n 0, 1) := by decide +kernel
theorem d_Mo_between_28 : decode c_Mo_between 28 = .ok (.getfield 25, 3) := by decide +kernel
theorem d_Mo_between_31 : decode c_Mo_between 31 = .ok (.iload_n 3, 1) := by decide +kernel
theorem d_Mo_between_32 : decode c_Mo_between 32 = .ok (.iaload, 1) := by decide +kernel
theorem d_Mo_between_33 : decode c_Mo_between 33 = .ok (.iaload, 1) := by decide +kernel
theorem d_Mo_between_34 : decode c_Mo_between 34 = .ok (.if_icmp .eq 13, 3) := by decide +kernel
theorem d_Mo_between_37 : decode c_Mo_between 37 = .ok (.iload_n 2, 1) := by decide +kernel
theorem d_Mo_between_38 : decode c_Mo_between 38 = .ok (.iload_n 1, 1) := by decide +kernel
theorem d_Mo_between_39 : decode c_Mo_between 39 = .ok (.if_icmp .ne 5, 3) := by decide +kernel
theorem d_Mo_between_42 : decode c_Mo_between 42 = .ok (.iload_n 3, 1) := by decide +kernel
theorem d_Mo_between_43 : decode c_Mo_between 43 = .ok (.ireturn, 1) := by decide +kernel
theorem d_Mo_between_44 : decode c_Mo_between 44 = .ok (.iinc 2 1, 3) := by decide +kernel
theorem d_Mo_between_47 : decode c_Mo_between 47 = .ok (.iinc 3 1, 3) := by decide +kernel
theorem d_Mo_between_50 : decode c_Mo_between 50 = .ok (.goto (-46), 3) := by decide +kernel
theorem d_Mo_between_53 : decode c_Mo_between 53 = .ok (.aload_n 0, 1) := by decide +kernel
theorem d_Mo_between_54 : decode c_Mo_between 54 = .ok (.iload_n 2, 1) := by decide +kernel
theorem d_Mo_between_55 : decode c_Mo_between 55 = .ok (.putfield 164, 3) := by decide +kernel
theorem d_Mo_between_58 : decode c_Mo_between 58 = .ok (.iconst (-1), 1) := by decide +kernel
theorem d_Mo_between_59 : decode c_Mo_between 59 = .ok (.ireturn, 1) := by decide +kernel
theorem d_Mo_sideOf_0 : decode c_Mo_sideOf 0 = .ok (.iconst 1, 1) := by decide +kernel
theorem d_Mo_sideOf_1 : decode c_Mo_sideOf 1 = .ok (.iload_n 3, 1) := by decide +kernel
theorem d_Mo_sideOf_2 : decode c_Mo_sideOf 2 = .ok (.ishl, 1) := by decide +kernel
theorem d_Mo_sideOf_3 : decode c_Mo_sideOf 3 = .ok (.istore 4, 2) := by decide +kernel
theorem d_Mo_sideOf_5 : decode c_Mo_sideOf 5 = .ok (.iconst 1, 1) := by decide +kernel
theorem d_Mo_sideOf_6 : decode c_Mo_sideOf 6 = .ok (.istore 5, 2) := by decide +kernel
theorem d_Mo_sideOf_8 : decode c_Mo_sideOf 8 = .ok (.iload 5, 2) := by decide +kernel
theorem d_Mo_sideOf_10 : decode c_Mo_sideOf 10 = .ok (.ifCond .eq 93, 3) := by decide +kernel
theorem d_Mo_sideOf_13 : decode c_Mo_sideOf 13 = .ok (.iconst 0, 1) := by decide +kernel
theorem d_Mo_sideOf_14 : decode c_Mo_sideOf 14 = .ok (.istore 5, 2) := by decide +kernel
theorem d_Mo_sideOf_16 : decode c_Mo_sideOf 16 = .ok (.iconst 0, 1) := by decide +kernel
theorem d_Mo_sideOf_17 : decode c_Mo_sideOf 17 = .ok (.istore 6, 2) := by decide +kernel
theorem d_Mo_sideOf_19 : decode c_Mo_sideOf 19 = .ok (.iload 6, 2) := by decide +kernel
theorem d_Mo_sideOf_21 : decode c_Mo_sideOf 21 = .ok (.iload_n 1, 1) := by decide +kernel
theorem d_Mo_sideOf_22 : decode c_Mo_sideOf 22 = .ok (.if_icmp .ge 78, 3) := by decide +kernel
theorem d_Mo_sideOf_25 : decode c_Mo_sideOf 25 = .ok (.aload_n 0, 1) := by decide +kernel
theorem d_Mo_sideOf_26 : decode c_Mo_sideOf 26 = .ok (.getfield 57, 3) := by decide +kernel
theorem d_Mo_sideOf_29 : decode c_Mo_sideOf 29 = .ok (.iload 6, 2) := by decide +kernel
theorem d_Mo_sideOf_31 : decode c_Mo_sideOf 31 = .ok (.iaload, 1) := by decide +kernel
theorem d_Mo_sideOf_32 : decode c_Mo_sideOf 32 = .ok (.istore 7, 2) := by decide +kernel
theorem d_Mo_sideOf_34 : decode c_Mo_sideOf 34 = .ok (.iload 6, 2) := by decide +kernel
theorem d_Mo_sideOf_36 : decode c_Mo_sideOf 36 = .ok (.iload_n 2, 1) := by decide +kernel
theorem d_Mo_sideOf_37 : decode c_Mo_sideOf 37 = .ok (.if_icmp .eq 57, 3) := by decide +kernel
theorem d_Mo_sideOf_40 : decode c_Mo_sideOf 40 = .ok (.iload 4, 2) := by decide +kernel
theorem d_Mo_sideOf_42 : decode c_Mo_sideOf 42 = .ok (.aload_n 0, 1) := by decide +kernel
theorem d_Mo_sideOf_43 : decode c_Mo_sideOf 43 = .ok (.getfield 22, 3) := by decide +kernel
theorem d_Mo_sideOf_46 : decode c_Mo_sideOf 46 = .ok (.iload 7, 2) := by decide +kernel
theorem d_Mo_sideOf_48 : decode c_Mo_sideOf 48 = .ok (.iaload, 1) := by decide +kernel
theorem d_Mo_sideOf_49 : decode c_Mo_sideOf 49 = .ok (.invokestatic 98, 3) := by decide +kernel
theorem d_Mo_sideOf_52 : decode c_Mo_sideOf 52 = .ok (.iload 4, 2) := by decide +kernel
theorem d_Mo_sideOf_54 : decode c_Mo_sideOf 54 = .ok (.aload_n 0, 1) := by decide +kernel
theorem d_Mo_sideOf_55 : decode c_Mo_sideOf 55 = .ok (.getfield 25, 3) := by decide +kernel
theorem d_Mo_sideOf_58 : decode c_Mo_sideOf 58 = .ok (.iload 7, 2) := by decide +kernel
theorem d_Mo_sideOf_60 : decode c_Mo_sideOf 60 = .ok (.iaload, 1) := by decide +kernel
theorem d_Mo_sideOf_61 : decode c_Mo_sideOf 61 = .ok (.invokestatic 98, 3) := by decide +kernel
theorem d_Mo_sideOf_64 : decode c_Mo_sideOf 64 = .ok (.if_icmp .eq 30, 3) := by decide +kernel
theorem d_Mo_sideOf_67 : decode c_Mo_sideOf 67 = .ok (.iload 4, 2) := by decide +kernel
theorem d_Mo_sideOf_69 : decode c_Mo_sideOf 69 = .ok (.iconst 1, 1) := by decide +kernel
theorem d_Mo_sideOf_70 : decode c_Mo_sideOf 70 = .ok (.aload_n 0, 1) := by decide +kernel
theorem d_Mo_sideOf_71 : decode c_Mo_sideOf 71 = .ok (.getfield 22, 3) := by decide +kernel
theorem d_Mo_sideOf_74 : decode c_Mo_sideOf 74 = .ok (.iload 7, 2) := by decide +kernel
theorem d_Mo_sideOf_76 : decode c_Mo_sideOf 76 = .ok (.iaload, 1) := by decide +kernel
theorem d_Mo_sideOf_77 : decode c_Mo_sideOf 77 = .ok (.ishl, 1) := by decide +kernel
theorem d_Mo_sideOf_78 : decode c_Mo_sideOf 78 = .ok (.iconst 1, 1) := by decide +kernel
theorem d_Mo_sideOf_79 : decode c_Mo_sideOf 79 = .ok (.aload_n 0, 1) := by decide +kernel
theorem d_Mo_sideOf_80 : decode c_Mo_sideOf 80 = .ok (.getfield 25, 3) := by decide +kernel
theorem d_Mo_sideOf_83 : decode c_Mo_sideOf 83 = .ok (.iload 7, 2) := by decide +kernel
theorem d_Mo_sideOf_85 : decode c_Mo_sideOf 85 = .ok (.iaload, 1) := by decide +kernel
theorem d_Mo_sideOf_86 : decode c_Mo_sideOf 86 = .ok (.ishl, 1) := by decide +kernel
theorem d_Mo_sideOf_87 : decode c_Mo_sideOf 87 = .ok (.ior, 1) := by decide +kernel
theorem d_Mo_sideOf_88 : decode c_Mo_sideOf 88 = .ok (.ior, 1) := by decide +kernel
theorem d_Mo_sideOf_89 : decode c_Mo_sideOf 89 = .ok (.istore 4, 2) := by decide +kernel
theorem d_Mo_sideOf_91 : decode c_Mo_sideOf 91 = .ok (.iconst 1, 1) := by decide +kernel
theorem d_Mo_sideOf_92 : decode c_Mo_sideOf 92 = .ok (.istore 5, 2) := by decide +kernel
theorem d_Mo_sideOf_94 : decode c_Mo_sideOf 94 = .ok (.iinc 6 1, 3) := by decide +kernel
theorem d_Mo_sideOf_97 : decode c_Mo_sideOf 97 = .ok (.goto (-78), 3) := by decide +kernel
theorem d_Mo_sideOf_100 : decode c_Mo_sideOf 100 = .ok (.goto (-92), 3) := by decide +kernel
theorem d_Mo_sideOf_103 : decode c_Mo_sideOf 103 = .ok (.iload 4, 2) := by decide +kernel
theorem d_Mo_sideOf_105 : decode c_Mo_sideOf 105 = .ok (.ireturn, 1) := by decide +kernel
theorem d_Mo_plant_0 : decode c_Mo_plant 0 = .ok (.iconst 0, 1) := by decide +kernel
theorem d_Mo_plant_1 : decode c_Mo_plant 1 = .ok (.istore_n 2, 1) := by decide +kernel
theorem d_Mo_plant_2 : decode c_Mo_plant 2 = .ok (.iload_n 2, 1) := by decide +kernel
theorem d_Mo_plant_3 : decode c_Mo_plant 3 = .ok (.aload_n 0, 1) := by decide +kernel
theorem d_Mo_plant_4 : decode c_Mo_plant 4 = .ok (.getfield 102, 3) := by decide +kernel
theorem d_Mo_plant_7 : decode c_Mo_plant 7 = .ok (.if_icmp .ge 59, 3) := by decide +kernel
theorem d_Mo_plant_10 : decode c_Mo_plant 10 = .ok (.iload_n 1, 1) := by decide +kernel
theorem d_Mo_plant_11 : decode c_Mo_plant 11 = .ok (.aload_n 0, 1) := by decide +kernel
theorem d_Mo_plant_12 : decode c_Mo_plant 12 = .ok (.getfield 22, 3) := by decide +kernel
theorem d_Mo_plant_15 : decode c_Mo_plant 15 = .ok (.iload_n 2, 1) := by decide +kernel
theorem d_Mo_plant_16 : decode c_Mo_plant 16 = .ok (.iaload, 1) := by decide +kernel
theorem d_Mo_plant_17 : decode c_Mo_plant 17 = .ok (.invokestatic 98, 3) := by decide +kernel
theorem d_Mo_plant_20 : decode c_Mo_plant 20 = .ok (.ifCond .eq 20, 3) := by decide +kernel
theorem d_Mo_plant_23 : decode c_Mo_plant 23 = .ok (.iload_n 1, 1) := by decide +kernel
theorem d_Mo_plant_24 : decode c_Mo_plant 24 = .ok (.aload_n 0, 1) := by decide +kernel
theorem d_Mo_plant_25 : decode c_Mo_plant 25 = .ok (.getfield 25, 3) := by decide +kernel
theorem d_Mo_plant_28 : decode c_Mo_plant 28 = .ok (.iload_n 2, 1) := by decide +kernel
theorem d_Mo_plant_29 : decode c_Mo_plant 29 = .ok (.iaload, 1) := by decide +kernel
theorem d_Mo_plant_30 : decode c_Mo_plant 30 = .ok (.invokestatic 98, 3) := by decide +kernel
theorem d_Mo_plant_33 : decode c_Mo_plant 33 = .ok (.ifCond .eq 7, 3) := by decide +kernel
theorem d_Mo_plant_36 : decode c_Mo_plant 36 = .ok (.iconst 1, 1) := by decide +kernel
theorem d_Mo_plant_37 : decode c_Mo_plant 37 = .ok (.goto 4, 3) := by decide +kernel
theorem d_Mo_plant_40 : decode c_Mo_plant 40 = .ok (.iconst 0, 1) := by decide +kernel
theorem d_Mo_plant_41 : decode c_Mo_plant 41 = .ok (.istore_n 3, 1) := by decide +kernel
theorem d_Mo_plant_42 : decode c_Mo_plant 42 = .ok (.aload_n 0, 1) := by decide +kernel
theorem d_Mo_plant_43 : decode c_Mo_plant 43 = .ok (.getfield 54, 3) := by decide +kernel
theorem d_Mo_plant_46 : decode c_Mo_plant 46 = .ok (.iload_n 2, 1) := by decide +kernel
theorem d_Mo_plant_47 : decode c_Mo_plant 47 = .ok (.iload_n 3, 1) := by decide +kernel
theorem d_Mo_plant_48 : decode c_Mo_plant 48 = .ok (.ifCond .eq 10, 3) := by decide +kernel
theorem d_Mo_plant_51 : decode c_Mo_plant 51 = .ok (.aload_n 0, 1) := by decide +kernel
theorem d_Mo_plant_52 : decode c_Mo_plant 52 = .ok (.invokevirtual 196, 3) := by decide +kernel
theorem d_Mo_plant_55 : decode c_Mo_plant 55 = .ok (.goto 4, 3) := by decide +kernel
theorem d_Mo_plant_58 : decode c_Mo_plant 58 = .ok (.iconst (-1), 1) := by decide +kernel
theorem d_Mo_plant_59 : decode c_Mo_plant 59 = .ok (.iastore, 1) := by decide +kernel
theorem d_Mo_plant_60 : decode c_Mo_plant 60 = .ok (.iinc 2 1, 3) := by decide +kernel
theorem d_Mo_plant_63 : decode c_Mo_plant 63 = .ok (.goto (-61), 3) := by decide +kernel
theorem d_Mo_plant_66 : decode c_Mo_plant 66 = .ok (.iconst 0, 1) := by decide +kernel
theorem d_Mo_plant_67 : decode c_Mo_plant 67 = .ok (.istore_n 2, 1) := by decide +kernel
theorem d_Mo_plant_68 : decode c_Mo_plant 68 = .ok (.iload_n 2, 1) := by decide +kernel
theorem d_Mo_plant_69 : decode c_Mo_plant 69 = .ok (.aload_n 0, 1) := by decide +kernel
theorem d_Mo_plant_70 : decode c_Mo_plant 70 = .ok (.getfield 91, 3) := by decide +kernel
theorem d_Mo_plant_73 : decode c_Mo_plant 73 = .ok (.if_icmp .ge 16, 3) := by decide +kernel
theorem d_Mo_plant_76 : decode c_Mo_plant 76 = .ok (.aload_n 0, 1) := by decide +kernel
theorem d_Mo_plant_77 : decode c_Mo_plant 77 = .ok (.getfield 60, 3) := by decide +kernel
theorem d_Mo_plant_80 : decode c_Mo_plant 80 = .ok (.iload_n 2, 1) := by decide +kernel
theorem d_Mo_plant_81 : decode c_Mo_plant 81 = .ok (.iload_n 2, 1) := by decide +kernel
theorem d_Mo_plant_82 : decode c_Mo_plant 82 = .ok (.iastore, 1) := by decide +kernel
theorem d_Mo_plant_83 : decode c_Mo_plant 83 = .ok (.iinc 2 1, 3) := by decide +kernel
theorem d_Mo_plant_86 : decode c_Mo_plant 86 = .ok (.goto (-18), 3) := by decide +kernel
theorem d_Mo_plant_89 : decode c_Mo_plant 89 = .ok (.iconst 0, 1) := by decide +kernel
theorem d_Mo_plant_90 : decode c_Mo_plant 90 = .ok (.istore_n 2, 1) := by decide +kernel
theorem d_Mo_plant_91 : decode c_Mo_plant 91 = .ok (.iconst 1, 1) := by decide +kernel
theorem d_Mo_plant_92 : decode c_Mo_plant 92 = .ok (.istore_n 3, 1) := by decide +kernel
theorem d_Mo_plant_93 : decode c_Mo_plant 93 = .ok (.iload_n 3, 1) := by decide +kernel
theorem d_Mo_plant_94 : decode c_Mo_plant 94 = .ok (.ifCond .eq 231, 3) := by decide +kernel
theorem d_Mo_plant_97 : decode c_Mo_plant 97 = .ok (.iconst (-1), 1) := by decide +kernel
theorem d_Mo_plant_98 : decode c_Mo_plant 98 = .ok (.istore 4, 2) := by decide +kernel
theorem d_Mo_plant_100 : decode c_Mo_plant 100 = .ok (.iconst 0, 1) := by decide +kernel
theorem d_Mo_plant_101 : decode c_Mo_plant 101 = .ok (.istore 5, 2) := by decide +kernel
theorem d_Mo_plant_103 : decode c_Mo_plant 103 = .ok (.iload 5, 2) := by decide +kernel
theorem d_Mo_plant_105 : decode c_Mo_plant 105 = .ok (.aload_n 0, 1) := by decide +kernel
theorem d_Mo_plant_106 : decode c_Mo_plant 106 = .ok (.getfield 102, 3) := by decide +kernel
theorem d_Mo_plant_109 : decode c_Mo_plant 109 = .ok (.if_icmp .ge 50, 3) := by decide +kernel
theorem d_Mo_plant_112 : decode c_Mo_plant 112 = .ok (.aload_n 0, 1) := by decide +kernel
theorem d_Mo_plant_113 : decode c_Mo_plant 113 = .ok (.getfield 54, 3) := by decide +kernel
theorem d_Mo_plant_116 : decode c_Mo_plant 116 = .ok (.iload 5, 2) := by decide +kernel
theorem d_Mo_plant_118 : decode c_Mo_plant 118 = .ok (.iaload, 1) := by decide +kernel
theorem d_Mo_plant_119 : decode c_Mo_plant 119 = .ok (.ifCond .lt 30, 3) := by decide +kernel
theorem d_Mo_plant_122 : decode c_Mo_plant 122 = .ok (.iload 4, 2) := by decide +kernel
theorem d_Mo_plant_124 : decode c_Mo_plant 124 = .ok (.ifCond .lt 20, 3) := by decide +kernel
theorem d_Mo_plant_127 : decode c_Mo_plant 127 = .ok (.aload_n 0, 1) := by decide +kernel
theorem d_Mo_plant_128 : decode c_Mo_plant 128 = .ok (.getfield 54, 3) := by decide +kernel
theorem d_Mo_plant_131 : decode c_Mo_plant 131 = .ok (.iload 5, 2) := by decide +kernel
theorem d_Mo_plant_133 : decode c_Mo_plant 133 = .ok (.iaload, 1) := by decide +kernel
theorem d_Mo_plant_134 : decode c_Mo_plant 134 = .ok (.aload_n 0, 1) := by decide +kernel
theorem d_Mo_plant_135 : decode c_Mo_plant 135 = .ok (.getfield 54, 3) := by decide +kernel
theorem d_Mo_plant_138 : decode c_Mo_plant 138 = .ok (.iload 4, 2) := by decide +kernel
theorem d_Mo_plant_140 : decode c_Mo_plant 140 = .ok (.iaload, 1) := by decide +kernel
theorem d_Mo_plant_141 : decode c_Mo_plant 141 = .ok (.if_icmp .ge 8, 3) := by decide +kernel
theorem d_Mo_plant_144 : decode c_Mo_plant 144 = .ok (.iload 5, 2) := by decide +kernel
theorem d_Mo_plant_146 : decode c_Mo_plant 146 = .ok (.goto 5, 3) := by decide +kernel
theorem d_Mo_plant_149 : decode c_Mo_plant 149 = .ok (.iload 4, 2) := by decide +kernel
theorem d_Mo_plant_151 : decode c_Mo_plant 151 = .ok (.istore 4, 2) := by decide +kernel
theorem d_Mo_plant_153 : decode c_Mo_plant 153 = .ok (.iinc 5 1, 3) := by decide +kernel
theorem d_Mo_plant_156 : decode c_Mo_plant 156 = .ok (.goto (-53), 3) := by decide +kernel
theorem d_Mo_plant_159 : decode c_Mo_plant 159 = .ok (.iload 4, 2) := by decide +kernel
theorem d_Mo_plant_161 : decode c_Mo_plant 161 = .ok (.ifCond .lt 7, 3) := by decide +kernel
theorem d_Mo_plant_164 : decode c_Mo_plant 164 = .ok (.iconst 1, 1) := by decide +kernel
theorem d_Mo_plant_165 : decode c_Mo_plant 165 = .ok (.goto 4, 3) := by decide +kernel
theorem d_Mo_plant_168 : decode c_Mo_plant 168 = .ok (.iconst 0, 1) := by decide +kernel
theorem d_Mo_plant_169 : decode c_Mo_plant 169 = .ok (.istore_n 3, 1) := by decide +kernel
theorem d_Mo_plant_170 : decode c_Mo_plant 170 = .ok (.iload_n 3, 1) := by decide +kernel
theorem d_Mo_plant_171 : decode c_Mo_plant 171 = .ok (.ifCond .eq 151, 3) := by decide +kernel
theorem d_Mo_plant_174 : decode c_Mo_plant 174 = .ok (.aload_n 0, 1) := by decide +kernel
theorem d_Mo_plant_175 : decode c_Mo_plant 175 = .ok (.getfield 54, 3) := by decide +kernel
theorem d_Mo_plant_178 : decode c_Mo_plant 178 = .ok (.iload 4, 2) := by decide +kernel
theorem d_Mo_plant_180 : decode c_Mo_plant 180 = .ok (.iconst (-1), 1) := by decide +kernel
theorem d_Mo_plant_181 : decode c_Mo_plant 181 = .ok (.iastore, 1) := by decide +kernel
theorem d_Mo_plant_182 : decode c_Mo_plant 182 = .ok (.aload_n 0, 1) := by decide +kernel
theorem d_Mo_plant_183 : decode c_Mo_plant 183 = .ok (.getfield 60, 3) := by decide +kernel
theorem d_Mo_plant_186 : decode c_Mo_plant 186 = .ok (.aload_n 0, 1) := by decide +kernel
theorem d_Mo_plant_187 : decode c_Mo_plant 187 = .ok (.getfield 22, 3) := by decide +kernel
theorem d_Mo_plant_190 : decode c_Mo_plant 190 = .ok (.iload 4, 2) := by decide +kernel
theorem d_Mo_plant_192 : decode c_Mo_plant 192 = .ok (.iaload, 1) := by decide +kernel
theorem d_Mo_plant_193 : decode c_Mo_plant 193 = .ok (.iaload, 1) := by decide +kernel
theorem d_Mo_plant_194 : decode c_Mo_plant 194 = .ok (.istore 5, 2) := by decide +kernel
theorem d_Mo_plant_196 : decode c_Mo_plant 196 = .ok (.aload_n 0, 1) := by decide +kernel
theorem d_Mo_plant_197 : decode c_Mo_plant 197 = .ok (.getfield 60, 3) := by decide +kernel
theorem d_Mo_plant_200 : decode c_Mo_plant 200 = .ok (.aload_n 0, 1) := by decide +kernel
theorem d_Mo_plant_201 : decode c_Mo_plant 201 = .ok (.getfield 25, 3) := by decide +kernel
theorem d_Mo_plant_204 : decode c_Mo_plant 204 = .ok (.iload 4, 2) := by decide +kernel
theorem d_Mo_plant_206 : decode c_Mo_plant 206 = .ok (.iaload, 1) := by decide +kernel
theorem d_Mo_plant_207 : decode c_Mo_plant 207 = .ok (.iaload, 1) := by decide +kernel
theorem d_Mo_plant_208 : decode c_Mo_plant 208 = .ok (.istore 6, 2) := by decide +kernel
theorem d_Mo_plant_210 : decode c_Mo_plant 210 = .ok (.iload 5, 2) := by decide +kernel
theorem d_Mo_plant_212 : decode c_Mo_plant 212 = .ok (.iload 6, 2) := by decide +kernel
theorem d_Mo_plant_214 : decode c_Mo_plant 214 = .ok (.if_icmp .eq 108, 3) := by decide +kernel
theorem d_Mo_plant_217 : decode c_Mo_plant 217 = .ok (.iconst 0, 1) := by decide +kernel
theorem d_Mo_plant_218 : decode c_Mo_plant 218 = .ok (.istore 7, 2) := by decide +kernel
theorem d_Mo_plant_220 : decode c_Mo_plant 220 = .ok (.iload 7, 2) := by decide +kernel
theorem d_Mo_plant_222 : decode c_Mo_plant 222 = .ok (.aload_n 0, 1) := by decide +kernel
theorem d_Mo_plant_223 : decode c_Mo_plant 223 = .ok (.getfield 91, 3) := by decide +kernel
theorem d_Mo_plant_226 : decode c_Mo_plant 226 = .ok (.if_icmp .ge 40, 3) := by decide +kernel
theorem d_Mo_plant_229 : decode c_Mo_plant 229 = .ok (.aload_n 0, 1) := by decide +kernel
theorem d_Mo_plant_230 : decode c_Mo_plant 230 = .ok (.getfield 60, 3) := by decide +kernel
theorem d_Mo_plant_233 : decode c_Mo_plant 233 = .ok (.iload 7, 2) := by decide +kernel
theorem d_Mo_plant_235 : decode c_Mo_plant 235 = .ok (.aload_n 0, 1) := by decide +kernel
theorem d_Mo_plant_236 : decode c_Mo_plant 236 = .ok (.getfield 60, 3) := by decide +kernel
theorem d_Mo_plant_239 : decode c_Mo_plant 239 = .ok (.iload 7, 2) := by decide +kernel
theorem d_Mo_plant_241 : decode c_Mo_plant 241 = .ok (.iaload, 1) := by decide +kernel
theorem d_Mo_plant_242 : decode c_Mo_plant 242 = .ok (.iload 6, 2) := by decide +kernel
theorem d_Mo_plant_244 : decode c_Mo_plant 244 = .ok (.if_icmp .ne 8, 3) := by decide +kernel
theorem d_Mo_plant_247 : decode c_Mo_plant 247 = .ok (.iload 5, 2) := by decide +kernel
theorem d_Mo_plant_249 : decode c_Mo_plant 249 = .ok (.goto 10, 3) := by decide +kernel
theorem d_Mo_plant_252 : decode c_Mo_plant 252 = .ok (.aload_n 0, 1) := by decide +kernel
theorem d_Mo_plant_253 : decode c_Mo_plant 253 = .ok (.getfield 60, 3) := by decide +kernel
theorem d_Mo_plant_256 : decode c_Mo_plant 256 = .ok (.iload 7, 2) := by decide +kernel
theorem d_Mo_plant_258 : decode c_Mo_plant 258 = .ok (.iaload, 1) := by decide +kernel
theorem d_Mo_plant_259 : decode c_Mo_plant 259 = .ok (.iastore, 1) := by decide +kernel
theorem d_Mo_plant_260 : decode c_Mo_plant 260 = .ok (.iinc 7 1, 3) := by decide +kernel
theorem d_Mo_plant_263 : decode c_Mo_plant 263 = .ok (.goto (-43), 3) := by decide +kernel
theorem d_Mo_plant_266 : decode c_Mo_plant 266 = .ok (.iload_n 2, 1) := by decide +kernel
theorem d_Mo_plant_267 : decode c_Mo_plant 267 = .ok (.istore 7, 2) := by decide +kernel
theorem d_Mo_plant_269 : decode c_Mo_plant 269 = .ok (.iload 7, 2) := by decide +kernel
theorem d_Mo_plant_271 : decode c_Mo_plant 271 = .ok (.ifCond .le 39, 3) := by decide +kernel
theorem d_Mo_plant_274 : decode c_Mo_plant 274 = .ok (.aload_n 0, 1) := by decide +kernel
theorem d_Mo_plant_275 : decode c_Mo_plant 275 = .ok (.getfield 57, 3) := by decide +kernel
theorem d_Mo_plant_278 : decode c_Mo_plant 278 = .ok (.iload 7, 2) := by decide +kernel
theorem d_Mo_plant_280 : decode c_Mo_plant 280 = .ok (.iconst 1, 1) := by decide +kernel
theorem d_Mo_plant_281 : decode c_Mo_plant 281 = .ok (.isub, 1) := by decide +kernel
theorem d_Mo_plant_282 : decode c_Mo_plant 282 = .ok (.iaload, 1) := by decide +kernel
theorem d_Mo_plant_283 : decode c_Mo_plant 283 = .ok (.iload 4, 2) := by decide +kernel
theorem d_Mo_plant_285 : decode c_Mo_plant 285 = .ok (.if_icmp .le 25, 3) := by decide +kernel
theorem d_Mo_plant_288 : decode c_Mo_plant 288 = .ok (.aload_n 0, 1) := by decide +kernel
theorem d_Mo_plant_289 : decode c_Mo_plant 289 = .ok (.getfield 57, 3) := by decide +kernel
theorem d_Mo_plant_292 : decode c_Mo_plant 292 = .ok (.iload 7, 2) := by decide +kernel
theorem d_Mo_plant_294 : decode c_Mo_plant 294 = .ok (.aload_n 0, 1) := by decide +kernel
theorem d_Mo_plant_295 : decode c_Mo_plant 295 = .ok (.getfield 57, 3) := by decide +kernel
theorem d_Mo_plant_298 : decode c_Mo_plant 298 = .ok (.iload 7, 2) := by decide +kernel
theorem d_Mo_plant_300 : decode c_Mo_plant 300 = .ok (.iconst 1, 1) := by decide +kernel
theorem d_Mo_plant_301 : decode c_Mo_plant 301 = .ok (.isub, 1) := by decide +kernel
theorem d_Mo_plant_302 : decode c_Mo_plant 302 = .ok (.iaload, 1) := by decide +kernel
theorem d_Mo_plant_303 : decode c_Mo_plant 303 = .ok (.iastore, 1) := by decide +kernel
theorem d_Mo_plant_304 : decode c_Mo_plant 304 = .ok (.iinc 7 (-1), 3) := by decide +kernel
theorem d_Mo_plant_307 : decode c_Mo_plant 307 = .ok (.goto (-38), 3) := by decide +kernel
theorem d_Mo_plant_310 : decode c_Mo_plant 310 = .ok (.aload_n 0, 1) := by decide +kernel
theorem d_Mo_plant_311 : decode c_Mo_plant 311 = .ok (.getfield 57, 3) := by decide +kernel
theorem d_Mo_plant_314 : decode c_Mo_plant 314 = .ok (.iload 7, 2) := by decide +kernel
theorem d_Mo_plant_316 : decode c_Mo_plant 316 = .ok (.iload 4, 2) := by decide +kernel
theorem d_Mo_plant_318 : decode c_Mo_plant 318 = .ok (.iastore, 1) := by decide +kernel
theorem d_Mo_plant_319 : decode c_Mo_plant 319 = .ok (.iinc 2 1, 3) := by decide +kernel
theorem d_Mo_plant_322 : decode c_Mo_plant 322 = .ok (.goto (-229), 3) := by decide +kernel
theorem d_Mo_plant_325 : decode c_Mo_plant 325 = .ok (.iload_n 2, 1) := by decide +kernel
theorem d_Mo_plant_326 : decode c_Mo_plant 326 = .ok (.ireturn, 1) := by decide +kernel
theorem d_Mo_stepOn_0 : decode c_Mo_stepOn 0 = .ok (.aload_n 0, 1) := by decide +kernel
theorem d_Mo_stepOn_1 : decode c_Mo_stepOn 1 = .ok (.iconst (-1), 1) := by decide +kernel
theorem d_Mo_stepOn_2 : decode c_Mo_stepOn 2 = .ok (.invokevirtual 199, 3) := by decide +kernel
theorem d_Mo_stepOn_5 : decode c_Mo_stepOn 5 = .ok (.istore_n 1, 1) := by decide +kernel
theorem d_Mo_stepOn_6 : decode c_Mo_stepOn 6 = .ok (.aload_n 0, 1) := by decide +kernel
theorem d_Mo_stepOn_7 : decode c_Mo_stepOn 7 = .ok (.getfield 164, 3) := by decide +kernel
theorem d_Mo_stepOn_10 : decode c_Mo_stepOn 10 = .ok (.ifCond .ne 5, 3) := by decide +kernel
theorem d_Mo_stepOn_13 : decode c_Mo_stepOn 13 = .ok (.iconst 0, 1) := by decide +kernel
theorem d_Mo_stepOn_14 : decode c_Mo_stepOn 14 = .ok (.ireturn, 1) := by decide +kernel
theorem d_Mo_stepOn_15 : decode c_Mo_stepOn 15 = .ok (.aload_n 0, 1) := by decide +kernel
theorem d_Mo_stepOn_16 : decode c_Mo_stepOn 16 = .ok (.aload_n 0, 1) := by decide +kernel
theorem d_Mo_stepOn_17 : decode c_Mo_stepOn 17 = .ok (.invokevirtual 196, 3) := by decide +kernel
theorem d_Mo_stepOn_20 : decode c_Mo_stepOn 20 = .ok (.aload_n 0, 1) := by decide +kernel
theorem d_Mo_stepOn_21 : decode c_Mo_stepOn 21 = .ok (.getfield 164, 3) := by decide +kernel
theorem d_Mo_stepOn_24 : decode c_Mo_stepOn 24 = .ok (.irem, 1) := by decide +kernel
theorem d_Mo_stepOn_25 : decode c_Mo_stepOn 25 = .ok (.invokevirtual 199, 3) := by decide +kernel
theorem d_Mo_stepOn_28 : decode c_Mo_stepOn 28 = .ok (.istore_n 2, 1) := by decide +kernel
theorem d_Mo_stepOn_29 : decode c_Mo_stepOn 29 = .ok (.aload_n 0, 1) := by decide +kernel
theorem d_Mo_stepOn_30 : decode c_Mo_stepOn 30 = .ok (.getfield 51, 3) := by decide +kernel
theorem d_Mo_stepOn_33 : decode c_Mo_stepOn 33 = .ok (.aload_n 0, 1) := by decide +kernel
theorem d_Mo_stepOn_34 : decode c_Mo_stepOn 34 = .ok (.getfield 22, 3) := by decide +kernel
theorem d_Mo_stepOn_37 : decode c_Mo_stepOn 37 = .ok (.iload_n 2, 1) := by decide +kernel
theorem d_Mo_stepOn_38 : decode c_Mo_stepOn 38 = .ok (.iaload, 1) := by decide +kernel
theorem d_Mo_stepOn_39 : decode c_Mo_stepOn 39 = .ok (.iaload, 1) := by decide +kernel
theorem d_Mo_stepOn_40 : decode c_Mo_stepOn 40 = .ok (.aload_n 0, 1) := by decide +kernel
theorem d_Mo_stepOn_41 : decode c_Mo_stepOn 41 = .ok (.getfield 51, 3) := by decide +kernel
theorem d_Mo_stepOn_44 : decode c_Mo_stepOn 44 = .ok (.aload_n 0, 1) := by decide +kernel
theorem d_Mo_stepOn_45 : decode c_Mo_stepOn 45 = .ok (.getfield 25, 3) := by decide +kernel
theorem d_Mo_stepOn_48 : decode c_Mo_stepOn 48 = .ok (.iload_n 2, 1) := by decide +kernel
theorem d_Mo_stepOn_49 : decode c_Mo_stepOn 49 = .ok (.iaload, 1) := by decide +kernel
theorem d_Mo_stepOn_50 : decode c_Mo_stepOn 50 = .ok (.iaload, 1) := by decide +kernel
theorem d_Mo_stepOn_51 : decode c_Mo_stepOn 51 = .ok (.if_icmp .ge 17, 3) := by decide +kernel
theorem d_Mo_stepOn_54 : decode c_Mo_stepOn 54 = .ok (.aload_n 0, 1) := by decide +kernel
theorem d_Mo_stepOn_55 : decode c_Mo_stepOn 55 = .ok (.getfield 51, 3) := by decide +kernel
theorem d_Mo_stepOn_58 : decode c_Mo_stepOn 58 = .ok (.aload_n 0, 1) := by decide +kernel
theorem d_Mo_stepOn_59 : decode c_Mo_stepOn 59 = .ok (.getfield 22, 3) := by decide +kernel
theorem d_Mo_stepOn_62 : decode c_Mo_stepOn 62 = .ok (.iload_n 2, 1) := by decide +kernel
theorem d_Mo_stepOn_63 : decode c_Mo_stepOn 63 = .ok (.iaload, 1) := by decide +kernel
theorem d_Mo_stepOn_64 : decode c_Mo_stepOn 64 = .ok (.iaload, 1) := by decide +kernel
theorem d_Mo_stepOn_65 : decode c_Mo_stepOn 65 = .ok (.goto 14, 3) := by decide +kernel
theorem d_Mo_stepOn_68 : decode c_Mo_stepOn 68 = .ok (.aload_n 0, 1) := by decide +kernel
theorem d_Mo_stepOn_69 : decode c_Mo_stepOn 69 = .ok (.getfield 51, 3) := by decide +kernel
theorem d_Mo_stepOn_72 : decode c_Mo_stepOn 72 = .ok (.aload_n 0, 1) := by decide +kernel
theorem d_Mo_stepOn_73 : decode c_Mo_stepOn 73 = .ok (.getfield 25, 3) := by decide +kernel
theorem d_Mo_stepOn_76 : decode c_Mo_stepOn 76 = .ok (.iload_n 2, 1) := by decide +kernel
theorem d_Mo_stepOn_77 : decode c_Mo_stepOn 77 = .ok (.iaload, 1) := by decide +kernel
theorem d_Mo_stepOn_78 : decode c_Mo_stepOn 78 = .ok (.iaload, 1) := by decide +kernel
theorem d_Mo_stepOn_79 : decode c_Mo_stepOn 79 = .ok (.istore_n 3, 1) := by decide +kernel
theorem d_Mo_stepOn_80 : decode c_Mo_stepOn 80 = .ok (.aload_n 0, 1) := by decide +kernel
theorem d_Mo_stepOn_81 : decode c_Mo_stepOn 81 = .ok (.getfield 51, 3) := by decide +kernel
theorem d_Mo_stepOn_84 : decode c_Mo_stepOn 84 = .ok (.aload_n 0, 1) := by decide +kernel
theorem d_Mo_stepOn_85 : decode c_Mo_stepOn 85 = .ok (.getfield 22, 3) := by decide +kernel
theorem d_Mo_stepOn_88 : decode c_Mo_stepOn 88 = .ok (.iload_n 2, 1) := by decide +kernel
theorem d_Mo_stepOn_89 : decode c_Mo_stepOn 89 = .ok (.iaload, 1) := by decide +kernel
theorem d_Mo_stepOn_90 : decode c_Mo_stepOn 90 = .ok (.iaload, 1) := by decide +kernel
theorem d_Mo_stepOn_91 : decode c_Mo_stepOn 91 = .ok (.aload_n 0, 1) := by decide +kernel
theorem d_Mo_stepOn_92 : decode c_Mo_stepOn 92 = .ok (.getfield 51, 3) := by decide +kernel
theorem d_Mo_stepOn_95 : decode c_Mo_stepOn 95 = .ok (.aload_n 0, 1) := by decide +kernel
theorem d_Mo_stepOn_96 : decode c_Mo_stepOn 96 = .ok (.getfield 25, 3) := by decide +kernel
theorem d_Mo_stepOn_99 : decode c_Mo_stepOn 99 = .ok (.iload_n 2, 1) := by decide +kernel
theorem d_Mo_stepOn_100 : decode c_Mo_stepOn 100 = .ok (.iaload, 1) := by decide +kernel
theorem d_Mo_stepOn_101 : decode c_Mo_stepOn 101 = .ok (.iaload, 1) := by decide +kernel
theorem d_Mo_stepOn_102 : decode c_Mo_stepOn 102 = .ok (.iadd, 1) := by decide +kernel
theorem d_Mo_stepOn_103 : decode c_Mo_stepOn 103 = .ok (.iload_n 3, 1) := by decide +kernel
theorem d_Mo_stepOn_104 : decode c_Mo_stepOn 104 = .ok (.isub, 1) := by decide +kernel
theorem d_Mo_stepOn_105 : decode c_Mo_stepOn 105 = .ok (.istore 4, 2) := by decide +kernel
theorem d_Mo_stepOn_107 : decode c_Mo_stepOn 107 = .ok (.aload_n 0, 1) := by decide +kernel
theorem d_Mo_stepOn_108 : decode c_Mo_stepOn 108 = .ok (.iload_n 3, 1) := by decide +kernel
theorem d_Mo_stepOn_109 : decode c_Mo_stepOn 109 = .ok (.invokevirtual 121, 3) := by decide +kernel
theorem d_Mo_stepOn_112 : decode c_Mo_stepOn 112 = .ok (.aload_n 0, 1) := by decide +kernel
theorem d_Mo_stepOn_113 : decode c_Mo_stepOn 113 = .ok (.iload 4, 2) := by decide +kernel
theorem d_Mo_stepOn_115 : decode c_Mo_stepOn 115 = .ok (.invokevirtual 121, 3) := by decide +kernel
theorem d_Mo_stepOn_118 : decode c_Mo_stepOn 118 = .ok (.ior, 1) := by decide +kernel
theorem d_Mo_stepOn_119 : decode c_Mo_stepOn 119 = .ok (.istore 5, 2) := by decide +kernel
theorem d_Mo_stepOn_121 : decode c_Mo_stepOn 121 = .ok (.aload_n 0, 1) := by decide +kernel
theorem d_Mo_stepOn_122 : decode c_Mo_stepOn 122 = .ok (.iload 5, 2) := by decide +kernel
theorem d_Mo_stepOn_124 : decode c_Mo_stepOn 124 = .ok (.invokevirtual 202, 3) := by decide +kernel
theorem d_Mo_stepOn_127 : decode c_Mo_stepOn 127 = .ok (.istore 6, 2) := by decide +kernel
theorem d_Mo_stepOn_129 : decode c_Mo_stepOn 129 = .ok (.iload 5, 2) := by decide +kernel
theorem d_Mo_stepOn_131 : decode c_Mo_stepOn 131 = .ok (.invokestatic 109, 3) := by decide +kernel
theorem d_Mo_stepOn_134 : decode c_Mo_stepOn 134 = .ok (.istore 7, 2) := by decide +kernel
theorem d_Mo_stepOn_136 : decode c_Mo_stepOn 136 = .ok (.iconst 0, 1) := by decide +kernel
theorem d_Mo_stepOn_137 : decode c_Mo_stepOn 137 = .ok (.istore 8, 2) := by decide +kernel
theorem d_Mo_stepOn_139 : decode c_Mo_stepOn 139 = .ok (.iconst 0, 1) := by decide +kernel
theorem d_Mo_stepOn_140 : decode c_Mo_stepOn 140 = .ok (.istore 9, 2) := by decide +kernel
theorem d_Mo_stepOn_142 : decode c_Mo_stepOn 142 = .ok (.iload 9, 2) := by decide +kernel
theorem d_Mo_stepOn_144 : decode c_Mo_stepOn 144 = .ok (.iload 6, 2) := by decide +kernel
theorem d_Mo_stepOn_146 : decode c_Mo_stepOn 146 = .ok (.if_icmp .ge 56, 3) := by decide +kernel
theorem d_Mo_stepOn_149 : decode c_Mo_stepOn 149 = .ok (.aload_n 0, 1) := by decide +kernel
theorem d_Mo_stepOn_150 : decode c_Mo_stepOn 150 = .ok (.iload 6, 2) := by decide +kernel
theorem d_Mo_stepOn_152 : decode c_Mo_stepOn 152 = .ok (.iload 9, 2) := by decide +kernel
theorem d_Mo_stepOn_154 : decode c_Mo_stepOn 154 = .ok (.iload 7, 2) := by decide +kernel
theorem d_Mo_stepOn_156 : decode c_Mo_stepOn 156 = .ok (.invokevirtual 205, 3) := by decide +kernel
theorem d_Mo_stepOn_159 : decode c_Mo_stepOn 159 = .ok (.istore 10, 2) := by decide +kernel
theorem d_Mo_stepOn_161 : decode c_Mo_stepOn 161 = .ok (.aload_n 0, 1) := by decide +kernel
theorem d_Mo_stepOn_162 : decode c_Mo_stepOn 162 = .ok (.iload 10, 2) := by decide +kernel
theorem d_Mo_stepOn_164 : decode c_Mo_stepOn 164 = .ok (.invokevirtual 133, 3) := by decide +kernel
theorem d_Mo_stepOn_167 : decode c_Mo_stepOn 167 = .ok (.ifCond .eq 29, 3) := by decide +kernel
theorem d_Mo_stepOn_170 : decode c_Mo_stepOn 170 = .ok (.aload_n 0, 1) := by decide +kernel
theorem d_Mo_stepOn_171 : decode c_Mo_stepOn 171 = .ok (.iload 5, 2) := by decide +kernel
theorem d_Mo_stepOn_173 : decode c_Mo_stepOn 173 = .ok (.iload 10, 2) := by decide +kernel
theorem d_Mo_stepOn_175 : decode c_Mo_stepOn 175 = .ok (.iconst (-1), 1) := by decide +kernel
theorem d_Mo_stepOn_176 : decode c_Mo_stepOn 176 = .ok (.ixor, 1) := by decide +kernel
theorem d_Mo_stepOn_177 : decode c_Mo_stepOn 177 = .ok (.iand, 1) := by decide +kernel
theorem d_Mo_stepOn_178 : decode c_Mo_stepOn 178 = .ok (.invokevirtual 133, 3) := by decide +kernel
theorem d_Mo_stepOn_181 : decode c_Mo_stepOn 181 = .ok (.ifCond .eq 15, 3) := by decide +kernel
theorem d_Mo_stepOn_184 : decode c_Mo_stepOn 184 = .ok (.aload_n 0, 1) := by decide +kernel
theorem d_Mo_stepOn_185 : decode c_Mo_stepOn 185 = .ok (.getfield 63, 3) := by decide +kernel
theorem d_Mo_stepOn_188 : decode c_Mo_stepOn 188 = .ok (.iload 8, 2) := by decide +kernel
theorem d_Mo_stepOn_190 : decode c_Mo_stepOn 190 = .ok (.iload 9, 2) := by decide +kernel
theorem d_Mo_stepOn_192 : decode c_Mo_stepOn 192 = .ok (.iastore, 1) := by decide +kernel
theorem d_Mo_stepOn_193 : decode c_Mo_stepOn 193 = .ok (.iinc 8 1, 3) := by decide +kernel
theorem d_Mo_stepOn_196 : decode c_Mo_stepOn 196 = .ok (.iinc 9 1, 3) := by decide +kernel
theorem d_Mo_stepOn_199 : decode c_Mo_stepOn 199 = .ok (.goto (-57), 3) := by decide +kernel
theorem d_Mo_stepOn_202 : decode c_Mo_stepOn 202 = .ok (.iload 8, 2) := by decide +kernel
theorem d_Mo_stepOn_204 : decode c_Mo_stepOn 204 = .ok (.ifCond .ne 5, 3) := by decide +kernel
theorem d_Mo_stepOn_207 : decode c_Mo_stepOn 207 = .ok (.iconst 0, 1) := by decide +kernel
theorem d_Mo_stepOn_208 : decode c_Mo_stepOn 208 = .ok (.ireturn, 1) := by decide +kernel
theorem d_Mo_stepOn_209 : decode c_Mo_stepOn 209 = .ok (.aload_n 0, 1) := by decide +kernel
theorem d_Mo_stepOn_210 : decode c_Mo_stepOn 210 = .ok (.iload 6, 2) := by decide +kernel
theorem d_Mo_stepOn_212 : decode c_Mo_stepOn 212 = .ok (.aload_n 0, 1) := by decide +kernel
theorem d_Mo_stepOn_213 : decode c_Mo_stepOn 213 = .ok (.getfield 63, 3) := by decide +kernel
theorem d_Mo_stepOn_216 : decode c_Mo_stepOn 216 = .ok (.aload_n 0, 1) := by decide +kernel
theorem d_Mo_stepOn_217 : decode c_Mo_stepOn 217 = .ok (.invokevirtual 196, 3) := by decide +kernel
theorem d_Mo_stepOn_220 : decode c_Mo_stepOn 220 = .ok (.iload 8, 2) := by decide +kernel
theorem d_Mo_stepOn_222 : decode c_Mo_stepOn 222 = .ok (.irem, 1) := by decide +kernel
theorem d_Mo_stepOn_223 : decode c_Mo_stepOn 223 = .ok (.iaload, 1) := by decide +kernel
theorem d_Mo_stepOn_224 : decode c_Mo_stepOn 224 = .ok (.iload 7, 2) := by decide +kernel
theorem d_Mo_stepOn_226 : decode c_Mo_stepOn 226 = .ok (.invokevirtual 205, 3) := by decide +kernel
theorem d_Mo_stepOn_229 : decode c_Mo_stepOn 229 = .ok (.istore 9, 2) := by decide +kernel
theorem d_Mo_stepOn_231 : decode c_Mo_stepOn 231 = .ok (.iconst 0, 1) := by decide +kernel
theorem d_Mo_stepOn_232 : decode c_Mo_stepOn 232 = .ok (.istore 10, 2) := by decide +kernel
theorem d_Mo_stepOn_234 : decode c_Mo_stepOn 234 = .ok (.iload 10, 2) := by decide +kernel
theorem d_Mo_stepOn_236 : decode c_Mo_stepOn 236 = .ok (.aload_n 0, 1) := by decide +kernel
theorem d_Mo_stepOn_237 : decode c_Mo_stepOn 237 = .ok (.getfield 91, 3) := by decide +kernel
theorem d_Mo_stepOn_240 : decode c_Mo_stepOn 240 = .ok (.if_icmp .ge 66, 3) := by decide +kernel
theorem d_Mo_stepOn_243 : decode c_Mo_stepOn 243 = .ok (.aload_n 0, 1) := by decide +kernel
theorem d_Mo_stepOn_244 : decode c_Mo_stepOn 244 = .ok (.getfield 66, 3) := by decide +kernel
theorem d_Mo_stepOn_247 : decode c_Mo_stepOn 247 = .ok (.iload 10, 2) := by decide +kernel
theorem d_Mo_stepOn_249 : decode c_Mo_stepOn 249 = .ok (.aload_n 0, 1) := by decide +kernel
theorem d_Mo_stepOn_250 : decode c_Mo_stepOn 250 = .ok (.getfield 51, 3) := by decide +kernel
theorem d_Mo_stepOn_253 : decode c_Mo_stepOn 253 = .ok (.iload 10, 2) := by decide +kernel
theorem d_Mo_stepOn_255 : decode c_Mo_stepOn 255 = .ok (.iaload, 1) := by decide +kernel
theorem d_Mo_stepOn_256 : decode c_Mo_stepOn 256 = .ok (.iastore, 1) := by decide +kernel
theorem d_Mo_stepOn_257 : decode c_Mo_stepOn 257 = .ok (.aload_n 0, 1) := by decide +kernel
theorem d_Mo_stepOn_258 : decode c_Mo_stepOn 258 = .ok (.getfield 51, 3) := by decide +kernel
theorem d_Mo_stepOn_261 : decode c_Mo_stepOn 261 = .ok (.iload 10, 2) := by decide +kernel
theorem d_Mo_stepOn_263 : decode c_Mo_stepOn 263 = .ok (.iload 9, 2) := by decide +kernel
theorem d_Mo_stepOn_265 : decode c_Mo_stepOn 265 = .ok (.iload 10, 2) := by decide +kernel
theorem d_Mo_stepOn_267 : decode c_Mo_stepOn 267 = .ok (.invokestatic 98, 3) := by decide +kernel
theorem d_Mo_stepOn_270 : decode c_Mo_stepOn 270 = .ok (.ifCond .eq 7, 3) := by decide +kernel
theorem d_Mo_stepOn_273 : decode c_Mo_stepOn 273 = .ok (.iload_n 3, 1) := by decide +kernel
theorem d_Mo_stepOn_274 : decode c_Mo_stepOn 274 = .ok (.goto 25, 3) := by decide +kernel
theorem d_Mo_stepOn_277 : decode c_Mo_stepOn 277 = .ok (.iload 5, 2) := by decide +kernel
theorem d_Mo_stepOn_279 : decode c_Mo_stepOn 279 = .ok (.iload 10, 2) := by decide +kernel
theorem d_Mo_stepOn_281 : decode c_Mo_stepOn 281 = .ok (.invokestatic 98, 3) := by decide +kernel
theorem d_Mo_stepOn_284 : decode c_Mo_stepOn 284 = .ok (.ifCond .eq 8, 3) := by decide +kernel
theorem d_Mo_stepOn_287 : decode c_Mo_stepOn 287 = .ok (.iload 4, 2) := by decide +kernel
theorem d_Mo_stepOn_289 : decode c_Mo_stepOn 289 = .ok (.goto 10, 3) := by decide +kernel
theorem d_Mo_stepOn_292 : decode c_Mo_stepOn 292 = .ok (.aload_n 0, 1) := by decide +kernel
theorem d_Mo_stepOn_293 : decode c_Mo_stepOn 293 = .ok (.getfield 51, 3) := by decide +kernel
theorem d_Mo_stepOn_296 : decode c_Mo_stepOn 296 = .ok (.iload 10, 2) := by decide +kernel
theorem d_Mo_stepOn_298 : decode c_Mo_stepOn 298 = .ok (.iaload, 1) := by decide +kernel
theorem d_Mo_stepOn_299 : decode c_Mo_stepOn 299 = .ok (.iastore, 1) := by decide +kernel
theorem d_Mo_stepOn_300 : decode c_Mo_stepOn 300 = .ok (.iinc 10 1, 3) := by decide +kernel
theorem d_Mo_stepOn_303 : decode c_Mo_stepOn 303 = .ok (.goto (-69), 3) := by decide +kernel
theorem d_Mo_stepOn_306 : decode c_Mo_stepOn 306 = .ok (.aload_n 0, 1) := by decide +kernel
theorem d_Mo_stepOn_307 : decode c_Mo_stepOn 307 = .ok (.iconst 0, 1) := by decide +kernel
theorem d_Mo_stepOn_308 : decode c_Mo_stepOn 308 = .ok (.invokevirtual 139, 3) := by decide +kernel
theorem d_Mo_stepOn_311 : decode c_Mo_stepOn 311 = .ok (.ifCond .eq 7, 3) := by decide +kernel
theorem d_Mo_stepOn_314 : decode c_Mo_stepOn 314 = .ok (.iconst 1, 1) := by decide +kernel
theorem d_Mo_stepOn_315 : decode c_Mo_stepOn 315 = .ok (.goto 4, 3) := by decide +kernel
theorem d_Mo_stepOn_318 : decode c_Mo_stepOn 318 = .ok (.iconst 0, 1) := by decide +kernel
theorem d_Mo_stepOn_319 : decode c_Mo_stepOn 319 = .ok (.istore 10, 2) := by decide +kernel
theorem d_Mo_stepOn_321 : decode c_Mo_stepOn 321 = .ok (.iconst 0, 1) := by decide +kernel
theorem d_Mo_stepOn_322 : decode c_Mo_stepOn 322 = .ok (.istore 11, 2) := by decide +kernel
theorem d_Mo_stepOn_324 : decode c_Mo_stepOn 324 = .ok (.iconst 0, 1) := by decide +kernel
theorem d_Mo_stepOn_325 : decode c_Mo_stepOn 325 = .ok (.istore 12, 2) := by decide +kernel
theorem d_Mo_stepOn_327 : decode c_Mo_stepOn 327 = .ok (.iload 12, 2) := by decide +kernel
theorem d_Mo_stepOn_329 : decode c_Mo_stepOn 329 = .ok (.aload_n 0, 1) := by decide +kernel
theorem d_Mo_stepOn_330 : decode c_Mo_stepOn 330 = .ok (.getfield 91, 3) := by decide +kernel
theorem d_Mo_stepOn_333 : decode c_Mo_stepOn 333 = .ok (.if_icmp .ge 67, 3) := by decide +kernel
theorem d_Mo_stepOn_336 : decode c_Mo_stepOn 336 = .ok (.aload_n 0, 1) := by decide +kernel
theorem d_Mo_stepOn_337 : decode c_Mo_stepOn 337 = .ok (.getfield 51, 3) := by decide +kernel
theorem d_Mo_stepOn_340 : decode c_Mo_stepOn 340 = .ok (.iload 12, 2) := by decide +kernel
theorem d_Mo_stepOn_342 : decode c_Mo_stepOn 342 = .ok (.iload 10, 2) := by decide +kernel
theorem d_Mo_stepOn_344 : decode c_Mo_stepOn 344 = .ok (.ifCond .eq 13, 3) := by decide +kernel
theorem d_Mo_stepOn_347 : decode c_Mo_stepOn 347 = .ok (.aload_n 0, 1) := by decide +kernel
theorem d_Mo_stepOn_348 : decode c_Mo_stepOn 348 = .ok (.getfield 66, 3) := by decide +kernel
theorem d_Mo_stepOn_351 : decode c_Mo_stepOn 351 = .ok (.iload 12, 2) := by decide +kernel
theorem d_Mo_stepOn_353 : decode c_Mo_stepOn 353 = .ok (.iaload, 1) := by decide +kernel
theorem d_Mo_stepOn_354 : decode c_Mo_stepOn 354 = .ok (.goto 10, 3) := by decide +kernel
theorem d_Mo_stepOn_357 : decode c_Mo_stepOn 357 = .ok (.aload_n 0, 1) := by decide +kernel
theorem d_Mo_stepOn_358 : decode c_Mo_stepOn 358 = .ok (.getfield 51, 3) := by decide +kernel
theorem d_Mo_stepOn_361 : decode c_Mo_stepOn 361 = .ok (.iload 12, 2) := by decide +kernel
theorem d_Mo_stepOn_363 : decode c_Mo_stepOn 363 = .ok (.iaload, 1) := by decide +kernel
theorem d_Mo_stepOn_364 : decode c_Mo_stepOn 364 = .ok (.iastore, 1) := by decide +kernel
theorem d_Mo_stepOn_365 : decode c_Mo_stepOn 365 = .ok (.iload 11, 2) := by decide +kernel
theorem d_Mo_stepOn_367 : decode c_Mo_stepOn 367 = .ok (.ifCond .ne 20, 3) := by decide +kernel
theorem d_Mo_stepOn_370 : decode c_Mo_stepOn 370 = .ok (.aload_n 0, 1) := by decide +kernel
theorem d_Mo_stepOn_371 : decode c_Mo_stepOn 371 = .ok (.getfield 51, 3) := by decide +kernel
theorem d_Mo_stepOn_374 : decode c_Mo_stepOn 374 = .ok (.iload 12, 2) := by decide +kernel
theorem d_Mo_stepOn_376 : decode c_Mo_stepOn 376 = .ok (.iaload, 1) := by decide +kernel
theorem d_Mo_stepOn_377 : decode c_Mo_stepOn 377 = .ok (.aload_n 0, 1) := by decide +kernel
theorem d_Mo_stepOn_378 : decode c_Mo_stepOn 378 = .ok (.getfield 66, 3) := by decide +kernel
theorem d_Mo_stepOn_381 : decode c_Mo_stepOn 381 = .ok (.iload 12, 2) := by decide +kernel
theorem d_Mo_stepOn_383 : decode c_Mo_stepOn 383 = .ok (.iaload, 1) := by decide +kernel
theorem d_Mo_stepOn_384 : decode c_Mo_stepOn 384 = .ok (.if_icmp .eq 7, 3) := by decide +kernel
theorem d_Mo_stepOn_387 : decode c_Mo_stepOn 387 = .ok (.iconst 1, 1) := by decide +kernel
theorem d_Mo_stepOn_388 : decode c_Mo_stepOn 388 = .ok (.goto 4, 3) := by decide +kernel
theorem d_Mo_stepOn_391 : decode c_Mo_stepOn 391 = .ok (.iconst 0, 1) := by decide +kernel
theorem d_Mo_stepOn_392 : decode c_Mo_stepOn 392 = .ok (.istore 11, 2) := by decide +kernel
theorem d_Mo_stepOn_394 : decode c_Mo_stepOn 394 = .ok (.iinc 12 1, 3) := by decide +kernel
theorem d_Mo_stepOn_397 : decode c_Mo_stepOn 397 = .ok (.goto (-70), 3) := by decide +kernel
theorem d_Mo_stepOn_400 : decode c_Mo_stepOn 400 = .ok (.iload 11, 2) := by decide +kernel
theorem d_Mo_stepOn_402 : decode c_Mo_stepOn 402 = .ok (.ireturn, 1) := by decide +kernel
theorem d_Mo_step_0 : decode c_Mo_step 0 = .ok (.aload_n 0, 1) := by decide +kernel
theorem d_Mo_step_1 : decode c_Mo_step 1 = .ok (.getfield 91, 3) := by decide +kernel
theorem d_Mo_step_4 : decode c_Mo_step 4 = .ok (.ifCond .ne 6, 3) := by decide +kernel
theorem d_Mo_step_7 : decode c_Mo_step 7 = .ok (.bipush (-5), 2) := by decide +kernel
theorem d_Mo_step_9 : decode c_Mo_step 9 = .ok (.ireturn, 1) := by decide +kernel
theorem d_Mo_step_10 : decode c_Mo_step 10 = .ok (.aload_n 0, 1) := by decide +kernel
theorem d_Mo_step_11 : decode c_Mo_step 11 = .ok (.iconst 0, 1) := by decide +kernel
theorem d_Mo_step_12 : decode c_Mo_step 12 = .ok (.invokevirtual 139, 3) := by decide +kernel
theorem d_Mo_step_15 : decode c_Mo_step 15 = .ok (.ifCond .eq 6, 3) := by decide +kernel
theorem d_Mo_step_18 : decode c_Mo_step 18 = .ok (.bipush (-3), 2) := by decide +kernel
theorem d_Mo_step_20 : decode c_Mo_step 20 = .ok (.ireturn, 1) := by decide +kernel
theorem d_Mo_step_21 : decode c_Mo_step 21 = .ok (.aload_n 0, 1) := by decide +kernel
theorem d_Mo_step_22 : decode c_Mo_step 22 = .ok (.iload_n 1, 1) := by decide +kernel
theorem d_Mo_step_23 : decode c_Mo_step 23 = .ok (.putfield 192, 3) := by decide +kernel
theorem d_Mo_step_26 : decode c_Mo_step 26 = .ok (.aload_n 0, 1) := by decide +kernel
theorem d_Mo_step_27 : decode c_Mo_step 27 = .ok (.invokevirtual 209, 3) := by decide +kernel
theorem d_Mo_step_30 : decode c_Mo_step 30 = .ok (.ifCond .eq 7, 3) := by decide +kernel
theorem d_Mo_step_33 : decode c_Mo_step 33 = .ok (.iconst 1, 1) := by decide +kernel
theorem d_Mo_step_34 : decode c_Mo_step 34 = .ok (.goto 4, 3) := by decide +kernel
theorem d_Mo_step_37 : decode c_Mo_step 37 = .ok (.iconst 0, 1) := by decide +kernel
theorem d_Mo_step_38 : decode c_Mo_step 38 = .ok (.ireturn, 1) := by decide +kernel
theorem d_Mo_walk_0 : decode c_Mo_walk 0 = .ok (.iload_n 1, 1) := by decide +kernel
theorem d_Mo_walk_1 : decode c_Mo_walk 1 = .ok (.iconst 1, 1) := by decide +kernel
theorem d_Mo_walk_2 : decode c_Mo_walk 2 = .ok (.sipush 200, 3) := by decide +kernel
theorem d_Mo_walk_5 : decode c_Mo_walk 5 = .ok (.invokestatic 87, 3) := by decide +kernel
theorem d_Mo_walk_8 : decode c_Mo_walk 8 = .ok (.ifCond .eq 13, 3) := by decide +kernel
theorem d_Mo_walk_11 : decode c_Mo_walk 11 = .ok (.iload_n 3, 1) := by decide +kernel
theorem d_Mo_walk_12 : decode c_Mo_walk 12 = .ok (.iconst 0, 1) := by decide +kernel
theorem d_Mo_walk_13 : decode c_Mo_walk 13 = .ok (.bipush 6, 2) := by decide +kernel
theorem d_Mo_walk_15 : decode c_Mo_walk 15 = .ok (.invokestatic 87, 3) := by decide +kernel
theorem d_Mo_walk_18 : decode c_Mo_walk 18 = .ok (.ifCond .ne 5, 3) := by decide +kernel
theorem d_Mo_walk_21 : decode c_Mo_walk 21 = .ok (.iconst (-1), 1) := by decide +kernel
theorem d_Mo_walk_22 : decode c_Mo_walk 22 = .ok (.ireturn, 1) := by decide +kernel
theorem d_Mo_walk_23 : decode c_Mo_walk 23 = .ok (.aload_n 0, 1) := by decide +kernel
theorem d_Mo_walk_24 : decode c_Mo_walk 24 = .ok (.getfield 91, 3) := by decide +kernel
theorem d_Mo_walk_27 : decode c_Mo_walk 27 = .ok (.ifCond .ne 6, 3) := by decide +kernel
theorem d_Mo_walk_30 : decode c_Mo_walk 30 = .ok (.bipush (-5), 2) := by decide +kernel
theorem d_Mo_walk_32 : decode c_Mo_walk 32 = .ok (.ireturn, 1) := by decide +kernel
theorem d_Mo_walk_33 : decode c_Mo_walk 33 = .ok (.aload_n 0, 1) := by decide +kernel
theorem d_Mo_walk_34 : decode c_Mo_walk 34 = .ok (.iconst 0, 1) := by decide +kernel
theorem d_Mo_walk_35 : decode c_Mo_walk 35 = .ok (.invokevirtual 139, 3) := by decide +kernel
theorem d_Mo_walk_38 : decode c_Mo_walk 38 = .ok (.ifCond .eq 6, 3) := by decide +kernel
theorem d_Mo_walk_41 : decode c_Mo_walk 41 = .ok (.bipush (-3), 2) := by decide +kernel
theorem d_Mo_walk_43 : decode c_Mo_walk 43 = .ok (.ireturn, 1) := by decide +kernel
theorem d_Mo_walk_44 : decode c_Mo_walk 44 = .ok (.aload_n 0, 1) := by decide +kernel
theorem d_Mo_walk_45 : decode c_Mo_walk 45 = .ok (.iload_n 2, 1) := by decide +kernel
theorem d_Mo_walk_46 : decode c_Mo_walk 46 = .ok (.putfield 192, 3) := by decide +kernel
theorem d_Mo_walk_49 : decode c_Mo_walk 49 = .ok (.aload_n 0, 1) := by decide +kernel
theorem d_Mo_walk_50 : decode c_Mo_walk 50 = .ok (.iload_n 3, 1) := by decide +kernel
theorem d_Mo_walk_51 : decode c_Mo_walk 51 = .ok (.invokevirtual 150, 3) := by decide +kernel
theorem d_Mo_walk_54 : decode c_Mo_walk 54 = .ok (.istore 4, 2) := by decide +kernel
theorem d_Mo_walk_56 : decode c_Mo_walk 56 = .ok (.iconst 0, 1) := by decide +kernel
theorem d_Mo_walk_57 : decode c_Mo_walk 57 = .ok (.istore 5, 2) := by decide +kernel
theorem d_Mo_walk_59 : decode c_Mo_walk 59 = .ok (.iload 5, 2) := by decide +kernel
theorem d_Mo_walk_61 : decode c_Mo_walk 61 = .ok (.aload_n 0, 1) := by decide +kernel
theorem d_Mo_walk_62 : decode c_Mo_walk 62 = .ok (.getfield 91, 3) := by decide +kernel
theorem d_Mo_walk_65 : decode c_Mo_walk 65 = .ok (.if_icmp .ge 23, 3) := by decide +kernel
theorem d_Mo_walk_68 : decode c_Mo_walk 68 = .ok (.aload_n 0, 1) := by decide +kernel
theorem d_Mo_walk_69 : decode c_Mo_walk 69 = .ok (.getfield 69, 3) := by decide +kernel
theorem d_Mo_walk_72 : decode c_Mo_walk 72 = .ok (.iload 5, 2) := by decide +kernel
theorem d_Mo_walk_74 : decode c_Mo_walk 74 = .ok (.aload_n 0, 1) := by decide +kernel
theorem d_Mo_walk_75 : decode c_Mo_walk 75 = .ok (.getfield 51, 3) := by decide +kernel
theorem d_Mo_walk_78 : decode c_Mo_walk 78 = .ok (.iload 5, 2) := by decide +kernel
theorem d_Mo_walk_80 : decode c_Mo_walk 80 = .ok (.iaload, 1) := by decide +kernel
theorem d_Mo_walk_81 : decode c_Mo_walk 81 = .ok (.iastore, 1) := by decide +kernel
theorem d_Mo_walk_82 : decode c_Mo_walk 82 = .ok (.iinc 5 1, 3) := by decide +kernel
theorem d_Mo_walk_85 : decode c_Mo_walk 85 = .ok (.goto (-26), 3) := by decide +kernel
theorem d_Mo_walk_88 : decode c_Mo_walk 88 = .ok (.iconst 0, 1) := by decide +kernel
theorem d_Mo_walk_89 : decode c_Mo_walk 89 = .ok (.istore 5, 2) := by decide +kernel
theorem d_Mo_walk_91 : decode c_Mo_walk 91 = .ok (.iload 5, 2) := by decide +kernel
theorem d_Mo_walk_93 : decode c_Mo_walk 93 = .ok (.bipush 6, 2) := by decide +kernel
theorem d_Mo_walk_95 : decode c_Mo_walk 95 = .ok (.if_icmp .ge 17, 3) := by decide +kernel
theorem d_Mo_walk_98 : decode c_Mo_walk 98 = .ok (.aload_n 0, 1) := by decide +kernel
theorem d_Mo_walk_99 : decode c_Mo_walk 99 = .ok (.getfield 72, 3) := by decide +kernel
theorem d_Mo_walk_102 : decode c_Mo_walk 102 = .ok (.iload 5, 2) := by decide +kernel
theorem d_Mo_walk_104 : decode c_Mo_walk 104 = .ok (.iconst 0, 1) := by decide +kernel
theorem d_Mo_walk_105 : decode c_Mo_walk 105 = .ok (.iastore, 1) := by decide +kernel
theorem d_Mo_walk_106 : decode c_Mo_walk 106 = .ok (.iinc 5 1, 3) := by decide +kernel
theorem d_Mo_walk_109 : decode c_Mo_walk 109 = .ok (.goto (-18), 3) := by decide +kernel
theorem d_Mo_walk_112 : decode c_Mo_walk 112 = .ok (.iconst 0, 1) := by decide +kernel
theorem d_Mo_walk_113 : decode c_Mo_walk 113 = .ok (.istore 5, 2) := by decide +kernel
theorem d_Mo_walk_115 : decode c_Mo_walk 115 = .ok (.iload 5, 2) := by decide +kernel
theorem d_Mo_walk_117 : decode c_Mo_walk 117 = .ok (.iload_n 1, 1) := by decide +kernel
theorem d_Mo_walk_118 : decode c_Mo_walk 118 = .ok (.if_icmp .ge 135, 3) := by decide +kernel
theorem d_Mo_walk_121 : decode c_Mo_walk 121 = .ok (.aload_n 0, 1) := by decide +kernel
theorem d_Mo_walk_122 : decode c_Mo_walk 122 = .ok (.getfield 72, 3) := by decide +kernel
theorem d_Mo_walk_125 : decode c_Mo_walk 125 = .ok (.iconst 5, 1) := by decide +kernel
theorem d_Mo_walk_126 : decode c_Mo_walk 126 = .ok (.dup2, 1) := by decide +kernel
theorem d_Mo_walk_127 : decode c_Mo_walk 127 = .ok (.iaload, 1) := by decide +kernel
theorem d_Mo_walk_128 : decode c_Mo_walk 128 = .ok (.aload_n 0, 1) := by decide +kernel
theorem d_Mo_walk_129 : decode c_Mo_walk 129 = .ok (.invokevirtual 209, 3) := by decide +kernel
theorem d_Mo_walk_132 : decode c_Mo_walk 132 = .ok (.ifCond .eq 7, 3) := by decide +kernel
theorem d_Mo_walk_135 : decode c_Mo_walk 135 = .ok (.iconst 1, 1) := by decide +kernel
theorem d_Mo_walk_136 : decode c_Mo_walk 136 = .ok (.goto 4, 3) := by decide +kernel
theorem d_Mo_walk_139 : decode c_Mo_walk 139 = .ok (.iconst 0, 1) := by decide +kernel
theorem d_Mo_walk_140 : decode c_Mo_walk 140 = .ok (.iadd, 1) := by decide +kernel
theorem d_Mo_walk_141 : decode c_Mo_walk 141 = .ok (.iastore, 1) := by decide +kernel
theorem d_Mo_walk_142 : decode c_Mo_walk 142 = .ok (.aload_n 0, 1) := by decide +kernel
theorem d_Mo_walk_143 : decode c_Mo_walk 143 = .ok (.iload_n 3, 1) := by decide +kernel
theorem d_Mo_walk_144 : decode c_Mo_walk 144 = .ok (.invokevirtual 150, 3) := by decide +kernel
theorem d_Mo_walk_147 : decode c_Mo_walk 147 = .ok (.istore 6, 2) := by decide +kernel
theorem d_Mo_walk_149 : decode c_Mo_walk 149 = .ok (.aload_n 0, 1) := by decide +kernel
theorem d_Mo_walk_150 : decode c_Mo_walk 150 = .ok (.getfield 72, 3) := by decide +kernel
theorem d_Mo_walk_153 : decode c_Mo_walk 153 = .ok (.iload 6, 2) := by decide +kernel
theorem d_Mo_walk_155 : decode c_Mo_walk 155 = .ok (.iload 4, 2) := by decide +kernel
theorem d_Mo_walk_157 : decode c_Mo_walk 157 = .ok (.if_icmp .ge 7, 3) := by decide +kernel
theorem d_Mo_walk_160 : decode c_Mo_walk 160 = .ok (.iconst 0, 1) := by decide +kernel
theorem d_Mo_walk_161 : decode c_Mo_walk 161 = .ok (.goto 15, 3) := by decide +kernel
theorem d_Mo_walk_164 : decode c_Mo_walk 164 = .ok (.iload 6, 2) := by decide +kernel
theorem d_Mo_walk_166 : decode c_Mo_walk 166 = .ok (.iload 4, 2) := by decide +kernel
theorem d_Mo_walk_168 : decode c_Mo_walk 168 = .ok (.if_icmp .ne 7, 3) := by decide +kernel
theorem d_Mo_walk_171 : decode c_Mo_walk 171 = .ok (.iconst 1, 1) := by decide +kernel
theorem d_Mo_walk_172 : decode c_Mo_walk 172 = .ok (.goto 4, 3) := by decide +kernel
theorem d_Mo_walk_175 : decode c_Mo_walk 175 = .ok (.iconst 2, 1) := by decide +kernel
theorem d_Mo_walk_176 : decode c_Mo_walk 176 = .ok (.dup2, 1) := by decide +kernel
theorem d_Mo_walk_177 : decode c_Mo_walk 177 = .ok (.iaload, 1) := by decide +kernel
theorem d_Mo_walk_178 : decode c_Mo_walk 178 = .ok (.iconst 1, 1) := by decide +kernel
theorem d_Mo_walk_179 : decode c_Mo_walk 179 = .ok (.iadd, 1) := by decide +kernel
theorem d_Mo_walk_180 : decode c_Mo_walk 180 = .ok (.iastore, 1) := by decide +kernel
theorem d_Mo_walk_181 : decode c_Mo_walk 181 = .ok (.aload_n 0, 1) := by decide +kernel
theorem d_Mo_walk_182 : decode c_Mo_walk 182 = .ok (.getfield 72, 3) := by decide +kernel
theorem d_Mo_walk_185 : decode c_Mo_walk 185 = .ok (.iconst 3, 1) := by decide +kernel
theorem d_Mo_walk_186 : decode c_Mo_walk 186 = .ok (.iload 5, 2) := by decide +kernel
theorem d_Mo_walk_188 : decode c_Mo_walk 188 = .ok (.ifCond .eq 14, 3) := by decide +kernel
theorem d_Mo_walk_191 : decode c_Mo_walk 191 = .ok (.iload 6, 2) := by decide +kernel
theorem d_Mo_walk_193 : decode c_Mo_walk 193 = .ok (.aload_n 0, 1) := by decide +kernel
theorem d_Mo_walk_194 : decode c_Mo_walk 194 = .ok (.getfield 72, 3) := by decide +kernel
theorem d_Mo_walk_197 : decode c_Mo_walk 197 = .ok (.iconst 3, 1) := by decide +kernel
theorem d_Mo_walk_198 : decode c_Mo_walk 198 = .ok (.iaload, 1) := by decide +kernel
theorem d_Mo_walk_199 : decode c_Mo_walk 199 = .ok (.if_icmp .ge 8, 3) := by decide +kernel
theorem d_Mo_walk_202 : decode c_Mo_walk 202 = .ok (.iload 6, 2) := by decide +kernel
theorem d_Mo_walk_204 : decode c_Mo_walk 204 = .ok (.goto 9, 3) := by decide +kernel
theorem d_Mo_walk_207 : decode c_Mo_walk 207 = .ok (.aload_n 0, 1) := by decide +kernel
theorem d_Mo_walk_208 : decode c_Mo_walk 208 = .ok (.getfield 72, 3) := by decide +kernel
theorem d_Mo_walk_211 : decode c_Mo_walk 211 = .ok (.iconst 3, 1) := by decide +kernel
theorem d_Mo_walk_212 : decode c_Mo_walk 212 = .ok (.iaload, 1) := by decide +kernel
theorem d_Mo_walk_213 : decode c_Mo_walk 213 = .ok (.iastore, 1) := by decide +kernel
theorem d_Mo_walk_214 : decode c_Mo_walk 214 = .ok (.aload_n 0, 1) := by decide +kernel
theorem d_Mo_walk_215 : decode c_Mo_walk 215 = .ok (.getfield 72, 3) := by decide +kernel
theorem d_Mo_walk_218 : decode c_Mo_walk 218 = .ok (.iconst 4, 1) := by decide +kernel
theorem d_Mo_walk_219 : decode c_Mo_walk 219 = .ok (.iload 5, 2) := by decide +kernel
theorem d_Mo_walk_221 : decode c_Mo_walk 221 = .ok (.ifCond .eq 14, 3) := by decide +kernel
theorem d_Mo_walk_224 : decode c_Mo_walk 224 = .ok (.iload 6, 2) := by decide +kernel
theorem d_Mo_walk_226 : decode c_Mo_walk 226 = .ok (.aload_n 0, 1) := by decide +kernel
theorem d_Mo_walk_227 : decode c_Mo_walk 227 = .ok (.getfield 72, 3) := by decide +kernel
theorem d_Mo_walk_230 : decode c_Mo_walk 230 = .ok (.iconst 4, 1) := by decide +kernel
theorem d_Mo_walk_231 : decode c_Mo_walk 231 = .ok (.iaload, 1) := by decide +kernel
theorem d_Mo_walk_232 : decode c_Mo_walk 232 = .ok (.if_icmp .le 8, 3) := by decide +kernel
theorem d_Mo_walk_235 : decode c_Mo_walk 235 = .ok (.iload 6, 2) := by decide +kernel
theorem d_Mo_walk_237 : decode c_Mo_walk 237 = .ok (.goto 9, 3) := by decide +kernel
theorem d_Mo_walk_240 : decode c_Mo_walk 240 = .ok (.aload_n 0, 1) := by decide +kernel
theorem d_Mo_walk_241 : decode c_Mo_walk 241 = .ok (.getfield 72, 3) := by decide +kernel
theorem d_Mo_walk_244 : decode c_Mo_walk 244 = .ok (.iconst 4, 1) := by decide +kernel
theorem d_Mo_walk_245 : decode c_Mo_walk 245 = .ok (.iaload, 1) := by decide +kernel
theorem d_Mo_walk_246 : decode c_Mo_walk 246 = .ok (.iastore, 1) := by decide +kernel
theorem d_Mo_walk_247 : decode c_Mo_walk 247 = .ok (.iinc 5 1, 3) := by decide +kernel
theorem d_Mo_walk_250 : decode c_Mo_walk 250 = .ok (.goto (-135), 3) := by decide +kernel
theorem d_Mo_walk_253 : decode c_Mo_walk 253 = .ok (.iconst 0, 1) := by decide +kernel
theorem d_Mo_walk_254 : decode c_Mo_walk 254 = .ok (.istore 5, 2) := by decide +kernel
theorem d_Mo_walk_256 : decode c_Mo_walk 256 = .ok (.iload 5, 2) := by decide +kernel
theorem d_Mo_walk_258 : decode c_Mo_walk 258 = .ok (.aload_n 0, 1) := by decide +kernel
theorem d_Mo_walk_259 : decode c_Mo_walk 259 = .ok (.getfield 91, 3) := by decide +kernel
theorem d_Mo_walk_262 : decode c_Mo_walk 262 = .ok (.if_icmp .ge 23, 3) := by decide +kernel
theorem d_Mo_walk_265 : decode c_Mo_walk 265 = .ok (.aload_n 0, 1) := by decide +kernel
theorem d_Mo_walk_266 : decode c_Mo_walk 266 = .ok (.getfield 51, 3) := by decide +kernel
theorem d_Mo_walk_269 : decode c_Mo_walk 269 = .ok (.iload 5, 2) := by decide +kernel
theorem d_Mo_walk_271 : decode c_Mo_walk 271 = .ok (.aload_n 0, 1) := by decide +kernel
theorem d_Mo_walk_272 : decode c_Mo_walk 272 = .ok (.getfield 69, 3) := by decide +kernel
theorem d_Mo_walk_275 : decode c_Mo_walk 275 = .ok (.iload 5, 2) := by decide +kernel
theorem d_Mo_walk_277 : decode c_Mo_walk 277 = .ok (.iaload, 1) := by decide +kernel
theorem d_Mo_walk_278 : decode c_Mo_walk 278 = .ok (.iastore, 1) := by decide +kernel
theorem d_Mo_walk_279 : decode c_Mo_walk 279 = .ok (.iinc 5 1, 3) := by decide +kernel
theorem d_Mo_walk_282 : decode c_Mo_walk 282 = .ok (.goto (-26), 3) := by decide +kernel
theorem d_Mo_walk_285 : decode c_Mo_walk 285 = .ok (.aload_n 0, 1) := by decide +kernel
theorem d_Mo_walk_286 : decode c_Mo_walk 286 = .ok (.iconst 1, 1) := by decide +kernel
theorem d_Mo_walk_287 : decode c_Mo_walk 287 = .ok (.putfield 213, 3) := by decide +kernel
theorem d_Mo_walk_290 : decode c_Mo_walk 290 = .ok (.aload_n 0, 1) := by decide +kernel
theorem d_Mo_walk_291 : decode c_Mo_walk 291 = .ok (.getfield 72, 3) := by decide +kernel
theorem d_Mo_walk_294 : decode c_Mo_walk 294 = .ok (.iconst 0, 1) := by decide +kernel
theorem d_Mo_walk_295 : decode c_Mo_walk 295 = .ok (.iaload, 1) := by decide +kernel
theorem d_Mo_walk_296 : decode c_Mo_walk 296 = .ok (.ireturn, 1) := by decide +kernel
theorem d_Mo_seen_0 : decode c_Mo_seen 0 = .ok (.aload_n 0, 1) := by decide +kernel
theorem d_Mo_seen_1 : decode c_Mo_seen 1 = .ok (.getfield 213, 3) := by decide +kernel
theorem d_Mo_seen_4 : decode c_Mo_seen 4 = .ok (.ifCond .eq 21, 3) := by decide +kernel
theorem d_Mo_seen_7 : decode c_Mo_seen 7 = .ok (.iload_n 1, 1) := by decide +kernel
theorem d_Mo_seen_8 : decode c_Mo_seen 8 = .ok (.iconst 0, 1) := by decide +kernel
theorem d_Mo_seen_9 : decode c_Mo_seen 9 = .ok (.iconst 5, 1) := by decide +kernel
theorem d_Mo_seen_10 : decode c_Mo_seen 10 = .ok (.invokestatic 87, 3) := by decide +kernel
theorem d_Mo_seen_13 : decode c_Mo_seen 13 = .ok (.ifCond .eq 12, 3) := by decide +kernel
theorem d_Mo_seen_16 : decode c_Mo_seen 16 = .ok (.aload_n 0, 1) := by decide +kernel
theorem d_Mo_seen_17 : decode c_Mo_seen 17 = .ok (.getfield 72, 3) := by decide +kernel
theorem d_Mo_seen_20 : decode c_Mo_seen 20 = .ok (.iload_n 1, 1) := by decide +kernel
theorem d_Mo_seen_21 : decode c_Mo_seen 21 = .ok (.iaload, 1) := by decide +kernel
theorem d_Mo_seen_22 : decode c_Mo_seen 22 = .ok (.goto 4, 3) := by decide +kernel
theorem d_Mo_seen_25 : decode c_Mo_seen 25 = .ok (.iconst (-1), 1) := by decide +kernel
theorem d_Mo_seen_26 : decode c_Mo_seen 26 = .ok (.ireturn, 1) := by decide +kernel
theorem d_Mo_betters_0 : decode c_Mo_betters 0 = .ok (.aload_n 0, 1) := by decide +kernel
theorem d_Mo_betters_1 : decode c_Mo_betters 1 = .ok (.iconst 0, 1) := by decide +kernel
theorem d_Mo_betters_2 : decode c_Mo_betters 2 = .ok (.invokevirtual 150, 3) := by decide +kernel
theorem d_Mo_betters_5 : decode c_Mo_betters 5 = .ok (.istore_n 1, 1) := by decide +kernel
theorem d_Mo_betters_6 : decode c_Mo_betters 6 = .ok (.iconst 0, 1) := by decide +kernel
theorem d_Mo_betters_7 : decode c_Mo_betters 7 = .ok (.istore_n 2, 1) := by decide +kernel
theorem d_Mo_betters_8 : decode c_Mo_betters 8 = .ok (.iload_n 2, 1) := by decide +kernel
theorem d_Mo_betters_9 : decode c_Mo_betters 9 = .ok (.aload_n 0, 1) := by decide +kernel
theorem d_Mo_betters_10 : decode c_Mo_betters 10 = .ok (.getfield 91, 3) := by decide +kernel
theorem d_Mo_betters_13 : decode c_Mo_betters 13 = .ok (.if_icmp .ge 74, 3) := by decide +kernel
theorem d_Mo_betters_16 : decode c_Mo_betters 16 = .ok (.aload_n 0, 1) := by decide +kernel
theorem d_Mo_betters_17 : decode c_Mo_betters 17 = .ok (.getfield 51, 3) := by decide +kernel
theorem d_Mo_betters_20 : decode c_Mo_betters 20 = .ok (.iload_n 2, 1) := by decide +kernel
theorem d_Mo_betters_21 : decode c_Mo_betters 21 = .ok (.iaload, 1) := by decide +kernel
theorem d_Mo_betters_22 : decode c_Mo_betters 22 = .ok (.istore_n 3, 1) := by decide +kernel
theorem d_Mo_betters_23 : decode c_Mo_betters 23 = .ok (.iconst 0, 1) := by decide +kernel
theorem d_Mo_betters_24 : decode c_Mo_betters 24 = .ok (.istore 4, 2) := by decide +kernel
theorem d_Mo_betters_26 : decode c_Mo_betters 26 = .ok (.iload 4, 2) := by decide +kernel
theorem d_Mo_betters_28 : decode c_Mo_betters 28 = .ok (.aload_n 0, 1) := by decide +kernel
theorem d_Mo_betters_29 : decode c_Mo_betters 29 = .ok (.getfield 34, 3) := by decide +kernel
theorem d_Mo_betters_32 : decode c_Mo_betters 32 = .ok (.if_icmp .ge 42, 3) := by decide +kernel
theorem d_Mo_betters_35 : decode c_Mo_betters 35 = .ok (.aload_n 0, 1) := by decide +kernel
theorem d_Mo_betters_36 : decode c_Mo_betters 36 = .ok (.getfield 51, 3) := by decide +kernel
theorem d_Mo_betters_39 : decode c_Mo_betters 39 = .ok (.iload_n 2, 1) := by decide +kernel
theorem d_Mo_betters_40 : decode c_Mo_betters 40 = .ok (.iload 4, 2) := by decide +kernel
theorem d_Mo_betters_42 : decode c_Mo_betters 42 = .ok (.iastore, 1) := by decide +kernel
theorem d_Mo_betters_43 : decode c_Mo_betters 43 = .ok (.iload 4, 2) := by decide +kernel
theorem d_Mo_betters_45 : decode c_Mo_betters 45 = .ok (.iload_n 3, 1) := by decide +kernel
theorem d_Mo_betters_46 : decode c_Mo_betters 46 = .ok (.if_icmp .eq 22, 3) := by decide +kernel
theorem d_Mo_betters_49 : decode c_Mo_betters 49 = .ok (.aload_n 0, 1) := by decide +kernel
theorem d_Mo_betters_50 : decode c_Mo_betters 50 = .ok (.iconst 0, 1) := by decide +kernel
theorem d_Mo_betters_51 : decode c_Mo_betters 51 = .ok (.invokevirtual 150, 3) := by decide +kernel
theorem d_Mo_betters_54 : decode c_Mo_betters 54 = .ok (.iload_n 1, 1) := by decide +kernel
theorem d_Mo_betters_55 : decode c_Mo_betters 55 = .ok (.if_icmp .ge 13, 3) := by decide +kernel
theorem d_Mo_betters_58 : decode c_Mo_betters 58 = .ok (.aload_n 0, 1) := by decide +kernel
theorem d_Mo_betters_59 : decode c_Mo_betters 59 = .ok (.iconst 0, 1) := by decide +kernel
theorem d_Mo_betters_60 : decode c_Mo_betters 60 = .ok (.invokevirtual 139, 3) := by decide +kernel
theorem d_Mo_betters_63 : decode c_Mo_betters 63 = .ok (.ifCond .ne 5, 3) := by decide +kernel
theorem d_Mo_betters_66 : decode c_Mo_betters 66 = .ok (.iconst 1, 1) := by decide +kernel
theorem d_Mo_betters_67 : decode c_Mo_betters 67 = .ok (.ireturn, 1) := by decide +kernel
theorem d_Mo_betters_68 : decode c_Mo_betters 68 = .ok (.iinc 4 1, 3) := by decide +kernel
theorem d_Mo_betters_71 : decode c_Mo_betters 71 = .ok (.goto (-45), 3) := by decide +kernel
theorem d_Mo_betters_74 : decode c_Mo_betters 74 = .ok (.aload_n 0, 1) := by decide +kernel
theorem d_Mo_betters_75 : decode c_Mo_betters 75 = .ok (.getfield 51, 3) := by decide +kernel
theorem d_Mo_betters_78 : decode c_Mo_betters 78 = .ok (.iload_n 2, 1) := by decide +kernel
theorem d_Mo_betters_79 : decode c_Mo_betters 79 = .ok (.iload_n 3, 1) := by decide +kernel
theorem d_Mo_betters_80 : decode c_Mo_betters 80 = .ok (.iastore, 1) := by decide +kernel
theorem d_Mo_betters_81 : decode c_Mo_betters 81 = .ok (.iinc 2 1, 3) := by decide +kernel
theorem d_Mo_betters_84 : decode c_Mo_betters 84 = .ok (.goto (-76), 3) := by decide +kernel
theorem d_Mo_betters_87 : decode c_Mo_betters 87 = .ok (.iconst 0, 1) := by decide +kernel
theorem d_Mo_betters_88 : decode c_Mo_betters 88 = .ok (.ireturn, 1) := by decide +kernel
theorem d_Mo_better_0 : decode c_Mo_better 0 = .ok (.aload_n 0, 1) := by decide +kernel
theorem d_Mo_better_1 : decode c_Mo_better 1 = .ok (.getfield 91, 3) := by decide +kernel
theorem d_Mo_better_4 : decode c_Mo_better 4 = .ok (.ifCond .ne 6, 3) := by decide +kernel
theorem d_Mo_better_7 : decode c_Mo_better 7 = .ok (.bipush (-5), 2) := by decide +kernel
theorem d_Mo_better_9 : decode c_Mo_better 9 = .ok (.ireturn, 1) := by decide +kernel
theorem d_Mo_better_10 : decode c_Mo_better 10 = .ok (.aload_n 0, 1) := by decide +kernel
theorem d_Mo_better_11 : decode c_Mo_better 11 = .ok (.iconst 0, 1) := by decide +kernel
theorem d_Mo_better_12 : decode c_Mo_better 12 = .ok (.invokevirtual 139, 3) := by decide +kernel
theorem d_Mo_better_15 : decode c_Mo_better 15 = .ok (.ifCond .eq 6, 3) := by decide +kernel
theorem d_Mo_better_18 : decode c_Mo_better 18 = .ok (.bipush (-3), 2) := by decide +kernel
theorem d_Mo_better_20 : decode c_Mo_better 20 = .ok (.ireturn, 1) := by decide +kernel
theorem d_Mo_better_21 : decode c_Mo_better 21 = .ok (.iconst 0, 1) := by decide +kernel
theorem d_Mo_better_22 : decode c_Mo_better 22 = .ok (.istore_n 1, 1) := by decide +kernel
theorem d_Mo_better_23 : decode c_Mo_better 23 = .ok (.aload_n 0, 1) := by decide +kernel
theorem d_Mo_better_24 : decode c_Mo_better 24 = .ok (.invokevirtual 217, 3) := by decide +kernel
theorem d_Mo_better_27 : decode c_Mo_better 27 = .ok (.ifCond .eq 9, 3) := by decide +kernel
theorem d_Mo_better_30 : decode c_Mo_better 30 = .ok (.iinc 1 1, 3) := by decide +kernel
theorem d_Mo_better_33 : decode c_Mo_better 33 = .ok (.goto (-10), 3) := by decide +kernel
theorem d_Mo_better_36 : decode c_Mo_better 36 = .ok (.iload_n 1, 1) := by decide +kernel
theorem d_Mo_better_37 : decode c_Mo_better 37 = .ok (.ireturn, 1) := by decide +kernel
theorem d_Mo_offer_0 : decode c_Mo_offer 0 = .ok (.aload_n 0, 1) := by decide +kernel
theorem d_Mo_offer_1 : decode c_Mo_offer 1 = .ok (.iconst 0, 1) := by decide +kernel
theorem d_Mo_offer_2 : decode c_Mo_offer 2 = .ok (.invokevirtual 139, 3) := by decide +kernel
theorem d_Mo_offer_5 : decode c_Mo_offer 5 = .ok (.ifCond .eq 4, 3) := by decide +kernel
theorem d_Mo_offer_8 : decode c_Mo_offer 8 = .ok (.return_, 1) := by decide +kernel
theorem d_Mo_offer_9 : decode c_Mo_offer 9 = .ok (.aload_n 0, 1) := by decide +kernel
theorem d_Mo_offer_10 : decode c_Mo_offer 10 = .ok (.getfield 220, 3) := by decide +kernel
theorem d_Mo_offer_13 : decode c_Mo_offer 13 = .ok (.ifCond .lt 27, 3) := by decide +kernel
theorem d_Mo_offer_16 : decode c_Mo_offer 16 = .ok (.iload_n 1, 1) := by decide +kernel
theorem d_Mo_offer_17 : decode c_Mo_offer 17 = .ok (.aload_n 0, 1) := by decide +kernel
theorem d_Mo_offer_18 : decode c_Mo_offer 18 = .ok (.getfield 223, 3) := by decide +kernel
theorem d_Mo_offer_21 : decode c_Mo_offer 21 = .ok (.if_icmp .lt 19, 3) := by decide +kernel
theorem d_Mo_offer_24 : decode c_Mo_offer 24 = .ok (.iload_n 1, 1) := by decide +kernel
theorem d_Mo_offer_25 : decode c_Mo_offer 25 = .ok (.aload_n 0, 1) := by decide +kernel
theorem d_Mo_offer_26 : decode c_Mo_offer 26 = .ok (.getfield 223, 3) := by decide +kernel
theorem d_Mo_offer_29 : decode c_Mo_offer 29 = .ok (.if_icmp .ne 15, 3) := by decide +kernel
theorem d_Mo_offer_32 : decode c_Mo_offer 32 = .ok (.iload_n 2, 1) := by decide +kernel
theorem d_Mo_offer_33 : decode c_Mo_offer 33 = .ok (.aload_n 0, 1) := by decide +kernel
theorem d_Mo_offer_34 : decode c_Mo_offer 34 = .ok (.getfield 220, 3) := by decide +kernel
theorem d_Mo_offer_37 : decode c_Mo_offer 37 = .ok (.if_icmp .ge 7, 3) := by decide +kernel
theorem d_Mo_offer_40 : decode c_Mo_offer 40 = .ok (.iconst 1, 1) := by decide +kernel
theorem d_Mo_offer_41 : decode c_Mo_offer 41 = .ok (.goto 4, 3) := by decide +kernel
theorem d_Mo_offer_44 : decode c_Mo_offer 44 = .ok (.iconst 0, 1) := by decide +kernel
theorem d_Mo_offer_45 : decode c_Mo_offer 45 = .ok (.istore_n 3, 1) := by decide +kernel
theorem d_Mo_offer_46 : decode c_Mo_offer 46 = .ok (.iload_n 3, 1) := by decide +kernel
theorem d_Mo_offer_47 : decode c_Mo_offer 47 = .ok (.ifCond .ne 86, 3) := by decide +kernel
theorem d_Mo_offer_50 : decode c_Mo_offer 50 = .ok (.iload_n 1, 1) := by decide +kernel
theorem d_Mo_offer_51 : decode c_Mo_offer 51 = .ok (.aload_n 0, 1) := by decide +kernel
theorem d_Mo_offer_52 : decode c_Mo_offer 52 = .ok (.getfield 223, 3) := by decide +kernel
theorem d_Mo_offer_55 : decode c_Mo_offer 55 = .ok (.if_icmp .ne 78, 3) := by decide +kernel
theorem d_Mo_offer_58 : decode c_Mo_offer 58 = .ok (.iload_n 2, 1) := by decide +kernel
theorem d_Mo_offer_59 : decode c_Mo_offer 59 = .ok (.aload_n 0, 1) := by decide +kernel
theorem d_Mo_offer_60 : decode c_Mo_offer 60 = .ok (.getfield 220, 3) := by decide +kernel
theorem d_Mo_offer_63 : decode c_Mo_offer 63 = .ok (.if_icmp .ne 70, 3) := by decide +kernel
theorem d_Mo_offer_66 : decode c_Mo_offer 66 = .ok (.iconst 0, 1) := by decide +kernel
