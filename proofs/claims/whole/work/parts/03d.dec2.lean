theorem dX7_brings_142 : decode cX7_brings 142 = .ok (.iconst 0, 1) := by decide +kernel
theorem dX7_brings_143 : decode cX7_brings 143 = .ok (.iastore, 1) := by decide +kernel
theorem dX7_brings_144 : decode cX7_brings 144 = .ok (.iconst 0, 1) := by decide +kernel
theorem dX7_brings_145 : decode cX7_brings 145 = .ok (.istore 7, 2) := by decide +kernel
theorem dX7_brings_147 : decode cX7_brings 147 = .ok (.iload 7, 2) := by decide +kernel
theorem dX7_brings_149 : decode cX7_brings 149 = .ok (.aload_n 0, 1) := by decide +kernel
theorem dX7_brings_150 : decode cX7_brings 150 = .ok (.getfield 17, 3) := by decide +kernel
theorem dX7_brings_153 : decode cX7_brings 153 = .ok (.iconst 2, 1) := by decide +kernel
theorem dX7_brings_154 : decode cX7_brings 154 = .ok (.iaload, 1) := by decide +kernel
theorem dX7_brings_155 : decode cX7_brings 155 = .ok (.if_icmp .ge 47, 3) := by decide +kernel
theorem dX7_brings_158 : decode cX7_brings 158 = .ok (.iload_n 2, 1) := by decide +kernel
theorem dX7_brings_159 : decode cX7_brings 159 = .ok (.bipush 16, 2) := by decide +kernel
theorem dX7_brings_161 : decode cX7_brings 161 = .ok (.if_icmp .eq 41, 3) := by decide +kernel
theorem dX7_brings_164 : decode cX7_brings 164 = .ok (.aload_n 0, 1) := by decide +kernel
theorem dX7_brings_165 : decode cX7_brings 165 = .ok (.getfield 53, 3) := by decide +kernel
theorem dX7_brings_168 : decode cX7_brings 168 = .ok (.iload 5, 2) := by decide +kernel
theorem dX7_brings_170 : decode cX7_brings 170 = .ok (.iconst 5, 1) := by decide +kernel
theorem dX7_brings_171 : decode cX7_brings 171 = .ok (.iadd, 1) := by decide +kernel
theorem dX7_brings_172 : decode cX7_brings 172 = .ok (.iload 7, 2) := by decide +kernel
theorem dX7_brings_174 : decode cX7_brings 174 = .ok (.iadd, 1) := by decide +kernel
theorem dX7_brings_175 : decode cX7_brings 175 = .ok (.aload_n 0, 1) := by decide +kernel
theorem dX7_brings_176 : decode cX7_brings 176 = .ok (.getfield 53, 3) := by decide +kernel
theorem dX7_brings_179 : decode cX7_brings 179 = .ok (.sipush 254, 3) := by decide +kernel
theorem dX7_brings_182 : decode cX7_brings 182 = .ok (.aload_n 0, 1) := by decide +kernel
theorem dX7_brings_183 : decode cX7_brings 183 = .ok (.getfield 17, 3) := by decide +kernel
theorem dX7_brings_186 : decode cX7_brings 186 = .ok (.iconst 2, 1) := by decide +kernel
theorem dX7_brings_187 : decode cX7_brings 187 = .ok (.iaload, 1) := by decide +kernel
theorem dX7_brings_188 : decode cX7_brings 188 = .ok (.iload_n 2, 1) := by decide +kernel
theorem dX7_brings_189 : decode cX7_brings 189 = .ok (.imul, 1) := by decide +kernel
theorem dX7_brings_190 : decode cX7_brings 190 = .ok (.iadd, 1) := by decide +kernel
theorem dX7_brings_191 : decode cX7_brings 191 = .ok (.iload 7, 2) := by decide +kernel
theorem dX7_brings_193 : decode cX7_brings 193 = .ok (.iadd, 1) := by decide +kernel
theorem dX7_brings_194 : decode cX7_brings 194 = .ok (.iaload, 1) := by decide +kernel
theorem dX7_brings_195 : decode cX7_brings 195 = .ok (.iastore, 1) := by decide +kernel
theorem dX7_brings_196 : decode cX7_brings 196 = .ok (.iinc 7 1, 3) := by decide +kernel
theorem dX7_brings_199 : decode cX7_brings 199 = .ok (.goto (-52), 3) := by decide +kernel
theorem dX7_brings_202 : decode cX7_brings 202 = .ok (.aload_n 0, 1) := by decide +kernel
theorem dX7_brings_203 : decode cX7_brings 203 = .ok (.getfield 53, 3) := by decide +kernel
theorem dX7_brings_206 : decode cX7_brings 206 = .ok (.iconst 1, 1) := by decide +kernel
theorem dX7_brings_207 : decode cX7_brings 207 = .ok (.dup2, 1) := by decide +kernel
theorem dX7_brings_208 : decode cX7_brings 208 = .ok (.iaload, 1) := by decide +kernel
theorem dX7_brings_209 : decode cX7_brings 209 = .ok (.iconst 1, 1) := by decide +kernel
theorem dX7_brings_210 : decode cX7_brings 210 = .ok (.iadd, 1) := by decide +kernel
theorem dX7_brings_211 : decode cX7_brings 211 = .ok (.iastore, 1) := by decide +kernel
theorem dX7_brings_212 : decode cX7_brings 212 = .ok (.iload_n 3, 1) := by decide +kernel
theorem dX7_brings_213 : decode cX7_brings 213 = .ok (.ifCond .eq 13, 3) := by decide +kernel
theorem dX7_brings_216 : decode cX7_brings 216 = .ok (.aload_n 0, 1) := by decide +kernel
theorem dX7_brings_217 : decode cX7_brings 217 = .ok (.getfield 53, 3) := by decide +kernel
theorem dX7_brings_220 : decode cX7_brings 220 = .ok (.iload 5, 2) := by decide +kernel
theorem dX7_brings_222 : decode cX7_brings 222 = .ok (.iconst 1, 1) := by decide +kernel
theorem dX7_brings_223 : decode cX7_brings 223 = .ok (.iadd, 1) := by decide +kernel
theorem dX7_brings_224 : decode cX7_brings 224 = .ok (.iconst 3, 1) := by decide +kernel
theorem dX7_brings_225 : decode cX7_brings 225 = .ok (.iastore, 1) := by decide +kernel
theorem dX7_brings_226 : decode cX7_brings 226 = .ok (.aload_n 0, 1) := by decide +kernel
theorem dX7_brings_227 : decode cX7_brings 227 = .ok (.getfield 53, 3) := by decide +kernel
theorem dX7_brings_230 : decode cX7_brings 230 = .ok (.iload 5, 2) := by decide +kernel
theorem dX7_brings_232 : decode cX7_brings 232 = .ok (.iconst 4, 1) := by decide +kernel
theorem dX7_brings_233 : decode cX7_brings 233 = .ok (.iadd, 1) := by decide +kernel
theorem dX7_brings_234 : decode cX7_brings 234 = .ok (.aload_n 0, 1) := by decide +kernel
theorem dX7_brings_235 : decode cX7_brings 235 = .ok (.getfield 53, 3) := by decide +kernel
theorem dX7_brings_238 : decode cX7_brings 238 = .ok (.iconst 0, 1) := by decide +kernel
theorem dX7_brings_239 : decode cX7_brings 239 = .ok (.iaload, 1) := by decide +kernel
theorem dX7_brings_240 : decode cX7_brings 240 = .ok (.iastore, 1) := by decide +kernel
theorem dX7_brings_241 : decode cX7_brings 241 = .ok (.iload 5, 2) := by decide +kernel
theorem dX7_brings_243 : decode cX7_brings 243 = .ok (.ireturn, 1) := by decide +kernel
theorem dX7_waits_0 : decode cX7_waits 0 = .ok (.aload_n 0, 1) := by decide +kernel
theorem dX7_waits_1 : decode cX7_waits 1 = .ok (.getfield 53, 3) := by decide +kernel
theorem dX7_waits_4 : decode cX7_waits 4 = .ok (.iload_n 1, 1) := by decide +kernel
theorem dX7_waits_5 : decode cX7_waits 5 = .ok (.bipush 13, 2) := by decide +kernel
theorem dX7_waits_7 : decode cX7_waits 7 = .ok (.invokestatic 244, 3) := by decide +kernel
theorem dX7_waits_10 : decode cX7_waits 10 = .ok (.dup2, 1) := by decide +kernel
theorem dX7_waits_11 : decode cX7_waits 11 = .ok (.iaload, 1) := by decide +kernel
theorem dX7_waits_12 : decode cX7_waits 12 = .ok (.iconst 1, 1) := by decide +kernel
theorem dX7_waits_13 : decode cX7_waits 13 = .ok (.iadd, 1) := by decide +kernel
theorem dX7_waits_14 : decode cX7_waits 14 = .ok (.iastore, 1) := by decide +kernel
theorem dX7_waits_15 : decode cX7_waits 15 = .ok (.iconst 2, 1) := by decide +kernel
theorem dX7_waits_16 : decode cX7_waits 16 = .ok (.ireturn, 1) := by decide +kernel
theorem dX7_begin_0 : decode cX7_begin 0 = .ok (.aload_n 0, 1) := by decide +kernel
theorem dX7_begin_1 : decode cX7_begin 1 = .ok (.getfield 53, 3) := by decide +kernel
theorem dX7_begin_4 : decode cX7_begin 4 = .ok (.iconst 5, 1) := by decide +kernel
theorem dX7_begin_5 : decode cX7_begin 5 = .ok (.iaload, 1) := by decide +kernel
theorem dX7_begin_6 : decode cX7_begin 6 = .ok (.bipush (-2), 2) := by decide +kernel
theorem dX7_begin_8 : decode cX7_begin 8 = .ok (.if_icmp .eq 9, 3) := by decide +kernel
theorem dX7_begin_11 : decode cX7_begin 11 = .ok (.aload_n 0, 1) := by decide +kernel
theorem dX7_begin_12 : decode cX7_begin 12 = .ok (.iload_n 1, 1) := by decide +kernel
theorem dX7_begin_13 : decode cX7_begin 13 = .ok (.invokevirtual 281, 3) := by decide +kernel
theorem dX7_begin_16 : decode cX7_begin 16 = .ok (.ireturn, 1) := by decide +kernel
theorem dX7_begin_17 : decode cX7_begin 17 = .ok (.aload_n 0, 1) := by decide +kernel
theorem dX7_begin_18 : decode cX7_begin 18 = .ok (.getfield 53, 3) := by decide +kernel
theorem dX7_begin_21 : decode cX7_begin 21 = .ok (.iload_n 1, 1) := by decide +kernel
theorem dX7_begin_22 : decode cX7_begin 22 = .ok (.iconst 4, 1) := by decide +kernel
theorem dX7_begin_23 : decode cX7_begin 23 = .ok (.invokestatic 244, 3) := by decide +kernel
theorem dX7_begin_26 : decode cX7_begin 26 = .ok (.iaload, 1) := by decide +kernel
theorem dX7_begin_27 : decode cX7_begin 27 = .ok (.aload_n 0, 1) := by decide +kernel
theorem dX7_begin_28 : decode cX7_begin 28 = .ok (.getfield 240, 3) := by decide +kernel
theorem dX7_begin_31 : decode cX7_begin 31 = .ok (.if_icmp .ge 53, 3) := by decide +kernel
theorem dX7_begin_34 : decode cX7_begin 34 = .ok (.aload_n 0, 1) := by decide +kernel
theorem dX7_begin_35 : decode cX7_begin 35 = .ok (.iload_n 1, 1) := by decide +kernel
theorem dX7_begin_36 : decode cX7_begin 36 = .ok (.bipush 16, 2) := by decide +kernel
theorem dX7_begin_38 : decode cX7_begin 38 = .ok (.iconst 0, 1) := by decide +kernel
theorem dX7_begin_39 : decode cX7_begin 39 = .ok (.invokevirtual 284, 3) := by decide +kernel
theorem dX7_begin_42 : decode cX7_begin 42 = .ok (.istore_n 2, 1) := by decide +kernel
theorem dX7_begin_43 : decode cX7_begin 43 = .ok (.iload_n 2, 1) := by decide +kernel
theorem dX7_begin_44 : decode cX7_begin 44 = .ok (.iconst 2, 1) := by decide +kernel
theorem dX7_begin_45 : decode cX7_begin 45 = .ok (.if_icmp .ne 9, 3) := by decide +kernel
theorem dX7_begin_48 : decode cX7_begin 48 = .ok (.aload_n 0, 1) := by decide +kernel
theorem dX7_begin_49 : decode cX7_begin 49 = .ok (.iload_n 1, 1) := by decide +kernel
theorem dX7_begin_50 : decode cX7_begin 50 = .ok (.invokevirtual 281, 3) := by decide +kernel
theorem dX7_begin_53 : decode cX7_begin 53 = .ok (.ireturn, 1) := by decide +kernel
theorem dX7_begin_54 : decode cX7_begin 54 = .ok (.aload_n 0, 1) := by decide +kernel
theorem dX7_begin_55 : decode cX7_begin 55 = .ok (.getfield 53, 3) := by decide +kernel
theorem dX7_begin_58 : decode cX7_begin 58 = .ok (.aload_n 0, 1) := by decide +kernel
theorem dX7_begin_59 : decode cX7_begin 59 = .ok (.iload_n 1, 1) := by decide +kernel
theorem dX7_begin_60 : decode cX7_begin 60 = .ok (.bipush 16, 2) := by decide +kernel
theorem dX7_begin_62 : decode cX7_begin 62 = .ok (.iconst 0, 1) := by decide +kernel
theorem dX7_begin_63 : decode cX7_begin 63 = .ok (.invokevirtual 288, 3) := by decide +kernel
theorem dX7_begin_66 : decode cX7_begin 66 = .ok (.iconst 2, 1) := by decide +kernel
theorem dX7_begin_67 : decode cX7_begin 67 = .ok (.iadd, 1) := by decide +kernel
theorem dX7_begin_68 : decode cX7_begin 68 = .ok (.iconst 1, 1) := by decide +kernel
theorem dX7_begin_69 : decode cX7_begin 69 = .ok (.iastore, 1) := by decide +kernel
theorem dX7_begin_70 : decode cX7_begin 70 = .ok (.aload_n 0, 1) := by decide +kernel
theorem dX7_begin_71 : decode cX7_begin 71 = .ok (.getfield 53, 3) := by decide +kernel
theorem dX7_begin_74 : decode cX7_begin 74 = .ok (.iload_n 1, 1) := by decide +kernel
theorem dX7_begin_75 : decode cX7_begin 75 = .ok (.iconst 3, 1) := by decide +kernel
theorem dX7_begin_76 : decode cX7_begin 76 = .ok (.invokestatic 244, 3) := by decide +kernel
theorem dX7_begin_79 : decode cX7_begin 79 = .ok (.iconst 1, 1) := by decide +kernel
theorem dX7_begin_80 : decode cX7_begin 80 = .ok (.iastore, 1) := by decide +kernel
theorem dX7_begin_81 : decode cX7_begin 81 = .ok (.goto 66, 3) := by decide +kernel
theorem dX7_begin_84 : decode cX7_begin 84 = .ok (.iconst 0, 1) := by decide +kernel
theorem dX7_begin_85 : decode cX7_begin 85 = .ok (.istore_n 2, 1) := by decide +kernel
theorem dX7_begin_86 : decode cX7_begin 86 = .ok (.iload_n 2, 1) := by decide +kernel
theorem dX7_begin_87 : decode cX7_begin 87 = .ok (.aload_n 0, 1) := by decide +kernel
theorem dX7_begin_88 : decode cX7_begin 88 = .ok (.getfield 17, 3) := by decide +kernel
theorem dX7_begin_91 : decode cX7_begin 91 = .ok (.iconst 5, 1) := by decide +kernel
theorem dX7_begin_92 : decode cX7_begin 92 = .ok (.iaload, 1) := by decide +kernel
theorem dX7_begin_93 : decode cX7_begin 93 = .ok (.if_icmp .ge 27, 3) := by decide +kernel
theorem dX7_begin_96 : decode cX7_begin 96 = .ok (.aload_n 0, 1) := by decide +kernel
theorem dX7_begin_97 : decode cX7_begin 97 = .ok (.iload_n 1, 1) := by decide +kernel
theorem dX7_begin_98 : decode cX7_begin 98 = .ok (.iload_n 2, 1) := by decide +kernel
theorem dX7_begin_99 : decode cX7_begin 99 = .ok (.bipush 16, 2) := by decide +kernel
theorem dX7_begin_101 : decode cX7_begin 101 = .ok (.iconst 1, 1) := by decide +kernel
theorem dX7_begin_102 : decode cX7_begin 102 = .ok (.invokevirtual 260, 3) := by decide +kernel
theorem dX7_begin_105 : decode cX7_begin 105 = .ok (.ifCond .eq 9, 3) := by decide +kernel
theorem dX7_begin_108 : decode cX7_begin 108 = .ok (.aload_n 0, 1) := by decide +kernel
theorem dX7_begin_109 : decode cX7_begin 109 = .ok (.iload_n 2, 1) := by decide +kernel
theorem dX7_begin_110 : decode cX7_begin 110 = .ok (.iconst 3, 1) := by decide +kernel
theorem dX7_begin_111 : decode cX7_begin 111 = .ok (.invokevirtual 268, 3) := by decide +kernel
theorem dX7_begin_114 : decode cX7_begin 114 = .ok (.iinc 2 1, 3) := by decide +kernel
theorem dX7_begin_117 : decode cX7_begin 117 = .ok (.goto (-31), 3) := by decide +kernel
theorem dX7_begin_120 : decode cX7_begin 120 = .ok (.aload_n 0, 1) := by decide +kernel
theorem dX7_begin_121 : decode cX7_begin 121 = .ok (.iload_n 1, 1) := by decide +kernel
theorem dX7_begin_122 : decode cX7_begin 122 = .ok (.bipush 16, 2) := by decide +kernel
theorem dX7_begin_124 : decode cX7_begin 124 = .ok (.iconst 1, 1) := by decide +kernel
theorem dX7_begin_125 : decode cX7_begin 125 = .ok (.invokevirtual 288, 3) := by decide +kernel
theorem dX7_begin_128 : decode cX7_begin 128 = .ok (.pop, 1) := by decide +kernel
theorem dX7_begin_129 : decode cX7_begin 129 = .ok (.aload_n 0, 1) := by decide +kernel
theorem dX7_begin_130 : decode cX7_begin 130 = .ok (.getfield 53, 3) := by decide +kernel
theorem dX7_begin_133 : decode cX7_begin 133 = .ok (.iconst 5, 1) := by decide +kernel
theorem dX7_begin_134 : decode cX7_begin 134 = .ok (.iload_n 1, 1) := by decide +kernel
theorem dX7_begin_135 : decode cX7_begin 135 = .ok (.iastore, 1) := by decide +kernel
theorem dX7_begin_136 : decode cX7_begin 136 = .ok (.aload_n 0, 1) := by decide +kernel
theorem dX7_begin_137 : decode cX7_begin 137 = .ok (.getfield 53, 3) := by decide +kernel
theorem dX7_begin_140 : decode cX7_begin 140 = .ok (.iload_n 1, 1) := by decide +kernel
theorem dX7_begin_141 : decode cX7_begin 141 = .ok (.iconst 3, 1) := by decide +kernel
theorem dX7_begin_142 : decode cX7_begin 142 = .ok (.invokestatic 244, 3) := by decide +kernel
theorem dX7_begin_145 : decode cX7_begin 145 = .ok (.iconst 2, 1) := by decide +kernel
theorem dX7_begin_146 : decode cX7_begin 146 = .ok (.iastore, 1) := by decide +kernel
theorem dX7_begin_147 : decode cX7_begin 147 = .ok (.aload_n 0, 1) := by decide +kernel
theorem dX7_begin_148 : decode cX7_begin 148 = .ok (.getfield 53, 3) := by decide +kernel
theorem dX7_begin_151 : decode cX7_begin 151 = .ok (.iload_n 1, 1) := by decide +kernel
theorem dX7_begin_152 : decode cX7_begin 152 = .ok (.iconst 1, 1) := by decide +kernel
theorem dX7_begin_153 : decode cX7_begin 153 = .ok (.invokestatic 244, 3) := by decide +kernel
theorem dX7_begin_156 : decode cX7_begin 156 = .ok (.iconst 0, 1) := by decide +kernel
theorem dX7_begin_157 : decode cX7_begin 157 = .ok (.iastore, 1) := by decide +kernel
theorem dX7_begin_158 : decode cX7_begin 158 = .ok (.aload_n 0, 1) := by decide +kernel
theorem dX7_begin_159 : decode cX7_begin 159 = .ok (.getfield 53, 3) := by decide +kernel
theorem dX7_begin_162 : decode cX7_begin 162 = .ok (.iload_n 1, 1) := by decide +kernel
theorem dX7_begin_163 : decode cX7_begin 163 = .ok (.iconst 2, 1) := by decide +kernel
theorem dX7_begin_164 : decode cX7_begin 164 = .ok (.invokestatic 244, 3) := by decide +kernel
theorem dX7_begin_167 : decode cX7_begin 167 = .ok (.iconst 0, 1) := by decide +kernel
theorem dX7_begin_168 : decode cX7_begin 168 = .ok (.iastore, 1) := by decide +kernel
theorem dX7_begin_169 : decode cX7_begin 169 = .ok (.aload_n 0, 1) := by decide +kernel
theorem dX7_begin_170 : decode cX7_begin 170 = .ok (.getfield 53, 3) := by decide +kernel
theorem dX7_begin_173 : decode cX7_begin 173 = .ok (.iload_n 1, 1) := by decide +kernel
theorem dX7_begin_174 : decode cX7_begin 174 = .ok (.bipush 6, 2) := by decide +kernel
theorem dX7_begin_176 : decode cX7_begin 176 = .ok (.invokestatic 244, 3) := by decide +kernel
theorem dX7_begin_179 : decode cX7_begin 179 = .ok (.aload_n 0, 1) := by decide +kernel
theorem dX7_begin_180 : decode cX7_begin 180 = .ok (.getfield 53, 3) := by decide +kernel
theorem dX7_begin_183 : decode cX7_begin 183 = .ok (.iload_n 1, 1) := by decide +kernel
theorem dX7_begin_184 : decode cX7_begin 184 = .ok (.iconst 0, 1) := by decide +kernel
theorem dX7_begin_185 : decode cX7_begin 185 = .ok (.invokestatic 244, 3) := by decide +kernel
theorem dX7_begin_188 : decode cX7_begin 188 = .ok (.iaload, 1) := by decide +kernel
theorem dX7_begin_189 : decode cX7_begin 189 = .ok (.iastore, 1) := by decide +kernel
theorem dX7_begin_190 : decode cX7_begin 190 = .ok (.aload_n 0, 1) := by decide +kernel
theorem dX7_begin_191 : decode cX7_begin 191 = .ok (.getfield 53, 3) := by decide +kernel
theorem dX7_begin_194 : decode cX7_begin 194 = .ok (.iload_n 1, 1) := by decide +kernel
theorem dX7_begin_195 : decode cX7_begin 195 = .ok (.iconst 5, 1) := by decide +kernel
theorem dX7_begin_196 : decode cX7_begin 196 = .ok (.invokestatic 244, 3) := by decide +kernel
theorem dX7_begin_199 : decode cX7_begin 199 = .ok (.iaload, 1) := by decide +kernel
theorem dX7_begin_200 : decode cX7_begin 200 = .ok (.bipush (-2), 2) := by decide +kernel
theorem dX7_begin_202 : decode cX7_begin 202 = .ok (.if_icmp .ne 19, 3) := by decide +kernel
theorem dX7_begin_205 : decode cX7_begin 205 = .ok (.aload_n 0, 1) := by decide +kernel
theorem dX7_begin_206 : decode cX7_begin 206 = .ok (.getfield 53, 3) := by decide +kernel
theorem dX7_begin_209 : decode cX7_begin 209 = .ok (.iload_n 1, 1) := by decide +kernel
theorem dX7_begin_210 : decode cX7_begin 210 = .ok (.iconst 5, 1) := by decide +kernel
theorem dX7_begin_211 : decode cX7_begin 211 = .ok (.invokestatic 244, 3) := by decide +kernel
theorem dX7_begin_214 : decode cX7_begin 214 = .ok (.aload_n 0, 1) := by decide +kernel
theorem dX7_begin_215 : decode cX7_begin 215 = .ok (.getfield 53, 3) := by decide +kernel
theorem dX7_begin_218 : decode cX7_begin 218 = .ok (.iconst 0, 1) := by decide +kernel
theorem dX7_begin_219 : decode cX7_begin 219 = .ok (.iaload, 1) := by decide +kernel
theorem dX7_begin_220 : decode cX7_begin 220 = .ok (.iastore, 1) := by decide +kernel
theorem dX7_begin_221 : decode cX7_begin 221 = .ok (.iconst 1, 1) := by decide +kernel
theorem dX7_begin_222 : decode cX7_begin 222 = .ok (.ireturn, 1) := by decide +kernel
theorem dX7_touches_0 : decode cX7_touches 0 = .ok (.aload_n 0, 1) := by decide +kernel
theorem dX7_touches_1 : decode cX7_touches 1 = .ok (.aload_n 0, 1) := by decide +kernel
theorem dX7_touches_2 : decode cX7_touches 2 = .ok (.getfield 17, 3) := by decide +kernel
theorem dX7_touches_5 : decode cX7_touches 5 = .ok (.iconst 2, 1) := by decide +kernel
theorem dX7_touches_6 : decode cX7_touches 6 = .ok (.iaload, 1) := by decide +kernel
theorem dX7_touches_7 : decode cX7_touches 7 = .ok (.invokevirtual 165, 3) := by decide +kernel
theorem dX7_touches_10 : decode cX7_touches 10 = .ok (.istore_n 3, 1) := by decide +kernel
theorem dX7_touches_11 : decode cX7_touches 11 = .ok (.aload_n 0, 1) := by decide +kernel
theorem dX7_touches_12 : decode cX7_touches 12 = .ok (.getfield 41, 3) := by decide +kernel
theorem dX7_touches_15 : decode cX7_touches 15 = .ok (.iload_n 2, 1) := by decide +kernel
theorem dX7_touches_16 : decode cX7_touches 16 = .ok (.iaload, 1) := by decide +kernel
theorem dX7_touches_17 : decode cX7_touches 17 = .ok (.aload_n 0, 1) := by decide +kernel
theorem dX7_touches_18 : decode cX7_touches 18 = .ok (.getfield 47, 3) := by decide +kernel
theorem dX7_touches_21 : decode cX7_touches 21 = .ok (.iload_n 2, 1) := by decide +kernel
theorem dX7_touches_22 : decode cX7_touches 22 = .ok (.iaload, 1) := by decide +kernel
theorem dX7_touches_23 : decode cX7_touches 23 = .ok (.iconst 1, 1) := by decide +kernel
theorem dX7_touches_24 : decode cX7_touches 24 = .ok (.if_icmp .ne 16, 3) := by decide +kernel
theorem dX7_touches_27 : decode cX7_touches 27 = .ok (.aload_n 0, 1) := by decide +kernel
theorem dX7_touches_28 : decode cX7_touches 28 = .ok (.getfield 53, 3) := by decide +kernel
theorem dX7_touches_31 : decode cX7_touches 31 = .ok (.iload_n 1, 1) := by decide +kernel
theorem dX7_touches_32 : decode cX7_touches 32 = .ok (.iconst 2, 1) := by decide +kernel
theorem dX7_touches_33 : decode cX7_touches 33 = .ok (.invokestatic 244, 3) := by decide +kernel
theorem dX7_touches_36 : decode cX7_touches 36 = .ok (.iaload, 1) := by decide +kernel
theorem dX7_touches_37 : decode cX7_touches 37 = .ok (.goto 4, 3) := by decide +kernel
theorem dX7_touches_40 : decode cX7_touches 40 = .ok (.iconst 0, 1) := by decide +kernel
theorem dX7_touches_41 : decode cX7_touches 41 = .ok (.iadd, 1) := by decide +kernel
theorem dX7_touches_42 : decode cX7_touches 42 = .ok (.iload_n 3, 1) := by decide +kernel
theorem dX7_touches_43 : decode cX7_touches 43 = .ok (.irem, 1) := by decide +kernel
theorem dX7_touches_44 : decode cX7_touches 44 = .ok (.istore 4, 2) := by decide +kernel
theorem dX7_touches_46 : decode cX7_touches 46 = .ok (.iload 4, 2) := by decide +kernel
theorem dX7_touches_48 : decode cX7_touches 48 = .ok (.aload_n 0, 1) := by decide +kernel
theorem dX7_touches_49 : decode cX7_touches 49 = .ok (.getfield 17, 3) := by decide +kernel
theorem dX7_touches_52 : decode cX7_touches 52 = .ok (.iconst 2, 1) := by decide +kernel
theorem dX7_touches_53 : decode cX7_touches 53 = .ok (.iaload, 1) := by decide +kernel
theorem dX7_touches_54 : decode cX7_touches 54 = .ok (.idiv, 1) := by decide +kernel
theorem dX7_touches_55 : decode cX7_touches 55 = .ok (.istore 5, 2) := by decide +kernel
theorem dX7_touches_57 : decode cX7_touches 57 = .ok (.aload_n 0, 1) := by decide +kernel
theorem dX7_touches_58 : decode cX7_touches 58 = .ok (.getfield 35, 3) := by decide +kernel
theorem dX7_touches_61 : decode cX7_touches 61 = .ok (.iload_n 2, 1) := by decide +kernel
theorem dX7_touches_62 : decode cX7_touches 62 = .ok (.iaload, 1) := by decide +kernel
theorem dX7_touches_63 : decode cX7_touches 63 = .ok (.iconst 4, 1) := by decide +kernel
theorem dX7_touches_64 : decode cX7_touches 64 = .ok (.if_icmp .ne 7, 3) := by decide +kernel
theorem dX7_touches_67 : decode cX7_touches 67 = .ok (.iconst 1, 1) := by decide +kernel
theorem dX7_touches_68 : decode cX7_touches 68 = .ok (.goto 4, 3) := by decide +kernel
theorem dX7_touches_71 : decode cX7_touches 71 = .ok (.iconst 0, 1) := by decide +kernel
theorem dX7_touches_72 : decode cX7_touches 72 = .ok (.istore 6, 2) := by decide +kernel
theorem dX7_touches_74 : decode cX7_touches 74 = .ok (.aload_n 0, 1) := by decide +kernel
theorem dX7_touches_75 : decode cX7_touches 75 = .ok (.iload_n 1, 1) := by decide +kernel
theorem dX7_touches_76 : decode cX7_touches 76 = .ok (.iload 5, 2) := by decide +kernel
theorem dX7_touches_78 : decode cX7_touches 78 = .ok (.iload 6, 2) := by decide +kernel
theorem dX7_touches_80 : decode cX7_touches 80 = .ok (.invokevirtual 284, 3) := by decide +kernel
theorem dX7_touches_83 : decode cX7_touches 83 = .ok (.istore 7, 2) := by decide +kernel
theorem dX7_touches_85 : decode cX7_touches 85 = .ok (.iload 7, 2) := by decide +kernel
theorem dX7_touches_87 : decode cX7_touches 87 = .ok (.iconst 1, 1) := by decide +kernel
theorem dX7_touches_88 : decode cX7_touches 88 = .ok (.if_icmp .eq 20, 3) := by decide +kernel
theorem dX7_touches_91 : decode cX7_touches 91 = .ok (.iload 7, 2) := by decide +kernel
theorem dX7_touches_93 : decode cX7_touches 93 = .ok (.iconst 2, 1) := by decide +kernel
theorem dX7_touches_94 : decode cX7_touches 94 = .ok (.if_icmp .ne 11, 3) := by decide +kernel
theorem dX7_touches_97 : decode cX7_touches 97 = .ok (.aload_n 0, 1) := by decide +kernel
theorem dX7_touches_98 : decode cX7_touches 98 = .ok (.iload_n 1, 1) := by decide +kernel
theorem dX7_touches_99 : decode cX7_touches 99 = .ok (.invokevirtual 281, 3) := by decide +kernel
theorem dX7_touches_102 : decode cX7_touches 102 = .ok (.goto 5, 3) := by decide +kernel
theorem dX7_touches_105 : decode cX7_touches 105 = .ok (.iload 7, 2) := by decide +kernel
theorem dX7_touches_107 : decode cX7_touches 107 = .ok (.ireturn, 1) := by decide +kernel
theorem dX7_touches_108 : decode cX7_touches 108 = .ok (.aload_n 0, 1) := by decide +kernel
theorem dX7_touches_109 : decode cX7_touches 109 = .ok (.iload_n 1, 1) := by decide +kernel
theorem dX7_touches_110 : decode cX7_touches 110 = .ok (.iload 5, 2) := by decide +kernel
theorem dX7_touches_112 : decode cX7_touches 112 = .ok (.invokevirtual 257, 3) := by decide +kernel
theorem dX7_touches_115 : decode cX7_touches 115 = .ok (.istore 8, 2) := by decide +kernel
theorem dX7_touches_117 : decode cX7_touches 117 = .ok (.iload 8, 2) := by decide +kernel
theorem dX7_touches_119 : decode cX7_touches 119 = .ok (.iconst (-1), 1) := by decide +kernel
theorem dX7_touches_120 : decode cX7_touches 120 = .ok (.if_icmp .eq 32, 3) := by decide +kernel
theorem dX7_touches_123 : decode cX7_touches 123 = .ok (.aload_n 0, 1) := by decide +kernel
theorem dX7_touches_124 : decode cX7_touches 124 = .ok (.getfield 53, 3) := by decide +kernel
theorem dX7_touches_127 : decode cX7_touches 127 = .ok (.iload 8, 2) := by decide +kernel
theorem dX7_touches_129 : decode cX7_touches 129 = .ok (.iconst 1, 1) := by decide +kernel
theorem dX7_touches_130 : decode cX7_touches 130 = .ok (.iadd, 1) := by decide +kernel
theorem dX7_touches_131 : decode cX7_touches 131 = .ok (.iaload, 1) := by decide +kernel
theorem dX7_touches_132 : decode cX7_touches 132 = .ok (.iconst 3, 1) := by decide +kernel
theorem dX7_touches_133 : decode cX7_touches 133 = .ok (.if_icmp .ne 19, 3) := by decide +kernel
theorem dX7_touches_136 : decode cX7_touches 136 = .ok (.aload_n 0, 1) := by decide +kernel
theorem dX7_touches_137 : decode cX7_touches 137 = .ok (.getfield 53, 3) := by decide +kernel
theorem dX7_touches_140 : decode cX7_touches 140 = .ok (.iload 8, 2) := by decide +kernel
theorem dX7_touches_142 : decode cX7_touches 142 = .ok (.iconst 3, 1) := by decide +kernel
theorem dX7_touches_143 : decode cX7_touches 143 = .ok (.iadd, 1) := by decide +kernel
theorem dX7_touches_144 : decode cX7_touches 144 = .ok (.iaload, 1) := by decide +kernel
theorem dX7_touches_145 : decode cX7_touches 145 = .ok (.ifCond .ne 7, 3) := by decide +kernel
theorem dX7_touches_148 : decode cX7_touches 148 = .ok (.iconst 1, 1) := by decide +kernel
theorem dX7_touches_149 : decode cX7_touches 149 = .ok (.goto 4, 3) := by decide +kernel
theorem dX7_touches_152 : decode cX7_touches 152 = .ok (.iconst 0, 1) := by decide +kernel
theorem dX7_touches_153 : decode cX7_touches 153 = .ok (.istore 9, 2) := by decide +kernel
theorem dX7_touches_155 : decode cX7_touches 155 = .ok (.aload_n 0, 1) := by decide +kernel
theorem dX7_touches_156 : decode cX7_touches 156 = .ok (.iload_n 1, 1) := by decide +kernel
theorem dX7_touches_157 : decode cX7_touches 157 = .ok (.iload 5, 2) := by decide +kernel
theorem dX7_touches_159 : decode cX7_touches 159 = .ok (.iload 6, 2) := by decide +kernel
theorem dX7_touches_161 : decode cX7_touches 161 = .ok (.invokevirtual 288, 3) := by decide +kernel
theorem dX7_touches_164 : decode cX7_touches 164 = .ok (.istore 10, 2) := by decide +kernel
theorem dX7_touches_166 : decode cX7_touches 166 = .ok (.iload 10, 2) := by decide +kernel
theorem dX7_touches_168 : decode cX7_touches 168 = .ok (.iconst (-1), 1) := by decide +kernel
theorem dX7_touches_169 : decode cX7_touches 169 = .ok (.if_icmp .ne 5, 3) := by decide +kernel
theorem dX7_touches_172 : decode cX7_touches 172 = .ok (.iconst 3, 1) := by decide +kernel
theorem dX7_touches_173 : decode cX7_touches 173 = .ok (.ireturn, 1) := by decide +kernel
theorem dX7_touches_174 : decode cX7_touches 174 = .ok (.aload_n 0, 1) := by decide +kernel
theorem dX7_touches_175 : decode cX7_touches 175 = .ok (.getfield 53, 3) := by decide +kernel
theorem dX7_touches_178 : decode cX7_touches 178 = .ok (.iload_n 1, 1) := by decide +kernel
theorem dX7_touches_179 : decode cX7_touches 179 = .ok (.iconst 3, 1) := by decide +kernel
theorem dX7_touches_180 : decode cX7_touches 180 = .ok (.invokestatic 244, 3) := by decide +kernel
theorem dX7_touches_183 : decode cX7_touches 183 = .ok (.iaload, 1) := by decide +kernel
theorem dX7_touches_184 : decode cX7_touches 184 = .ok (.iconst 1, 1) := by decide +kernel
theorem dX7_touches_185 : decode cX7_touches 185 = .ok (.if_icmp .ne 7, 3) := by decide +kernel
theorem dX7_touches_188 : decode cX7_touches 188 = .ok (.iconst 1, 1) := by decide +kernel
theorem dX7_touches_189 : decode cX7_touches 189 = .ok (.goto 4, 3) := by decide +kernel
theorem dX7_touches_192 : decode cX7_touches 192 = .ok (.iconst 0, 1) := by decide +kernel
theorem dX7_touches_193 : decode cX7_touches 193 = .ok (.istore 11, 2) := by decide +kernel
theorem dX7_touches_195 : decode cX7_touches 195 = .ok (.iload 10, 2) := by decide +kernel
theorem dX7_touches_197 : decode cX7_touches 197 = .ok (.iconst 5, 1) := by decide +kernel
theorem dX7_touches_198 : decode cX7_touches 198 = .ok (.iadd, 1) := by decide +kernel
theorem dX7_touches_199 : decode cX7_touches 199 = .ok (.iload 4, 2) := by decide +kernel
theorem dX7_touches_201 : decode cX7_touches 201 = .ok (.aload_n 0, 1) := by decide +kernel
theorem dX7_touches_202 : decode cX7_touches 202 = .ok (.getfield 17, 3) := by decide +kernel
theorem dX7_touches_205 : decode cX7_touches 205 = .ok (.iconst 2, 1) := by decide +kernel
theorem dX7_touches_206 : decode cX7_touches 206 = .ok (.iaload, 1) := by decide +kernel
theorem dX7_touches_207 : decode cX7_touches 207 = .ok (.irem, 1) := by decide +kernel
theorem dX7_touches_208 : decode cX7_touches 208 = .ok (.iadd, 1) := by decide +kernel
theorem dX7_touches_209 : decode cX7_touches 209 = .ok (.istore 12, 2) := by decide +kernel
theorem dX7_touches_211 : decode cX7_touches 211 = .ok (.iload 6, 2) := by decide +kernel
theorem dX7_touches_213 : decode cX7_touches 213 = .ok (.ifCond .ne 49, 3) := by decide +kernel
theorem dX7_touches_216 : decode cX7_touches 216 = .ok (.aload_n 0, 1) := by decide +kernel
theorem dX7_touches_217 : decode cX7_touches 217 = .ok (.getfield 53, 3) := by decide +kernel
theorem dX7_touches_220 : decode cX7_touches 220 = .ok (.iload 10, 2) := by decide +kernel
theorem dX7_touches_222 : decode cX7_touches 222 = .ok (.iconst 2, 1) := by decide +kernel
theorem dX7_touches_223 : decode cX7_touches 223 = .ok (.iadd, 1) := by decide +kernel
theorem dX7_touches_224 : decode cX7_touches 224 = .ok (.iload 11, 2) := by decide +kernel
theorem dX7_touches_226 : decode cX7_touches 226 = .ok (.ifCond .eq 7, 3) := by decide +kernel
theorem dX7_touches_229 : decode cX7_touches 229 = .ok (.iconst 1, 1) := by decide +kernel
theorem dX7_touches_230 : decode cX7_touches 230 = .ok (.goto 12, 3) := by decide +kernel
theorem dX7_touches_233 : decode cX7_touches 233 = .ok (.aload_n 0, 1) := by decide +kernel
theorem dX7_touches_234 : decode cX7_touches 234 = .ok (.getfield 53, 3) := by decide +kernel
theorem dX7_touches_237 : decode cX7_touches 237 = .ok (.iload 10, 2) := by decide +kernel
theorem dX7_touches_239 : decode cX7_touches 239 = .ok (.iconst 2, 1) := by decide +kernel
theorem dX7_touches_240 : decode cX7_touches 240 = .ok (.iadd, 1) := by decide +kernel
theorem dX7_touches_241 : decode cX7_touches 241 = .ok (.iaload, 1) := by decide +kernel
theorem dX7_touches_242 : decode cX7_touches 242 = .ok (.iastore, 1) := by decide +kernel
theorem dX7_touches_243 : decode cX7_touches 243 = .ok (.aload_n 0, 1) := by decide +kernel
theorem dX7_touches_244 : decode cX7_touches 244 = .ok (.getfield 53, 3) := by decide +kernel
theorem dX7_touches_247 : decode cX7_touches 247 = .ok (.iload_n 1, 1) := by decide +kernel
theorem dX7_touches_248 : decode cX7_touches 248 = .ok (.iconst 1, 1) := by decide +kernel
theorem dX7_touches_249 : decode cX7_touches 249 = .ok (.invokestatic 244, 3) := by decide +kernel
theorem dX7_touches_252 : decode cX7_touches 252 = .ok (.aload_n 0, 1) := by decide +kernel
theorem dX7_touches_253 : decode cX7_touches 253 = .ok (.getfield 53, 3) := by decide +kernel
theorem dX7_touches_256 : decode cX7_touches 256 = .ok (.iload 12, 2) := by decide +kernel
theorem dX7_touches_258 : decode cX7_touches 258 = .ok (.iaload, 1) := by decide +kernel
theorem dX7_touches_259 : decode cX7_touches 259 = .ok (.iastore, 1) := by decide +kernel
theorem dX7_touches_260 : decode cX7_touches 260 = .ok (.iconst 1, 1) := by decide +kernel
theorem dX7_touches_261 : decode cX7_touches 261 = .ok (.ireturn, 1) := by decide +kernel
theorem dX7_touches_262 : decode cX7_touches 262 = .ok (.iload 11, 2) := by decide +kernel
theorem dX7_touches_264 : decode cX7_touches 264 = .ok (.ifCond .eq 14, 3) := by decide +kernel
theorem dX7_touches_267 : decode cX7_touches 267 = .ok (.iload 9, 2) := by decide +kernel
theorem dX7_touches_269 : decode cX7_touches 269 = .ok (.ifCond .eq 9, 3) := by decide +kernel
theorem dX7_touches_272 : decode cX7_touches 272 = .ok (.aload_n 0, 1) := by decide +kernel
theorem dX7_touches_273 : decode cX7_touches 273 = .ok (.iload 10, 2) := by decide +kernel
theorem dX7_touches_275 : decode cX7_touches 275 = .ok (.invokevirtual 272, 3) := by decide +kernel
theorem dX7_touches_278 : decode cX7_touches 278 = .ok (.aload_n 0, 1) := by decide +kernel
theorem dX7_touches_279 : decode cX7_touches 279 = .ok (.getfield 53, 3) := by decide +kernel
theorem dX7_touches_282 : decode cX7_touches 282 = .ok (.iload 10, 2) := by decide +kernel
theorem dX7_touches_284 : decode cX7_touches 284 = .ok (.iconst 3, 1) := by decide +kernel
theorem dX7_touches_285 : decode cX7_touches 285 = .ok (.iadd, 1) := by decide +kernel
theorem dX7_touches_286 : decode cX7_touches 286 = .ok (.iload 11, 2) := by decide +kernel
theorem dX7_touches_288 : decode cX7_touches 288 = .ok (.ifCond .eq 7, 3) := by decide +kernel
theorem dX7_touches_291 : decode cX7_touches 291 = .ok (.iconst 1, 1) := by decide +kernel
theorem dX7_touches_292 : decode cX7_touches 292 = .ok (.goto 12, 3) := by decide +kernel
theorem dX7_touches_295 : decode cX7_touches 295 = .ok (.aload_n 0, 1) := by decide +kernel
theorem dX7_touches_296 : decode cX7_touches 296 = .ok (.getfield 53, 3) := by decide +kernel
theorem dX7_touches_299 : decode cX7_touches 299 = .ok (.iload 10, 2) := by decide +kernel
theorem dX7_touches_301 : decode cX7_touches 301 = .ok (.iconst 3, 1) := by decide +kernel
theorem dX7_touches_302 : decode cX7_touches 302 = .ok (.iadd, 1) := by decide +kernel
theorem dX7_touches_303 : decode cX7_touches 303 = .ok (.iaload, 1) := by decide +kernel
theorem dX7_touches_304 : decode cX7_touches 304 = .ok (.iastore, 1) := by decide +kernel
theorem dX7_touches_305 : decode cX7_touches 305 = .ok (.aload_n 0, 1) := by decide +kernel
theorem dX7_touches_306 : decode cX7_touches 306 = .ok (.getfield 53, 3) := by decide +kernel
theorem dX7_touches_309 : decode cX7_touches 309 = .ok (.iload 12, 2) := by decide +kernel
theorem dX7_touches_311 : decode cX7_touches 311 = .ok (.aload_n 0, 1) := by decide +kernel
theorem dX7_touches_312 : decode cX7_touches 312 = .ok (.getfield 53, 3) := by decide +kernel
theorem dX7_touches_315 : decode cX7_touches 315 = .ok (.iload_n 1, 1) := by decide +kernel
theorem dX7_touches_316 : decode cX7_touches 316 = .ok (.iconst 1, 1) := by decide +kernel
theorem dX7_touches_317 : decode cX7_touches 317 = .ok (.invokestatic 244, 3) := by decide +kernel
theorem dX7_touches_320 : decode cX7_touches 320 = .ok (.iaload, 1) := by decide +kernel
theorem dX7_touches_321 : decode cX7_touches 321 = .ok (.iastore, 1) := by decide +kernel
theorem dX7_touches_322 : decode cX7_touches 322 = .ok (.iconst 1, 1) := by decide +kernel
theorem dX7_touches_323 : decode cX7_touches 323 = .ok (.ireturn, 1) := by decide +kernel
theorem dX7_commits_0 : decode cX7_commits 0 = .ok (.iconst 0, 1) := by decide +kernel
theorem dX7_commits_1 : decode cX7_commits 1 = .ok (.istore_n 2, 1) := by decide +kernel
theorem dX7_commits_2 : decode cX7_commits 2 = .ok (.iload_n 2, 1) := by decide +kernel
theorem dX7_commits_3 : decode cX7_commits 3 = .ok (.aload_n 0, 1) := by decide +kernel
theorem dX7_commits_4 : decode cX7_commits 4 = .ok (.getfield 17, 3) := by decide +kernel
theorem dX7_commits_7 : decode cX7_commits 7 = .ok (.iconst 0, 1) := by decide +kernel
theorem dX7_commits_8 : decode cX7_commits 8 = .ok (.iaload, 1) := by decide +kernel
theorem dX7_commits_9 : decode cX7_commits 9 = .ok (.if_icmp .ge 53, 3) := by decide +kernel
theorem dX7_commits_12 : decode cX7_commits 12 = .ok (.iconst 0, 1) := by decide +kernel
theorem dX7_commits_13 : decode cX7_commits 13 = .ok (.istore_n 3, 1) := by decide +kernel
theorem dX7_commits_14 : decode cX7_commits 14 = .ok (.iload_n 3, 1) := by decide +kernel
theorem dX7_commits_15 : decode cX7_commits 15 = .ok (.aload_n 0, 1) := by decide +kernel
theorem dX7_commits_16 : decode cX7_commits 16 = .ok (.getfield 242, 3) := by decide +kernel
theorem dX7_commits_19 : decode cX7_commits 19 = .ok (.if_icmp .ge 37, 3) := by decide +kernel
theorem dX7_commits_22 : decode cX7_commits 22 = .ok (.aload_n 0, 1) := by decide +kernel
theorem dX7_commits_23 : decode cX7_commits 23 = .ok (.getfield 53, 3) := by decide +kernel
theorem dX7_commits_26 : decode cX7_commits 26 = .ok (.iload_n 1, 1) := by decide +kernel
theorem dX7_commits_27 : decode cX7_commits 27 = .ok (.iload_n 2, 1) := by decide +kernel
theorem dX7_commits_28 : decode cX7_commits 28 = .ok (.iload_n 3, 1) := by decide +kernel
theorem dX7_commits_29 : decode cX7_commits 29 = .ok (.invokestatic 247, 3) := by decide +kernel
theorem dX7_commits_32 : decode cX7_commits 32 = .ok (.iconst 2, 1) := by decide +kernel
theorem dX7_commits_33 : decode cX7_commits 33 = .ok (.iadd, 1) := by decide +kernel
theorem dX7_commits_34 : decode cX7_commits 34 = .ok (.iconst 0, 1) := by decide +kernel
theorem dX7_commits_35 : decode cX7_commits 35 = .ok (.iastore, 1) := by decide +kernel
theorem dX7_commits_36 : decode cX7_commits 36 = .ok (.aload_n 0, 1) := by decide +kernel
theorem dX7_commits_37 : decode cX7_commits 37 = .ok (.getfield 53, 3) := by decide +kernel
theorem dX7_commits_40 : decode cX7_commits 40 = .ok (.iload_n 1, 1) := by decide +kernel
theorem dX7_commits_41 : decode cX7_commits 41 = .ok (.iload_n 2, 1) := by decide +kernel
theorem dX7_commits_42 : decode cX7_commits 42 = .ok (.iload_n 3, 1) := by decide +kernel
theorem dX7_commits_43 : decode cX7_commits 43 = .ok (.invokestatic 247, 3) := by decide +kernel
theorem dX7_commits_46 : decode cX7_commits 46 = .ok (.iconst 3, 1) := by decide +kernel
theorem dX7_commits_47 : decode cX7_commits 47 = .ok (.iadd, 1) := by decide +kernel
theorem dX7_commits_48 : decode cX7_commits 48 = .ok (.iconst 0, 1) := by decide +kernel
theorem dX7_commits_49 : decode cX7_commits 49 = .ok (.iastore, 1) := by decide +kernel
theorem dX7_commits_50 : decode cX7_commits 50 = .ok (.iinc 3 1, 3) := by decide +kernel
theorem dX7_commits_53 : decode cX7_commits 53 = .ok (.goto (-39), 3) := by decide +kernel
theorem dX7_commits_56 : decode cX7_commits 56 = .ok (.iinc 2 1, 3) := by decide +kernel
theorem dX7_commits_59 : decode cX7_commits 59 = .ok (.goto (-57), 3) := by decide +kernel
theorem dX7_commits_62 : decode cX7_commits 62 = .ok (.aload_n 0, 1) := by decide +kernel
theorem dX7_commits_63 : decode cX7_commits 63 = .ok (.getfield 53, 3) := by decide +kernel
theorem dX7_commits_66 : decode cX7_commits 66 = .ok (.iload_n 1, 1) := by decide +kernel
theorem dX7_commits_67 : decode cX7_commits 67 = .ok (.iconst 3, 1) := by decide +kernel
theorem dX7_commits_68 : decode cX7_commits 68 = .ok (.invokestatic 244, 3) := by decide +kernel
theorem dX7_commits_71 : decode cX7_commits 71 = .ok (.iaload, 1) := by decide +kernel
theorem dX7_commits_72 : decode cX7_commits 72 = .ok (.iconst 2, 1) := by decide +kernel
theorem dX7_commits_73 : decode cX7_commits 73 = .ok (.if_icmp .ne 7, 3) := by decide +kernel
theorem dX7_commits_76 : decode cX7_commits 76 = .ok (.iconst 1, 1) := by decide +kernel
theorem dX7_commits_77 : decode cX7_commits 77 = .ok (.goto 4, 3) := by decide +kernel
theorem dX7_commits_80 : decode cX7_commits 80 = .ok (.iconst 0, 1) := by decide +kernel
theorem dX7_commits_81 : decode cX7_commits 81 = .ok (.istore_n 2, 1) := by decide +kernel
theorem dX7_commits_82 : decode cX7_commits 82 = .ok (.iload_n 2, 1) := by decide +kernel
theorem dX7_commits_83 : decode cX7_commits 83 = .ok (.ifCond .eq 26, 3) := by decide +kernel
theorem dX7_commits_86 : decode cX7_commits 86 = .ok (.aload_n 0, 1) := by decide +kernel
theorem dX7_commits_87 : decode cX7_commits 87 = .ok (.getfield 53, 3) := by decide +kernel
theorem dX7_commits_90 : decode cX7_commits 90 = .ok (.iconst 5, 1) := by decide +kernel
theorem dX7_commits_91 : decode cX7_commits 91 = .ok (.bipush (-2), 2) := by decide +kernel
theorem dX7_commits_93 : decode cX7_commits 93 = .ok (.iastore, 1) := by decide +kernel
theorem dX7_commits_94 : decode cX7_commits 94 = .ok (.aload_n 0, 1) := by decide +kernel
theorem dX7_commits_95 : decode cX7_commits 95 = .ok (.getfield 53, 3) := by decide +kernel
theorem dX7_commits_98 : decode cX7_commits 98 = .ok (.iload_n 1, 1) := by decide +kernel
theorem dX7_commits_99 : decode cX7_commits 99 = .ok (.bipush 12, 2) := by decide +kernel
theorem dX7_commits_101 : decode cX7_commits 101 = .ok (.invokestatic 244, 3) := by decide +kernel
theorem dX7_commits_104 : decode cX7_commits 104 = .ok (.dup2, 1) := by decide +kernel
theorem dX7_commits_105 : decode cX7_commits 105 = .ok (.iaload, 1) := by decide +kernel
theorem dX7_commits_106 : decode cX7_commits 106 = .ok (.iconst 1, 1) := by decide +kernel
theorem dX7_commits_107 : decode cX7_commits 107 = .ok (.iadd, 1) := by decide +kernel
theorem dX7_commits_108 : decode cX7_commits 108 = .ok (.iastore, 1) := by decide +kernel
theorem dX7_commits_109 : decode cX7_commits 109 = .ok (.bipush 62, 2) := by decide +kernel
theorem dX7_commits_111 : decode cX7_commits 111 = .ok (.iconst 4, 1) := by decide +kernel
theorem dX7_commits_112 : decode cX7_commits 112 = .ok (.aload_n 0, 1) := by decide +kernel
theorem dX7_commits_113 : decode cX7_commits 113 = .ok (.getfield 53, 3) := by decide +kernel
theorem dX7_commits_116 : decode cX7_commits 116 = .ok (.iconst 4, 1) := by decide +kernel
theorem dX7_commits_117 : decode cX7_commits 117 = .ok (.iaload, 1) := by decide +kernel
theorem dX7_commits_118 : decode cX7_commits 118 = .ok (.imul, 1) := by decide +kernel
theorem dX7_commits_119 : decode cX7_commits 119 = .ok (.iadd, 1) := by decide +kernel
theorem dX7_commits_120 : decode cX7_commits 120 = .ok (.istore_n 3, 1) := by decide +kernel
theorem dX7_commits_121 : decode cX7_commits 121 = .ok (.aload_n 0, 1) := by decide +kernel
theorem dX7_commits_122 : decode cX7_commits 122 = .ok (.getfield 53, 3) := by decide +kernel
theorem dX7_commits_125 : decode cX7_commits 125 = .ok (.iload_n 3, 1) := by decide +kernel
theorem dX7_commits_126 : decode cX7_commits 126 = .ok (.iload_n 1, 1) := by decide +kernel
theorem dX7_commits_127 : decode cX7_commits 127 = .ok (.iastore, 1) := by decide +kernel
theorem dX7_commits_128 : decode cX7_commits 128 = .ok (.aload_n 0, 1) := by decide +kernel
theorem dX7_commits_129 : decode cX7_commits 129 = .ok (.getfield 53, 3) := by decide +kernel
theorem dX7_commits_132 : decode cX7_commits 132 = .ok (.iload_n 3, 1) := by decide +kernel
theorem dX7_commits_133 : decode cX7_commits 133 = .ok (.iconst 1, 1) := by decide +kernel
theorem dX7_commits_134 : decode cX7_commits 134 = .ok (.iadd, 1) := by decide +kernel
theorem dX7_commits_135 : decode cX7_commits 135 = .ok (.aload_n 0, 1) := by decide +kernel
theorem dX7_commits_136 : decode cX7_commits 136 = .ok (.getfield 53, 3) := by decide +kernel
theorem dX7_commits_139 : decode cX7_commits 139 = .ok (.iload_n 1, 1) := by decide +kernel
theorem dX7_commits_140 : decode cX7_commits 140 = .ok (.bipush 6, 2) := by decide +kernel
theorem dX7_commits_142 : decode cX7_commits 142 = .ok (.invokestatic 244, 3) := by decide +kernel
theorem dX7_commits_145 : decode cX7_commits 145 = .ok (.iaload, 1) := by decide +kernel
theorem dX7_commits_146 : decode cX7_commits 146 = .ok (.iastore, 1) := by decide +kernel
theorem dX7_commits_147 : decode cX7_commits 147 = .ok (.aload_n 0, 1) := by decide +kernel
theorem dX7_commits_148 : decode cX7_commits 148 = .ok (.getfield 53, 3) := by decide +kernel
theorem dX7_commits_151 : decode cX7_commits 151 = .ok (.iload_n 3, 1) := by decide +kernel
theorem dX7_commits_152 : decode cX7_commits 152 = .ok (.iconst 2, 1) := by decide +kernel
theorem dX7_commits_153 : decode cX7_commits 153 = .ok (.iadd, 1) := by decide +kernel
theorem dX7_commits_154 : decode cX7_commits 154 = .ok (.aload_n 0, 1) := by decide +kernel
theorem dX7_commits_155 : decode cX7_commits 155 = .ok (.getfield 53, 3) := by decide +kernel
theorem dX7_commits_158 : decode cX7_commits 158 = .ok (.iconst 0, 1) := by decide +kernel
theorem dX7_commits_159 : decode cX7_commits 159 = .ok (.iaload, 1) := by decide +kernel
theorem dX7_commits_160 : decode cX7_commits 160 = .ok (.iastore, 1) := by decide +kernel
theorem dX7_commits_161 : decode cX7_commits 161 = .ok (.aload_n 0, 1) := by decide +kernel
theorem dX7_commits_162 : decode cX7_commits 162 = .ok (.getfield 53, 3) := by decide +kernel
theorem dX7_commits_165 : decode cX7_commits 165 = .ok (.iload_n 3, 1) := by decide +kernel
theorem dX7_commits_166 : decode cX7_commits 166 = .ok (.iconst 3, 1) := by decide +kernel
theorem dX7_commits_167 : decode cX7_commits 167 = .ok (.iadd, 1) := by decide +kernel
theorem dX7_commits_168 : decode cX7_commits 168 = .ok (.iload_n 2, 1) := by decide +kernel
theorem dX7_commits_169 : decode cX7_commits 169 = .ok (.ifCond .eq 7, 3) := by decide +kernel
theorem dX7_commits_172 : decode cX7_commits 172 = .ok (.iconst 1, 1) := by decide +kernel
theorem dX7_commits_173 : decode cX7_commits 173 = .ok (.goto 4, 3) := by decide +kernel
theorem dX7_commits_176 : decode cX7_commits 176 = .ok (.iconst 0, 1) := by decide +kernel
theorem dX7_commits_177 : decode cX7_commits 177 = .ok (.iastore, 1) := by decide +kernel
theorem dX7_commits_178 : decode cX7_commits 178 = .ok (.aload_n 0, 1) := by decide +kernel
theorem dX7_commits_179 : decode cX7_commits 179 = .ok (.getfield 53, 3) := by decide +kernel
theorem dX7_commits_182 : decode cX7_commits 182 = .ok (.iconst 4, 1) := by decide +kernel
theorem dX7_commits_183 : decode cX7_commits 183 = .ok (.dup2, 1) := by decide +kernel
theorem dX7_commits_184 : decode cX7_commits 184 = .ok (.iaload, 1) := by decide +kernel
theorem dX7_commits_185 : decode cX7_commits 185 = .ok (.iconst 1, 1) := by decide +kernel
theorem dX7_commits_186 : decode cX7_commits 186 = .ok (.iadd, 1) := by decide +kernel
theorem dX7_commits_187 : decode cX7_commits 187 = .ok (.iastore, 1) := by decide +kernel
theorem dX7_commits_188 : decode cX7_commits 188 = .ok (.aload_n 0, 1) := by decide +kernel
theorem dX7_commits_189 : decode cX7_commits 189 = .ok (.getfield 53, 3) := by decide +kernel
theorem dX7_commits_192 : decode cX7_commits 192 = .ok (.iload_n 1, 1) := by decide +kernel
theorem dX7_commits_193 : decode cX7_commits 193 = .ok (.bipush 11, 2) := by decide +kernel
theorem dX7_commits_195 : decode cX7_commits 195 = .ok (.invokestatic 244, 3) := by decide +kernel
theorem dX7_commits_198 : decode cX7_commits 198 = .ok (.dup2, 1) := by decide +kernel
theorem dX7_commits_199 : decode cX7_commits 199 = .ok (.iaload, 1) := by decide +kernel
theorem dX7_commits_200 : decode cX7_commits 200 = .ok (.iconst 1, 1) := by decide +kernel
theorem dX7_commits_201 : decode cX7_commits 201 = .ok (.iadd, 1) := by decide +kernel
theorem dX7_commits_202 : decode cX7_commits 202 = .ok (.iastore, 1) := by decide +kernel
theorem dX7_commits_203 : decode cX7_commits 203 = .ok (.aload_n 0, 1) := by decide +kernel
theorem dX7_commits_204 : decode cX7_commits 204 = .ok (.getfield 53, 3) := by decide +kernel
theorem dX7_commits_207 : decode cX7_commits 207 = .ok (.iload_n 1, 1) := by decide +kernel
theorem dX7_commits_208 : decode cX7_commits 208 = .ok (.iconst 4, 1) := by decide +kernel
theorem dX7_commits_209 : decode cX7_commits 209 = .ok (.invokestatic 244, 3) := by decide +kernel
theorem dX7_commits_212 : decode cX7_commits 212 = .ok (.iconst 0, 1) := by decide +kernel
theorem dX7_commits_213 : decode cX7_commits 213 = .ok (.iastore, 1) := by decide +kernel
theorem dX7_commits_214 : decode cX7_commits 214 = .ok (.aload_n 0, 1) := by decide +kernel
theorem dX7_commits_215 : decode cX7_commits 215 = .ok (.getfield 53, 3) := by decide +kernel
theorem dX7_commits_218 : decode cX7_commits 218 = .ok (.iload_n 1, 1) := by decide +kernel
theorem dX7_commits_219 : decode cX7_commits 219 = .ok (.iconst 5, 1) := by decide +kernel
theorem dX7_commits_220 : decode cX7_commits 220 = .ok (.invokestatic 244, 3) := by decide +kernel
theorem dX7_commits_223 : decode cX7_commits 223 = .ok (.bipush (-2), 2) := by decide +kernel
theorem dX7_commits_225 : decode cX7_commits 225 = .ok (.iastore, 1) := by decide +kernel
theorem dX7_commits_226 : decode cX7_commits 226 = .ok (.aload_n 0, 1) := by decide +kernel
theorem dX7_commits_227 : decode cX7_commits 227 = .ok (.getfield 53, 3) := by decide +kernel
theorem dX7_commits_230 : decode cX7_commits 230 = .ok (.iload_n 1, 1) := by decide +kernel
theorem dX7_commits_231 : decode cX7_commits 231 = .ok (.iconst 3, 1) := by decide +kernel
theorem dX7_commits_232 : decode cX7_commits 232 = .ok (.invokestatic 244, 3) := by decide +kernel
theorem dX7_commits_235 : decode cX7_commits 235 = .ok (.iconst 0, 1) := by decide +kernel
theorem dX7_commits_236 : decode cX7_commits 236 = .ok (.iastore, 1) := by decide +kernel
theorem dX7_commits_237 : decode cX7_commits 237 = .ok (.return_, 1) := by decide +kernel
theorem dX7_plus_0 : decode cX7_plus 0 = .ok (.iload_n 0, 1) := by decide +kernel
theorem dX7_plus_1 : decode cX7_plus 1 = .ok (.iload_n 1, 1) := by decide +kernel
theorem dX7_plus_2 : decode cX7_plus 2 = .ok (.iadd, 1) := by decide +kernel
theorem dX7_plus_3 : decode cX7_plus 3 = .ok (.sipush 1000, 3) := by decide +kernel
theorem dX7_plus_6 : decode cX7_plus 6 = .ok (.iadd, 1) := by decide +kernel
theorem dX7_plus_7 : decode cX7_plus 7 = .ok (.sipush 1000, 3) := by decide +kernel
theorem dX7_plus_10 : decode cX7_plus 10 = .ok (.irem, 1) := by decide +kernel
theorem dX7_plus_11 : decode cX7_plus 11 = .ok (.ireturn, 1) := by decide +kernel
theorem dX7_does_0 : decode cX7_does 0 = .ok (.aload_n 0, 1) := by decide +kernel
theorem dX7_does_1 : decode cX7_does 1 = .ok (.getfield 35, 3) := by decide +kernel
theorem dX7_does_4 : decode cX7_does 4 = .ok (.iload_n 2, 1) := by decide +kernel
theorem dX7_does_5 : decode cX7_does 5 = .ok (.iaload, 1) := by decide +kernel
theorem dX7_does_6 : decode cX7_does 6 = .ok (.tableswitch 121 0 5 #[38, 58, 66, 44, 51, 89], 38) := by decide +kernel
theorem dX7_does_44 : decode cX7_does 44 = .ok (.aload_n 0, 1) := by decide +kernel
theorem dX7_does_45 : decode cX7_does 45 = .ok (.iload_n 1, 1) := by decide +kernel
theorem dX7_does_46 : decode cX7_does 46 = .ok (.invokevirtual 291, 3) := by decide +kernel
theorem dX7_does_49 : decode cX7_does 49 = .ok (.ireturn, 1) := by decide +kernel
theorem dX7_does_50 : decode cX7_does 50 = .ok (.aload_n 0, 1) := by decide +kernel
theorem dX7_does_51 : decode cX7_does 51 = .ok (.iload_n 1, 1) := by decide +kernel
theorem dX7_does_52 : decode cX7_does 52 = .ok (.iload_n 2, 1) := by decide +kernel
theorem dX7_does_53 : decode cX7_does 53 = .ok (.invokevirtual 293, 3) := by decide +kernel
theorem dX7_does_56 : decode cX7_does 56 = .ok (.ireturn, 1) := by decide +kernel
theorem dX7_does_57 : decode cX7_does 57 = .ok (.aload_n 0, 1) := by decide +kernel
theorem dX7_does_58 : decode cX7_does 58 = .ok (.iload_n 1, 1) := by decide +kernel
theorem dX7_does_59 : decode cX7_does 59 = .ok (.iload_n 2, 1) := by decide +kernel
theorem dX7_does_60 : decode cX7_does 60 = .ok (.invokevirtual 293, 3) := by decide +kernel
theorem dX7_does_63 : decode cX7_does 63 = .ok (.ireturn, 1) := by decide +kernel
theorem dX7_does_64 : decode cX7_does 64 = .ok (.aload_n 0, 1) := by decide +kernel
theorem dX7_does_65 : decode cX7_does 65 = .ok (.iload_n 1, 1) := by decide +kernel
theorem dX7_does_66 : decode cX7_does 66 = .ok (.invokevirtual 296, 3) := by decide +kernel
theorem dX7_does_69 : decode cX7_does 69 = .ok (.goto 88, 3) := by decide +kernel
theorem dX7_does_72 : decode cX7_does 72 = .ok (.aload_n 0, 1) := by decide +kernel
theorem dX7_does_73 : decode cX7_does 73 = .ok (.getfield 53, 3) := by decide +kernel
theorem dX7_does_76 : decode cX7_does 76 = .ok (.iload_n 1, 1) := by decide +kernel
theorem dX7_does_77 : decode cX7_does 77 = .ok (.iconst 2, 1) := by decide +kernel
theorem dX7_does_78 : decode cX7_does 78 = .ok (.invokestatic 244, 3) := by decide +kernel
theorem dX7_does_81 : decode cX7_does 81 = .ok (.aload_n 0, 1) := by decide +kernel
theorem dX7_does_82 : decode cX7_does 82 = .ok (.getfield 53, 3) := by decide +kernel
theorem dX7_does_85 : decode cX7_does 85 = .ok (.iload_n 1, 1) := by decide +kernel
theorem dX7_does_86 : decode cX7_does 86 = .ok (.iconst 1, 1) := by decide +kernel
theorem dX7_does_87 : decode cX7_does 87 = .ok (.invokestatic 244, 3) := by decide +kernel
theorem dX7_does_90 : decode cX7_does 90 = .ok (.iaload, 1) := by decide +kernel
theorem dX7_does_91 : decode cX7_does 91 = .ok (.iastore, 1) := by decide +kernel
theorem dX7_does_92 : decode cX7_does 92 = .ok (.goto 65, 3) := by decide +kernel
theorem dX7_does_95 : decode cX7_does 95 = .ok (.aload_n 0, 1) := by decide +kernel
theorem dX7_does_96 : decode cX7_does 96 = .ok (.getfield 53, 3) := by decide +kernel
theorem dX7_does_99 : decode cX7_does 99 = .ok (.iload_n 1, 1) := by decide +kernel
theorem dX7_does_100 : decode cX7_does 100 = .ok (.iconst 1, 1) := by decide +kernel
theorem dX7_does_101 : decode cX7_does 101 = .ok (.invokestatic 244, 3) := by decide +kernel
theorem dX7_does_104 : decode cX7_does 104 = .ok (.aload_n 0, 1) := by decide +kernel
theorem dX7_does_105 : decode cX7_does 105 = .ok (.getfield 53, 3) := by decide +kernel
theorem dX7_does_108 : decode cX7_does 108 = .ok (.iload_n 1, 1) := by decide +kernel
theorem dX7_does_109 : decode cX7_does 109 = .ok (.iconst 1, 1) := by decide +kernel
theorem dX7_does_110 : decode cX7_does 110 = .ok (.invokestatic 244, 3) := by decide +kernel
theorem dX7_does_113 : decode cX7_does 113 = .ok (.iaload, 1) := by decide +kernel
theorem dX7_does_114 : decode cX7_does 114 = .ok (.aload_n 0, 1) := by decide +kernel
theorem dX7_does_115 : decode cX7_does 115 = .ok (.getfield 41, 3) := by decide +kernel
theorem dX7_does_118 : decode cX7_does 118 = .ok (.iload_n 2, 1) := by decide +kernel
theorem dX7_does_119 : decode cX7_does 119 = .ok (.iaload, 1) := by decide +kernel
theorem dX7_does_120 : decode cX7_does 120 = .ok (.invokestatic 299, 3) := by decide +kernel
theorem dX7_does_123 : decode cX7_does 123 = .ok (.iastore, 1) := by decide +kernel
theorem dX7_does_124 : decode cX7_does 124 = .ok (.goto 33, 3) := by decide +kernel
theorem dX7_does_127 : decode cX7_does 127 = .ok (.aload_n 0, 1) := by decide +kernel
theorem dX7_does_128 : decode cX7_does 128 = .ok (.getfield 53, 3) := by decide +kernel
theorem dX7_does_131 : decode cX7_does 131 = .ok (.iload_n 1, 1) := by decide +kernel
theorem dX7_does_132 : decode cX7_does 132 = .ok (.iconst 1, 1) := by decide +kernel
theorem dX7_does_133 : decode cX7_does 133 = .ok (.invokestatic 244, 3) := by decide +kernel
theorem dX7_does_136 : decode cX7_does 136 = .ok (.aload_n 0, 1) := by decide +kernel
theorem dX7_does_137 : decode cX7_does 137 = .ok (.getfield 53, 3) := by decide +kernel
theorem dX7_does_140 : decode cX7_does 140 = .ok (.iload_n 1, 1) := by decide +kernel
theorem dX7_does_141 : decode cX7_does 141 = .ok (.iconst 1, 1) := by decide +kernel
theorem dX7_does_142 : decode cX7_does 142 = .ok (.invokestatic 244, 3) := by decide +kernel
theorem dX7_does_145 : decode cX7_does 145 = .ok (.iaload, 1) := by decide +kernel
theorem dX7_does_146 : decode cX7_does 146 = .ok (.aload_n 0, 1) := by decide +kernel
theorem dX7_does_147 : decode cX7_does 147 = .ok (.getfield 41, 3) := by decide +kernel
theorem dX7_does_150 : decode cX7_does 150 = .ok (.iload_n 2, 1) := by decide +kernel
theorem dX7_does_151 : decode cX7_does 151 = .ok (.iaload, 1) := by decide +kernel
theorem dX7_does_152 : decode cX7_does 152 = .ok (.ineg, 1) := by decide +kernel
theorem dX7_does_153 : decode cX7_does 153 = .ok (.invokestatic 299, 3) := by decide +kernel
theorem dX7_does_156 : decode cX7_does 156 = .ok (.iastore, 1) := by decide +kernel
theorem dX7_does_157 : decode cX7_does 157 = .ok (.iconst 1, 1) := by decide +kernel
theorem dX7_does_158 : decode cX7_does 158 = .ok (.ireturn, 1) := by decide +kernel
theorem dX7_hasLeft_0 : decode cX7_hasLeft 0 = .ok (.aload_n 0, 1) := by decide +kernel
theorem dX7_hasLeft_1 : decode cX7_hasLeft 1 = .ok (.getfield 53, 3) := by decide +kernel
theorem dX7_hasLeft_4 : decode cX7_hasLeft 4 = .ok (.iload_n 1, 1) := by decide +kernel
theorem dX7_hasLeft_5 : decode cX7_hasLeft 5 = .ok (.iconst 0, 1) := by decide +kernel
theorem dX7_hasLeft_6 : decode cX7_hasLeft 6 = .ok (.invokestatic 244, 3) := by decide +kernel
theorem dX7_hasLeft_9 : decode cX7_hasLeft 9 = .ok (.iaload, 1) := by decide +kernel
theorem dX7_hasLeft_10 : decode cX7_hasLeft 10 = .ok (.aload_n 0, 1) := by decide +kernel
theorem dX7_hasLeft_11 : decode cX7_hasLeft 11 = .ok (.getfield 29, 3) := by decide +kernel
theorem dX7_hasLeft_14 : decode cX7_hasLeft 14 = .ok (.iload_n 1, 1) := by decide +kernel
theorem dX7_hasLeft_15 : decode cX7_hasLeft 15 = .ok (.iaload, 1) := by decide +kernel
theorem dX7_hasLeft_16 : decode cX7_hasLeft 16 = .ok (.if_icmp .ge 7, 3) := by decide +kernel
theorem dX7_hasLeft_19 : decode cX7_hasLeft 19 = .ok (.iconst 1, 1) := by decide +kernel
theorem dX7_hasLeft_20 : decode cX7_hasLeft 20 = .ok (.goto 4, 3) := by decide +kernel
theorem dX7_hasLeft_23 : decode cX7_hasLeft 23 = .ok (.iconst 0, 1) := by decide +kernel
theorem dX7_hasLeft_24 : decode cX7_hasLeft 24 = .ok (.ireturn, 1) := by decide +kernel
theorem dX7_steps_0 : decode cX7_steps 0 = .ok (.aload_n 0, 1) := by decide +kernel
theorem dX7_steps_1 : decode cX7_steps 1 = .ok (.iconst 0, 1) := by decide +kernel
theorem dX7_steps_2 : decode cX7_steps 2 = .ok (.putfield 254, 3) := by decide +kernel
theorem dX7_steps_5 : decode cX7_steps 5 = .ok (.aload_n 0, 1) := by decide +kernel
theorem dX7_steps_6 : decode cX7_steps 6 = .ok (.iload_n 1, 1) := by decide +kernel
theorem dX7_steps_7 : decode cX7_steps 7 = .ok (.invokevirtual 301, 3) := by decide +kernel
theorem dX7_steps_10 : decode cX7_steps 10 = .ok (.ifCond .ne 5, 3) := by decide +kernel
theorem dX7_steps_13 : decode cX7_steps 13 = .ok (.iconst 0, 1) := by decide +kernel
theorem dX7_steps_14 : decode cX7_steps 14 = .ok (.ireturn, 1) := by decide +kernel
theorem dX7_steps_15 : decode cX7_steps 15 = .ok (.aload_n 0, 1) := by decide +kernel
theorem dX7_steps_16 : decode cX7_steps 16 = .ok (.getfield 53, 3) := by decide +kernel
theorem dX7_steps_19 : decode cX7_steps 19 = .ok (.iconst 0, 1) := by decide +kernel
theorem dX7_steps_20 : decode cX7_steps 20 = .ok (.dup2, 1) := by decide +kernel
theorem dX7_steps_21 : decode cX7_steps 21 = .ok (.iaload, 1) := by decide +kernel
theorem dX7_steps_22 : decode cX7_steps 22 = .ok (.iconst 1, 1) := by decide +kernel
theorem dX7_steps_23 : decode cX7_steps 23 = .ok (.iadd, 1) := by decide +kernel
theorem dX7_steps_24 : decode cX7_steps 24 = .ok (.iastore, 1) := by decide +kernel
theorem dX7_steps_25 : decode cX7_steps 25 = .ok (.aload_n 0, 1) := by decide +kernel
theorem dX7_steps_26 : decode cX7_steps 26 = .ok (.iload_n 1, 1) := by decide +kernel
theorem dX7_steps_27 : decode cX7_steps 27 = .ok (.bipush 24, 2) := by decide +kernel
theorem dX7_steps_29 : decode cX7_steps 29 = .ok (.iload_n 1, 1) := by decide +kernel
theorem dX7_steps_30 : decode cX7_steps 30 = .ok (.imul, 1) := by decide +kernel
theorem dX7_steps_31 : decode cX7_steps 31 = .ok (.aload_n 0, 1) := by decide +kernel
theorem dX7_steps_32 : decode cX7_steps 32 = .ok (.getfield 53, 3) := by decide +kernel
theorem dX7_steps_35 : decode cX7_steps 35 = .ok (.iload_n 1, 1) := by decide +kernel
theorem dX7_steps_36 : decode cX7_steps 36 = .ok (.iconst 0, 1) := by decide +kernel
theorem dX7_steps_37 : decode cX7_steps 37 = .ok (.invokestatic 244, 3) := by decide +kernel
theorem dX7_steps_40 : decode cX7_steps 40 = .ok (.iaload, 1) := by decide +kernel
theorem dX7_steps_41 : decode cX7_steps 41 = .ok (.iadd, 1) := by decide +kernel
theorem dX7_steps_42 : decode cX7_steps 42 = .ok (.invokevirtual 305, 3) := by decide +kernel
theorem dX7_steps_45 : decode cX7_steps 45 = .ok (.istore_n 2, 1) := by decide +kernel
theorem dX7_steps_46 : decode cX7_steps 46 = .ok (.iload_n 2, 1) := by decide +kernel
theorem dX7_steps_47 : decode cX7_steps 47 = .ok (.iconst 1, 1) := by decide +kernel
theorem dX7_steps_48 : decode cX7_steps 48 = .ok (.if_icmp .ne 17, 3) := by decide +kernel
theorem dX7_steps_51 : decode cX7_steps 51 = .ok (.aload_n 0, 1) := by decide +kernel
theorem dX7_steps_52 : decode cX7_steps 52 = .ok (.getfield 53, 3) := by decide +kernel
theorem dX7_steps_55 : decode cX7_steps 55 = .ok (.iload_n 1, 1) := by decide +kernel
theorem dX7_steps_56 : decode cX7_steps 56 = .ok (.iconst 0, 1) := by decide +kernel
theorem dX7_steps_57 : decode cX7_steps 57 = .ok (.invokestatic 244, 3) := by decide +kernel
theorem dX7_steps_60 : decode cX7_steps 60 = .ok (.dup2, 1) := by decide +kernel
theorem dX7_steps_61 : decode cX7_steps 61 = .ok (.iaload, 1) := by decide +kernel
theorem dX7_steps_62 : decode cX7_steps 62 = .ok (.iconst 1, 1) := by decide +kernel
theorem dX7_steps_63 : decode cX7_steps 63 = .ok (.iadd, 1) := by decide +kernel
theorem dX7_steps_64 : decode cX7_steps 64 = .ok (.iastore, 1) := by decide +kernel
theorem dX7_steps_65 : decode cX7_steps 65 = .ok (.iload_n 2, 1) := by decide +kernel
theorem dX7_steps_66 : decode cX7_steps 66 = .ok (.ireturn, 1) := by decide +kernel
theorem dX7_isCore_0 : decode cX7_isCore 0 = .ok (.aload_n 0, 1) := by decide +kernel
theorem dX7_isCore_1 : decode cX7_isCore 1 = .ok (.getfield 226, 3) := by decide +kernel
theorem dX7_isCore_4 : decode cX7_isCore 4 = .ok (.ifCond .eq 23, 3) := by decide +kernel
theorem dX7_isCore_7 : decode cX7_isCore 7 = .ok (.iload_n 1, 1) := by decide +kernel
theorem dX7_isCore_8 : decode cX7_isCore 8 = .ok (.iconst 0, 1) := by decide +kernel
theorem dX7_isCore_9 : decode cX7_isCore 9 = .ok (.aload_n 0, 1) := by decide +kernel
theorem dX7_isCore_10 : decode cX7_isCore 10 = .ok (.getfield 17, 3) := by decide +kernel
theorem dX7_isCore_13 : decode cX7_isCore 13 = .ok (.iconst 5, 1) := by decide +kernel
theorem dX7_isCore_14 : decode cX7_isCore 14 = .ok (.iaload, 1) := by decide +kernel
theorem dX7_isCore_15 : decode cX7_isCore 15 = .ok (.iconst 1, 1) := by decide +kernel
theorem dX7_isCore_16 : decode cX7_isCore 16 = .ok (.isub, 1) := by decide +kernel
theorem dX7_isCore_17 : decode cX7_isCore 17 = .ok (.invokestatic 94, 3) := by decide +kernel
theorem dX7_isCore_20 : decode cX7_isCore 20 = .ok (.ifCond .eq 7, 3) := by decide +kernel
theorem dX7_isCore_23 : decode cX7_isCore 23 = .ok (.iconst 1, 1) := by decide +kernel
theorem dX7_isCore_24 : decode cX7_isCore 24 = .ok (.goto 4, 3) := by decide +kernel
theorem dX7_isCore_27 : decode cX7_isCore 27 = .ok (.iconst 0, 1) := by decide +kernel
theorem dX7_isCore_28 : decode cX7_isCore 28 = .ok (.ireturn, 1) := by decide +kernel
theorem dX7_isAddress_0 : decode cX7_isAddress 0 = .ok (.aload_n 0, 1) := by decide +kernel
theorem dX7_isAddress_1 : decode cX7_isAddress 1 = .ok (.getfield 226, 3) := by decide +kernel
theorem dX7_isAddress_4 : decode cX7_isAddress 4 = .ok (.ifCond .eq 27, 3) := by decide +kernel
theorem dX7_isAddress_7 : decode cX7_isAddress 7 = .ok (.iload_n 1, 1) := by decide +kernel
theorem dX7_isAddress_8 : decode cX7_isAddress 8 = .ok (.iconst 0, 1) := by decide +kernel
theorem dX7_isAddress_9 : decode cX7_isAddress 9 = .ok (.aload_n 0, 1) := by decide +kernel
theorem dX7_isAddress_10 : decode cX7_isAddress 10 = .ok (.aload_n 0, 1) := by decide +kernel
theorem dX7_isAddress_11 : decode cX7_isAddress 11 = .ok (.getfield 17, 3) := by decide +kernel
theorem dX7_isAddress_14 : decode cX7_isAddress 14 = .ok (.iconst 2, 1) := by decide +kernel
theorem dX7_isAddress_15 : decode cX7_isAddress 15 = .ok (.iaload, 1) := by decide +kernel
theorem dX7_isAddress_16 : decode cX7_isAddress 16 = .ok (.invokevirtual 165, 3) := by decide +kernel
theorem dX7_isAddress_19 : decode cX7_isAddress 19 = .ok (.iconst 1, 1) := by decide +kernel
theorem dX7_isAddress_20 : decode cX7_isAddress 20 = .ok (.isub, 1) := by decide +kernel
theorem dX7_isAddress_21 : decode cX7_isAddress 21 = .ok (.invokestatic 94, 3) := by decide +kernel
theorem dX7_isAddress_24 : decode cX7_isAddress 24 = .ok (.ifCond .eq 7, 3) := by decide +kernel
theorem dX7_isAddress_27 : decode cX7_isAddress 27 = .ok (.iconst 1, 1) := by decide +kernel
theorem dX7_isAddress_28 : decode cX7_isAddress 28 = .ok (.goto 4, 3) := by decide +kernel
theorem dX7_isAddress_31 : decode cX7_isAddress 31 = .ok (.iconst 0, 1) := by decide +kernel
theorem dX7_isAddress_32 : decode cX7_isAddress 32 = .ok (.ireturn, 1) := by decide +kernel
theorem dX7_about_0 : decode cX7_about 0 = .ok (.aload_n 0, 1) := by decide +kernel
theorem dX7_about_1 : decode cX7_about 1 = .ok (.invokevirtual 211, 3) := by decide +kernel
theorem dX7_about_4 : decode cX7_about 4 = .ok (.aload_n 0, 1) := by decide +kernel
theorem dX7_about_5 : decode cX7_about 5 = .ok (.getfield 226, 3) := by decide +kernel
theorem dX7_about_8 : decode cX7_about 8 = .ok (.ifCond .ne 9, 3) := by decide +kernel
theorem dX7_about_11 : decode cX7_about 11 = .ok (.aload_n 0, 1) := by decide +kernel
theorem dX7_about_12 : decode cX7_about 12 = .ok (.iconst 1, 1) := by decide +kernel
theorem dX7_about_13 : decode cX7_about 13 = .ok (.invokevirtual 214, 3) := by decide +kernel
theorem dX7_about_16 : decode cX7_about 16 = .ok (.ireturn, 1) := by decide +kernel
theorem dX7_about_17 : decode cX7_about 17 = .ok (.iload_n 1, 1) := by decide +kernel
theorem dX7_about_18 : decode cX7_about 18 = .ok (.tableswitch 117 0 8 #[50, 57, 64, 71, 78, 85, 92, 103, 110], 50) := by decide +kernel
theorem dX7_about_68 : decode cX7_about 68 = .ok (.aload_n 0, 1) := by decide +kernel
theorem dX7_about_69 : decode cX7_about 69 = .ok (.getfield 17, 3) := by decide +kernel
theorem dX7_about_72 : decode cX7_about 72 = .ok (.iconst 0, 1) := by decide +kernel
theorem dX7_about_73 : decode cX7_about 73 = .ok (.iaload, 1) := by decide +kernel
theorem dX7_about_74 : decode cX7_about 74 = .ok (.ireturn, 1) := by decide +kernel
theorem dX7_about_75 : decode cX7_about 75 = .ok (.aload_n 0, 1) := by decide +kernel
theorem dX7_about_76 : decode cX7_about 76 = .ok (.getfield 17, 3) := by decide +kernel
theorem dX7_about_79 : decode cX7_about 79 = .ok (.iconst 1, 1) := by decide +kernel
theorem dX7_about_80 : decode cX7_about 80 = .ok (.iaload, 1) := by decide +kernel
theorem dX7_about_81 : decode cX7_about 81 = .ok (.ireturn, 1) := by decide +kernel
theorem dX7_about_82 : decode cX7_about 82 = .ok (.aload_n 0, 1) := by decide +kernel
theorem dX7_about_83 : decode cX7_about 83 = .ok (.getfield 17, 3) := by decide +kernel
theorem dX7_about_86 : decode cX7_about 86 = .ok (.iconst 2, 1) := by decide +kernel
theorem dX7_about_87 : decode cX7_about 87 = .ok (.iaload, 1) := by decide +kernel
theorem dX7_about_88 : decode cX7_about 88 = .ok (.ireturn, 1) := by decide +kernel
theorem dX7_about_89 : decode cX7_about 89 = .ok (.aload_n 0, 1) := by decide +kernel
theorem dX7_about_90 : decode cX7_about 90 = .ok (.getfield 17, 3) := by decide +kernel
theorem dX7_about_93 : decode cX7_about 93 = .ok (.iconst 3, 1) := by decide +kernel
theorem dX7_about_94 : decode cX7_about 94 = .ok (.iaload, 1) := by decide +kernel
theorem dX7_about_95 : decode cX7_about 95 = .ok (.ireturn, 1) := by decide +kernel
theorem dX7_about_96 : decode cX7_about 96 = .ok (.aload_n 0, 1) := by decide +kernel
theorem dX7_about_97 : decode cX7_about 97 = .ok (.getfield 17, 3) := by decide +kernel
theorem dX7_about_100 : decode cX7_about 100 = .ok (.iconst 4, 1) := by decide +kernel
theorem dX7_about_101 : decode cX7_about 101 = .ok (.iaload, 1) := by decide +kernel
theorem dX7_about_102 : decode cX7_about 102 = .ok (.ireturn, 1) := by decide +kernel
theorem dX7_about_103 : decode cX7_about 103 = .ok (.aload_n 0, 1) := by decide +kernel
theorem dX7_about_104 : decode cX7_about 104 = .ok (.getfield 17, 3) := by decide +kernel
theorem dX7_about_107 : decode cX7_about 107 = .ok (.iconst 5, 1) := by decide +kernel
theorem dX7_about_108 : decode cX7_about 108 = .ok (.iaload, 1) := by decide +kernel
theorem dX7_about_109 : decode cX7_about 109 = .ok (.ireturn, 1) := by decide +kernel
theorem dX7_about_110 : decode cX7_about 110 = .ok (.aload_n 0, 1) := by decide +kernel
theorem dX7_about_111 : decode cX7_about 111 = .ok (.aload_n 0, 1) := by decide +kernel
theorem dX7_about_112 : decode cX7_about 112 = .ok (.getfield 17, 3) := by decide +kernel
theorem dX7_about_115 : decode cX7_about 115 = .ok (.iconst 2, 1) := by decide +kernel
theorem dX7_about_116 : decode cX7_about 116 = .ok (.iaload, 1) := by decide +kernel
theorem dX7_about_117 : decode cX7_about 117 = .ok (.invokevirtual 165, 3) := by decide +kernel
theorem dX7_about_120 : decode cX7_about 120 = .ok (.ireturn, 1) := by decide +kernel
theorem dX7_about_121 : decode cX7_about 121 = .ok (.aload_n 0, 1) := by decide +kernel
theorem dX7_about_122 : decode cX7_about 122 = .ok (.getfield 53, 3) := by decide +kernel
theorem dX7_about_125 : decode cX7_about 125 = .ok (.iconst 0, 1) := by decide +kernel
theorem dX7_about_126 : decode cX7_about 126 = .ok (.iaload, 1) := by decide +kernel
theorem dX7_about_127 : decode cX7_about 127 = .ok (.ireturn, 1) := by decide +kernel
theorem dX7_about_128 : decode cX7_about 128 = .ok (.aload_n 0, 1) := by decide +kernel
theorem dX7_about_129 : decode cX7_about 129 = .ok (.getfield 53, 3) := by decide +kernel
theorem dX7_about_132 : decode cX7_about 132 = .ok (.iconst 4, 1) := by decide +kernel
theorem dX7_about_133 : decode cX7_about 133 = .ok (.iaload, 1) := by decide +kernel
theorem dX7_about_134 : decode cX7_about 134 = .ok (.ireturn, 1) := by decide +kernel
theorem dX7_about_135 : decode cX7_about 135 = .ok (.aload_n 0, 1) := by decide +kernel
theorem dX7_about_136 : decode cX7_about 136 = .ok (.iconst 1, 1) := by decide +kernel
theorem dX7_about_137 : decode cX7_about 137 = .ok (.invokevirtual 214, 3) := by decide +kernel
theorem dX7_about_140 : decode cX7_about 140 = .ok (.ireturn, 1) := by decide +kernel
theorem dX7_deed_0 : decode cX7_deed 0 = .ok (.aload_n 0, 1) := by decide +kernel
theorem dX7_deed_1 : decode cX7_deed 1 = .ok (.invokevirtual 211, 3) := by decide +kernel
theorem dX7_deed_4 : decode cX7_deed 4 = .ok (.aload_n 0, 1) := by decide +kernel
theorem dX7_deed_5 : decode cX7_deed 5 = .ok (.iload_n 1, 1) := by decide +kernel
theorem dX7_deed_6 : decode cX7_deed 6 = .ok (.invokevirtual 308, 3) := by decide +kernel
theorem dX7_deed_9 : decode cX7_deed 9 = .ok (.ifCond .eq 19, 3) := by decide +kernel
theorem dX7_deed_12 : decode cX7_deed 12 = .ok (.iload_n 2, 1) := by decide +kernel
theorem dX7_deed_13 : decode cX7_deed 13 = .ok (.iconst 0, 1) := by decide +kernel
theorem dX7_deed_14 : decode cX7_deed 14 = .ok (.aload_n 0, 1) := by decide +kernel
theorem dX7_deed_15 : decode cX7_deed 15 = .ok (.getfield 29, 3) := by decide +kernel
theorem dX7_deed_18 : decode cX7_deed 18 = .ok (.iload_n 1, 1) := by decide +kernel
theorem dX7_deed_19 : decode cX7_deed 19 = .ok (.iaload, 1) := by decide +kernel
theorem dX7_deed_20 : decode cX7_deed 20 = .ok (.iconst 1, 1) := by decide +kernel
theorem dX7_deed_21 : decode cX7_deed 21 = .ok (.isub, 1) := by decide +kernel
theorem dX7_deed_22 : decode cX7_deed 22 = .ok (.invokestatic 94, 3) := by decide +kernel
theorem dX7_deed_25 : decode cX7_deed 25 = .ok (.ifCond .ne 9, 3) := by decide +kernel
theorem dX7_deed_28 : decode cX7_deed 28 = .ok (.aload_n 0, 1) := by decide +kernel
theorem dX7_deed_29 : decode cX7_deed 29 = .ok (.iconst 1, 1) := by decide +kernel
theorem dX7_deed_30 : decode cX7_deed 30 = .ok (.invokevirtual 214, 3) := by decide +kernel
theorem dX7_deed_33 : decode cX7_deed 33 = .ok (.ireturn, 1) := by decide +kernel
theorem dX7_deed_34 : decode cX7_deed 34 = .ok (.bipush 24, 2) := by decide +kernel
theorem dX7_deed_36 : decode cX7_deed 36 = .ok (.iload_n 1, 1) := by decide +kernel
theorem dX7_deed_37 : decode cX7_deed 37 = .ok (.imul, 1) := by decide +kernel
theorem dX7_deed_38 : decode cX7_deed 38 = .ok (.iload_n 2, 1) := by decide +kernel
theorem dX7_deed_39 : decode cX7_deed 39 = .ok (.iadd, 1) := by decide +kernel
theorem dX7_deed_40 : decode cX7_deed 40 = .ok (.istore 4, 2) := by decide +kernel
theorem dX7_deed_42 : decode cX7_deed 42 = .ok (.iload_n 3, 1) := by decide +kernel
theorem dX7_deed_43 : decode cX7_deed 43 = .ok (.tableswitch 49 0 2 #[25, 33, 41], 25) := by decide +kernel
theorem dX7_deed_68 : decode cX7_deed 68 = .ok (.aload_n 0, 1) := by decide +kernel
theorem dX7_deed_69 : decode cX7_deed 69 = .ok (.getfield 35, 3) := by decide +kernel
theorem dX7_deed_72 : decode cX7_deed 72 = .ok (.iload 4, 2) := by decide +kernel
theorem dX7_deed_74 : decode cX7_deed 74 = .ok (.iaload, 1) := by decide +kernel
theorem dX7_deed_75 : decode cX7_deed 75 = .ok (.ireturn, 1) := by decide +kernel
theorem dX7_deed_76 : decode cX7_deed 76 = .ok (.aload_n 0, 1) := by decide +kernel
theorem dX7_deed_77 : decode cX7_deed 77 = .ok (.getfield 41, 3) := by decide +kernel
theorem dX7_deed_80 : decode cX7_deed 80 = .ok (.iload 4, 2) := by decide +kernel
theorem dX7_deed_82 : decode cX7_deed 82 = .ok (.iaload, 1) := by decide +kernel
theorem dX7_deed_83 : decode cX7_deed 83 = .ok (.ireturn, 1) := by decide +kernel
theorem dX7_deed_84 : decode cX7_deed 84 = .ok (.aload_n 0, 1) := by decide +kernel
theorem dX7_deed_85 : decode cX7_deed 85 = .ok (.getfield 47, 3) := by decide +kernel
theorem dX7_deed_88 : decode cX7_deed 88 = .ok (.iload 4, 2) := by decide +kernel
theorem dX7_deed_90 : decode cX7_deed 90 = .ok (.iaload, 1) := by decide +kernel
theorem dX7_deed_91 : decode cX7_deed 91 = .ok (.ireturn, 1) := by decide +kernel
theorem dX7_deed_92 : decode cX7_deed 92 = .ok (.aload_n 0, 1) := by decide +kernel
theorem dX7_deed_93 : decode cX7_deed 93 = .ok (.iconst 1, 1) := by decide +kernel
theorem dX7_deed_94 : decode cX7_deed 94 = .ok (.invokevirtual 214, 3) := by decide +kernel
theorem dX7_deed_97 : decode cX7_deed 97 = .ok (.ireturn, 1) := by decide +kernel
theorem dX7_wordNow_0 : decode cX7_wordNow 0 = .ok (.iconst 0, 1) := by decide +kernel
theorem dX7_wordNow_1 : decode cX7_wordNow 1 = .ok (.istore_n 2, 1) := by decide +kernel
theorem dX7_wordNow_2 : decode cX7_wordNow 2 = .ok (.iload_n 2, 1) := by decide +kernel
theorem dX7_wordNow_3 : decode cX7_wordNow 3 = .ok (.aload_n 0, 1) := by decide +kernel
theorem dX7_wordNow_4 : decode cX7_wordNow 4 = .ok (.getfield 17, 3) := by decide +kernel
theorem dX7_wordNow_7 : decode cX7_wordNow 7 = .ok (.iconst 5, 1) := by decide +kernel
theorem dX7_wordNow_8 : decode cX7_wordNow 8 = .ok (.iaload, 1) := by decide +kernel
theorem dX7_wordNow_9 : decode cX7_wordNow 9 = .ok (.if_icmp .ge 69, 3) := by decide +kernel
theorem dX7_wordNow_12 : decode cX7_wordNow 12 = .ok (.aload_n 0, 1) := by decide +kernel
theorem dX7_wordNow_13 : decode cX7_wordNow 13 = .ok (.iload_n 2, 1) := by decide +kernel
theorem dX7_wordNow_14 : decode cX7_wordNow 14 = .ok (.iload_n 1, 1) := by decide +kernel
theorem dX7_wordNow_15 : decode cX7_wordNow 15 = .ok (.aload_n 0, 1) := by decide +kernel
theorem dX7_wordNow_16 : decode cX7_wordNow 16 = .ok (.getfield 17, 3) := by decide +kernel
theorem dX7_wordNow_19 : decode cX7_wordNow 19 = .ok (.iconst 2, 1) := by decide +kernel
theorem dX7_wordNow_20 : decode cX7_wordNow 20 = .ok (.iaload, 1) := by decide +kernel
theorem dX7_wordNow_21 : decode cX7_wordNow 21 = .ok (.idiv, 1) := by decide +kernel
theorem dX7_wordNow_22 : decode cX7_wordNow 22 = .ok (.invokevirtual 257, 3) := by decide +kernel
theorem dX7_wordNow_25 : decode cX7_wordNow 25 = .ok (.istore_n 3, 1) := by decide +kernel
theorem dX7_wordNow_26 : decode cX7_wordNow 26 = .ok (.iload_n 3, 1) := by decide +kernel
theorem dX7_wordNow_27 : decode cX7_wordNow 27 = .ok (.iconst (-1), 1) := by decide +kernel
theorem dX7_wordNow_28 : decode cX7_wordNow 28 = .ok (.if_icmp .eq 44, 3) := by decide +kernel
theorem dX7_wordNow_31 : decode cX7_wordNow 31 = .ok (.aload_n 0, 1) := by decide +kernel
theorem dX7_wordNow_32 : decode cX7_wordNow 32 = .ok (.getfield 53, 3) := by decide +kernel
theorem dX7_wordNow_35 : decode cX7_wordNow 35 = .ok (.iload_n 3, 1) := by decide +kernel
theorem dX7_wordNow_36 : decode cX7_wordNow 36 = .ok (.iconst 1, 1) := by decide +kernel
theorem dX7_wordNow_37 : decode cX7_wordNow 37 = .ok (.iadd, 1) := by decide +kernel
theorem dX7_wordNow_38 : decode cX7_wordNow 38 = .ok (.iaload, 1) := by decide +kernel
theorem dX7_wordNow_39 : decode cX7_wordNow 39 = .ok (.iconst 3, 1) := by decide +kernel
theorem dX7_wordNow_40 : decode cX7_wordNow 40 = .ok (.if_icmp .ne 32, 3) := by decide +kernel
theorem dX7_wordNow_43 : decode cX7_wordNow 43 = .ok (.aload_n 0, 1) := by decide +kernel
theorem dX7_wordNow_44 : decode cX7_wordNow 44 = .ok (.getfield 53, 3) := by decide +kernel
theorem dX7_wordNow_47 : decode cX7_wordNow 47 = .ok (.iload_n 3, 1) := by decide +kernel
theorem dX7_wordNow_48 : decode cX7_wordNow 48 = .ok (.iconst 3, 1) := by decide +kernel
theorem dX7_wordNow_49 : decode cX7_wordNow 49 = .ok (.iadd, 1) := by decide +kernel
theorem dX7_wordNow_50 : decode cX7_wordNow 50 = .ok (.iaload, 1) := by decide +kernel
theorem dX7_wordNow_51 : decode cX7_wordNow 51 = .ok (.ifCond .ne 21, 3) := by decide +kernel
theorem dX7_wordNow_54 : decode cX7_wordNow 54 = .ok (.aload_n 0, 1) := by decide +kernel
theorem dX7_wordNow_55 : decode cX7_wordNow 55 = .ok (.getfield 53, 3) := by decide +kernel
theorem dX7_wordNow_58 : decode cX7_wordNow 58 = .ok (.iload_n 3, 1) := by decide +kernel
theorem dX7_wordNow_59 : decode cX7_wordNow 59 = .ok (.iconst 5, 1) := by decide +kernel
theorem dX7_wordNow_60 : decode cX7_wordNow 60 = .ok (.iadd, 1) := by decide +kernel
theorem dX7_wordNow_61 : decode cX7_wordNow 61 = .ok (.iload_n 1, 1) := by decide +kernel
theorem dX7_wordNow_62 : decode cX7_wordNow 62 = .ok (.aload_n 0, 1) := by decide +kernel
theorem dX7_wordNow_63 : decode cX7_wordNow 63 = .ok (.getfield 17, 3) := by decide +kernel
theorem dX7_wordNow_66 : decode cX7_wordNow 66 = .ok (.iconst 2, 1) := by decide +kernel
theorem dX7_wordNow_67 : decode cX7_wordNow 67 = .ok (.iaload, 1) := by decide +kernel
theorem dX7_wordNow_68 : decode cX7_wordNow 68 = .ok (.irem, 1) := by decide +kernel
theorem dX7_wordNow_69 : decode cX7_wordNow 69 = .ok (.iadd, 1) := by decide +kernel
theorem dX7_wordNow_70 : decode cX7_wordNow 70 = .ok (.iaload, 1) := by decide +kernel
theorem dX7_wordNow_71 : decode cX7_wordNow 71 = .ok (.ireturn, 1) := by decide +kernel
theorem dX7_wordNow_72 : decode cX7_wordNow 72 = .ok (.iinc 2 1, 3) := by decide +kernel
theorem dX7_wordNow_75 : decode cX7_wordNow 75 = .ok (.goto (-73), 3) := by decide +kernel
theorem dX7_wordNow_78 : decode cX7_wordNow 78 = .ok (.aload_n 0, 1) := by decide +kernel
theorem dX7_wordNow_79 : decode cX7_wordNow 79 = .ok (.getfield 53, 3) := by decide +kernel
theorem dX7_wordNow_82 : decode cX7_wordNow 82 = .ok (.sipush 254, 3) := by decide +kernel
theorem dX7_wordNow_85 : decode cX7_wordNow 85 = .ok (.iload_n 1, 1) := by decide +kernel
theorem dX7_wordNow_86 : decode cX7_wordNow 86 = .ok (.iadd, 1) := by decide +kernel
theorem dX7_wordNow_87 : decode cX7_wordNow 87 = .ok (.iaload, 1) := by decide +kernel
theorem dX7_wordNow_88 : decode cX7_wordNow 88 = .ok (.ireturn, 1) := by decide +kernel
theorem dX7_word_0 : decode cX7_word 0 = .ok (.aload_n 0, 1) := by decide +kernel
theorem dX7_word_1 : decode cX7_word 1 = .ok (.invokevirtual 211, 3) := by decide +kernel
theorem dX7_word_4 : decode cX7_word 4 = .ok (.aload_n 0, 1) := by decide +kernel
theorem dX7_word_5 : decode cX7_word 5 = .ok (.iload_n 1, 1) := by decide +kernel
theorem dX7_word_6 : decode cX7_word 6 = .ok (.invokevirtual 311, 3) := by decide +kernel
theorem dX7_word_9 : decode cX7_word 9 = .ok (.ifCond .eq 11, 3) := by decide +kernel
theorem dX7_word_12 : decode cX7_word 12 = .ok (.aload_n 0, 1) := by decide +kernel
theorem dX7_word_13 : decode cX7_word 13 = .ok (.iload_n 1, 1) := by decide +kernel
theorem dX7_word_14 : decode cX7_word 14 = .ok (.invokevirtual 314, 3) := by decide +kernel
theorem dX7_word_17 : decode cX7_word 17 = .ok (.goto 8, 3) := by decide +kernel
theorem dX7_word_20 : decode cX7_word 20 = .ok (.aload_n 0, 1) := by decide +kernel
theorem dX7_word_21 : decode cX7_word 21 = .ok (.iconst 1, 1) := by decide +kernel
theorem dX7_word_22 : decode cX7_word 22 = .ok (.invokevirtual 214, 3) := by decide +kernel
theorem dX7_word_25 : decode cX7_word 25 = .ok (.ireturn, 1) := by decide +kernel
theorem dX7_memory_0 : decode cX7_memory 0 = .ok (.aload_n 0, 1) := by decide +kernel
theorem dX7_memory_1 : decode cX7_memory 1 = .ok (.invokevirtual 211, 3) := by decide +kernel
theorem dX7_memory_4 : decode cX7_memory 4 = .ok (.aload_n 0, 1) := by decide +kernel
theorem dX7_memory_5 : decode cX7_memory 5 = .ok (.iload_n 1, 1) := by decide +kernel
theorem dX7_memory_6 : decode cX7_memory 6 = .ok (.invokevirtual 311, 3) := by decide +kernel
theorem dX7_memory_9 : decode cX7_memory 9 = .ok (.ifCond .eq 16, 3) := by decide +kernel
theorem dX7_memory_12 : decode cX7_memory 12 = .ok (.aload_n 0, 1) := by decide +kernel
theorem dX7_memory_13 : decode cX7_memory 13 = .ok (.getfield 53, 3) := by decide +kernel
theorem dX7_memory_16 : decode cX7_memory 16 = .ok (.sipush 254, 3) := by decide +kernel
theorem dX7_memory_19 : decode cX7_memory 19 = .ok (.iload_n 1, 1) := by decide +kernel
theorem dX7_memory_20 : decode cX7_memory 20 = .ok (.iadd, 1) := by decide +kernel
theorem dX7_memory_21 : decode cX7_memory 21 = .ok (.iaload, 1) := by decide +kernel
theorem dX7_memory_22 : decode cX7_memory 22 = .ok (.goto 8, 3) := by decide +kernel
theorem dX7_memory_25 : decode cX7_memory 25 = .ok (.aload_n 0, 1) := by decide +kernel
theorem dX7_memory_26 : decode cX7_memory 26 = .ok (.iconst 1, 1) := by decide +kernel
theorem dX7_memory_27 : decode cX7_memory 27 = .ok (.invokevirtual 214, 3) := by decide +kernel
theorem dX7_memory_30 : decode cX7_memory 30 = .ok (.ireturn, 1) := by decide +kernel
theorem dX7_plainBegins_0 : decode cX7_plainBegins 0 = .ok (.iconst 0, 1) := by decide +kernel
theorem dX7_plainBegins_1 : decode cX7_plainBegins 1 = .ok (.istore_n 1, 1) := by decide +kernel
theorem dX7_plainBegins_2 : decode cX7_plainBegins 2 = .ok (.iload_n 1, 1) := by decide +kernel
theorem dX7_plainBegins_3 : decode cX7_plainBegins 3 = .ok (.bipush 64, 2) := by decide +kernel
theorem dX7_plainBegins_5 : decode cX7_plainBegins 5 = .ok (.if_icmp .ge 21, 3) := by decide +kernel
theorem dX7_plainBegins_8 : decode cX7_plainBegins 8 = .ok (.aload_n 0, 1) := by decide +kernel
theorem dX7_plainBegins_9 : decode cX7_plainBegins 9 = .ok (.getfield 62, 3) := by decide +kernel
theorem dX7_plainBegins_12 : decode cX7_plainBegins 12 = .ok (.iload_n 1, 1) := by decide +kernel
theorem dX7_plainBegins_13 : decode cX7_plainBegins 13 = .ok (.aload_n 0, 1) := by decide +kernel
theorem dX7_plainBegins_14 : decode cX7_plainBegins 14 = .ok (.getfield 23, 3) := by decide +kernel
theorem dX7_plainBegins_17 : decode cX7_plainBegins 17 = .ok (.iload_n 1, 1) := by decide +kernel
theorem dX7_plainBegins_18 : decode cX7_plainBegins 18 = .ok (.iaload, 1) := by decide +kernel
theorem dX7_plainBegins_19 : decode cX7_plainBegins 19 = .ok (.iastore, 1) := by decide +kernel
theorem dX7_plainBegins_20 : decode cX7_plainBegins 20 = .ok (.iinc 1 1, 3) := by decide +kernel
theorem dX7_plainBegins_23 : decode cX7_plainBegins 23 = .ok (.goto (-21), 3) := by decide +kernel
theorem dX7_plainBegins_26 : decode cX7_plainBegins 26 = .ok (.return_, 1) := by decide +kernel
theorem dX7_plainly_0 : decode cX7_plainly 0 = .ok (.aload_n 0, 1) := by decide +kernel
theorem dX7_plainly_1 : decode cX7_plainly 1 = .ok (.getfield 41, 3) := by decide +kernel
theorem dX7_plainly_4 : decode cX7_plainly 4 = .ok (.iload_n 1, 1) := by decide +kernel
theorem dX7_plainly_5 : decode cX7_plainly 5 = .ok (.iaload, 1) := by decide +kernel
theorem dX7_plainly_6 : decode cX7_plainly 6 = .ok (.aload_n 0, 1) := by decide +kernel
theorem dX7_plainly_7 : decode cX7_plainly 7 = .ok (.getfield 47, 3) := by decide +kernel
theorem dX7_plainly_10 : decode cX7_plainly 10 = .ok (.iload_n 1, 1) := by decide +kernel
theorem dX7_plainly_11 : decode cX7_plainly 11 = .ok (.iaload, 1) := by decide +kernel
theorem dX7_plainly_12 : decode cX7_plainly 12 = .ok (.iconst 1, 1) := by decide +kernel
theorem dX7_plainly_13 : decode cX7_plainly 13 = .ok (.if_icmp .ne 10, 3) := by decide +kernel
theorem dX7_plainly_16 : decode cX7_plainly 16 = .ok (.aload_n 0, 1) := by decide +kernel
theorem dX7_plainly_17 : decode cX7_plainly 17 = .ok (.getfield 317, 3) := by decide +kernel
theorem dX7_plainly_20 : decode cX7_plainly 20 = .ok (.goto 4, 3) := by decide +kernel
theorem dX7_plainly_23 : decode cX7_plainly 23 = .ok (.iconst 0, 1) := by decide +kernel
theorem dX7_plainly_24 : decode cX7_plainly 24 = .ok (.iadd, 1) := by decide +kernel
theorem dX7_plainly_25 : decode cX7_plainly 25 = .ok (.aload_n 0, 1) := by decide +kernel
theorem dX7_plainly_26 : decode cX7_plainly 26 = .ok (.aload_n 0, 1) := by decide +kernel
theorem dX7_plainly_27 : decode cX7_plainly 27 = .ok (.getfield 17, 3) := by decide +kernel
theorem dX7_plainly_30 : decode cX7_plainly 30 = .ok (.iconst 2, 1) := by decide +kernel
theorem dX7_plainly_31 : decode cX7_plainly 31 = .ok (.iaload, 1) := by decide +kernel
theorem dX7_plainly_32 : decode cX7_plainly 32 = .ok (.invokevirtual 165, 3) := by decide +kernel
theorem dX7_plainly_35 : decode cX7_plainly 35 = .ok (.irem, 1) := by decide +kernel
theorem dX7_plainly_36 : decode cX7_plainly 36 = .ok (.istore_n 2, 1) := by decide +kernel
theorem dX7_plainly_37 : decode cX7_plainly 37 = .ok (.aload_n 0, 1) := by decide +kernel
theorem dX7_plainly_38 : decode cX7_plainly 38 = .ok (.getfield 35, 3) := by decide +kernel
theorem dX7_plainly_41 : decode cX7_plainly 41 = .ok (.iload_n 1, 1) := by decide +kernel
theorem dX7_plainly_42 : decode cX7_plainly 42 = .ok (.iaload, 1) := by decide +kernel
theorem dX7_plainly_43 : decode cX7_plainly 43 = .ok (.tableswitch 132 0 6 #[41, 132, 54, 65, 78, 91, 111], 41) := by decide +kernel
theorem dX7_plainly_84 : decode cX7_plainly 84 = .ok (.aload_n 0, 1) := by decide +kernel
theorem dX7_plainly_85 : decode cX7_plainly 85 = .ok (.iconst 0, 1) := by decide +kernel
theorem dX7_plainly_86 : decode cX7_plainly 86 = .ok (.putfield 320, 3) := by decide +kernel
theorem dX7_plainly_89 : decode cX7_plainly 89 = .ok (.aload_n 0, 1) := by decide +kernel
theorem dX7_plainly_90 : decode cX7_plainly 90 = .ok (.iconst 0, 1) := by decide +kernel
theorem dX7_plainly_91 : decode cX7_plainly 91 = .ok (.putfield 317, 3) := by decide +kernel
theorem dX7_plainly_94 : decode cX7_plainly 94 = .ok (.goto 81, 3) := by decide +kernel
theorem dX7_plainly_97 : decode cX7_plainly 97 = .ok (.aload_n 0, 1) := by decide +kernel
theorem dX7_plainly_98 : decode cX7_plainly 98 = .ok (.aload_n 0, 1) := by decide +kernel
theorem dX7_plainly_99 : decode cX7_plainly 99 = .ok (.getfield 320, 3) := by decide +kernel
theorem dX7_plainly_102 : decode cX7_plainly 102 = .ok (.putfield 317, 3) := by decide +kernel
theorem dX7_plainly_105 : decode cX7_plainly 105 = .ok (.goto 70, 3) := by decide +kernel
theorem dX7_plainly_108 : decode cX7_plainly 108 = .ok (.aload_n 0, 1) := by decide +kernel
theorem dX7_plainly_109 : decode cX7_plainly 109 = .ok (.aload_n 0, 1) := by decide +kernel
theorem dX7_plainly_110 : decode cX7_plainly 110 = .ok (.getfield 62, 3) := by decide +kernel
theorem dX7_plainly_113 : decode cX7_plainly 113 = .ok (.iload_n 2, 1) := by decide +kernel
theorem dX7_plainly_114 : decode cX7_plainly 114 = .ok (.iaload, 1) := by decide +kernel
theorem dX7_plainly_115 : decode cX7_plainly 115 = .ok (.putfield 320, 3) := by decide +kernel
theorem dX7_plainly_118 : decode cX7_plainly 118 = .ok (.goto 57, 3) := by decide +kernel
theorem dX7_plainly_121 : decode cX7_plainly 121 = .ok (.aload_n 0, 1) := by decide +kernel
theorem dX7_plainly_122 : decode cX7_plainly 122 = .ok (.getfield 62, 3) := by decide +kernel
theorem dX7_plainly_125 : decode cX7_plainly 125 = .ok (.iload_n 2, 1) := by decide +kernel
theorem dX7_plainly_126 : decode cX7_plainly 126 = .ok (.aload_n 0, 1) := by decide +kernel
theorem dX7_plainly_127 : decode cX7_plainly 127 = .ok (.getfield 320, 3) := by decide +kernel
theorem dX7_plainly_130 : decode cX7_plainly 130 = .ok (.iastore, 1) := by decide +kernel
theorem dX7_plainly_131 : decode cX7_plainly 131 = .ok (.goto 44, 3) := by decide +kernel
theorem dX7_plainly_134 : decode cX7_plainly 134 = .ok (.aload_n 0, 1) := by decide +kernel
theorem dX7_plainly_135 : decode cX7_plainly 135 = .ok (.aload_n 0, 1) := by decide +kernel
theorem dX7_plainly_136 : decode cX7_plainly 136 = .ok (.getfield 320, 3) := by decide +kernel
theorem dX7_plainly_139 : decode cX7_plainly 139 = .ok (.aload_n 0, 1) := by decide +kernel
theorem dX7_plainly_140 : decode cX7_plainly 140 = .ok (.getfield 41, 3) := by decide +kernel
theorem dX7_plainly_143 : decode cX7_plainly 143 = .ok (.iload_n 1, 1) := by decide +kernel
theorem dX7_plainly_144 : decode cX7_plainly 144 = .ok (.iaload, 1) := by decide +kernel
theorem dX7_plainly_145 : decode cX7_plainly 145 = .ok (.invokestatic 299, 3) := by decide +kernel
theorem dX7_plainly_148 : decode cX7_plainly 148 = .ok (.putfield 320, 3) := by decide +kernel
theorem dX7_plainly_151 : decode cX7_plainly 151 = .ok (.goto 24, 3) := by decide +kernel
theorem dX7_plainly_154 : decode cX7_plainly 154 = .ok (.aload_n 0, 1) := by decide +kernel
theorem dX7_plainly_155 : decode cX7_plainly 155 = .ok (.aload_n 0, 1) := by decide +kernel
theorem dX7_plainly_156 : decode cX7_plainly 156 = .ok (.getfield 320, 3) := by decide +kernel
theorem dX7_plainly_159 : decode cX7_plainly 159 = .ok (.aload_n 0, 1) := by decide +kernel
theorem dX7_plainly_160 : decode cX7_plainly 160 = .ok (.getfield 41, 3) := by decide +kernel
theorem dX7_plainly_163 : decode cX7_plainly 163 = .ok (.iload_n 1, 1) := by decide +kernel
theorem dX7_plainly_164 : decode cX7_plainly 164 = .ok (.iaload, 1) := by decide +kernel
theorem dX7_plainly_165 : decode cX7_plainly 165 = .ok (.ineg, 1) := by decide +kernel
theorem dX7_plainly_166 : decode cX7_plainly 166 = .ok (.invokestatic 299, 3) := by decide +kernel
theorem dX7_plainly_169 : decode cX7_plainly 169 = .ok (.putfield 320, 3) := by decide +kernel
theorem dX7_plainly_172 : decode cX7_plainly 172 = .ok (.goto 3, 3) := by decide +kernel
theorem dX7_plainly_175 : decode cX7_plainly 175 = .ok (.return_, 1) := by decide +kernel
theorem dX7_serially_0 : decode cX7_serially 0 = .ok (.aload_n 0, 1) := by decide +kernel
theorem dX7_serially_1 : decode cX7_serially 1 = .ok (.invokevirtual 323, 3) := by decide +kernel
theorem dX7_serially_4 : decode cX7_serially 4 = .ok (.iconst 0, 1) := by decide +kernel
theorem dX7_serially_5 : decode cX7_serially 5 = .ok (.istore_n 1, 1) := by decide +kernel
theorem dX7_serially_6 : decode cX7_serially 6 = .ok (.iload_n 1, 1) := by decide +kernel
theorem dX7_serially_7 : decode cX7_serially 7 = .ok (.aload_n 0, 1) := by decide +kernel
theorem dX7_serially_8 : decode cX7_serially 8 = .ok (.getfield 53, 3) := by decide +kernel
theorem dX7_serially_11 : decode cX7_serially 11 = .ok (.iconst 4, 1) := by decide +kernel
theorem dX7_serially_12 : decode cX7_serially 12 = .ok (.iaload, 1) := by decide +kernel
theorem dX7_serially_13 : decode cX7_serially 13 = .ok (.if_icmp .ge 59, 3) := by decide +kernel
theorem dX7_serially_16 : decode cX7_serially 16 = .ok (.bipush 24, 2) := by decide +kernel
theorem dX7_serially_18 : decode cX7_serially 18 = .ok (.aload_n 0, 1) := by decide +kernel
theorem dX7_serially_19 : decode cX7_serially 19 = .ok (.getfield 53, 3) := by decide +kernel
theorem dX7_serially_22 : decode cX7_serially 22 = .ok (.bipush 62, 2) := by decide +kernel
theorem dX7_serially_24 : decode cX7_serially 24 = .ok (.iconst 4, 1) := by decide +kernel
theorem dX7_serially_25 : decode cX7_serially 25 = .ok (.iload_n 1, 1) := by decide +kernel
theorem dX7_serially_26 : decode cX7_serially 26 = .ok (.imul, 1) := by decide +kernel
theorem dX7_serially_27 : decode cX7_serially 27 = .ok (.iadd, 1) := by decide +kernel
theorem dX7_serially_28 : decode cX7_serially 28 = .ok (.iaload, 1) := by decide +kernel
theorem dX7_serially_29 : decode cX7_serially 29 = .ok (.imul, 1) := by decide +kernel
theorem dX7_serially_30 : decode cX7_serially 30 = .ok (.aload_n 0, 1) := by decide +kernel
theorem dX7_serially_31 : decode cX7_serially 31 = .ok (.getfield 53, 3) := by decide +kernel
theorem dX7_serially_34 : decode cX7_serially 34 = .ok (.bipush 62, 2) := by decide +kernel
theorem dX7_serially_36 : decode cX7_serially 36 = .ok (.iconst 4, 1) := by decide +kernel
theorem dX7_serially_37 : decode cX7_serially 37 = .ok (.iload_n 1, 1) := by decide +kernel
theorem dX7_serially_38 : decode cX7_serially 38 = .ok (.imul, 1) := by decide +kernel
theorem dX7_serially_39 : decode cX7_serially 39 = .ok (.iadd, 1) := by decide +kernel
theorem dX7_serially_40 : decode cX7_serially 40 = .ok (.iconst 1, 1) := by decide +kernel
theorem dX7_serially_41 : decode cX7_serially 41 = .ok (.iadd, 1) := by decide +kernel
theorem dX7_serially_42 : decode cX7_serially 42 = .ok (.iaload, 1) := by decide +kernel
theorem dX7_serially_43 : decode cX7_serially 43 = .ok (.iadd, 1) := by decide +kernel
theorem dX7_serially_44 : decode cX7_serially 44 = .ok (.istore_n 2, 1) := by decide +kernel
theorem dX7_serially_45 : decode cX7_serially 45 = .ok (.aload_n 0, 1) := by decide +kernel
theorem dX7_serially_46 : decode cX7_serially 46 = .ok (.getfield 35, 3) := by decide +kernel
theorem dX7_serially_49 : decode cX7_serially 49 = .ok (.iload_n 2, 1) := by decide +kernel
theorem dX7_serially_50 : decode cX7_serially 50 = .ok (.iaload, 1) := by decide +kernel
theorem dX7_serially_51 : decode cX7_serially 51 = .ok (.iconst 1, 1) := by decide +kernel
theorem dX7_serially_52 : decode cX7_serially 52 = .ok (.if_icmp .eq 14, 3) := by decide +kernel
theorem dX7_serially_55 : decode cX7_serially 55 = .ok (.aload_n 0, 1) := by decide +kernel
theorem dX7_serially_56 : decode cX7_serially 56 = .ok (.iload_n 2, 1) := by decide +kernel
theorem dX7_serially_57 : decode cX7_serially 57 = .ok (.invokevirtual 326, 3) := by decide +kernel
theorem dX7_serially_60 : decode cX7_serially 60 = .ok (.iinc 2 1, 3) := by decide +kernel
theorem dX7_serially_63 : decode cX7_serially 63 = .ok (.goto (-18), 3) := by decide +kernel
theorem dX7_serially_66 : decode cX7_serially 66 = .ok (.iinc 1 1, 3) := by decide +kernel
theorem dX7_serially_69 : decode cX7_serially 69 = .ok (.goto (-63), 3) := by decide +kernel
theorem dX7_serially_72 : decode cX7_serially 72 = .ok (.return_, 1) := by decide +kernel
theorem dX7_serial_0 : decode cX7_serial 0 = .ok (.aload_n 0, 1) := by decide +kernel
theorem dX7_serial_1 : decode cX7_serial 1 = .ok (.invokevirtual 211, 3) := by decide +kernel
theorem dX7_serial_4 : decode cX7_serial 4 = .ok (.aload_n 0, 1) := by decide +kernel
theorem dX7_serial_5 : decode cX7_serial 5 = .ok (.iload_n 1, 1) := by decide +kernel
theorem dX7_serial_6 : decode cX7_serial 6 = .ok (.invokevirtual 311, 3) := by decide +kernel
theorem dX7_serial_9 : decode cX7_serial 9 = .ok (.ifCond .ne 9, 3) := by decide +kernel
theorem dX7_serial_12 : decode cX7_serial 12 = .ok (.aload_n 0, 1) := by decide +kernel
theorem dX7_serial_13 : decode cX7_serial 13 = .ok (.iconst 1, 1) := by decide +kernel
theorem dX7_serial_14 : decode cX7_serial 14 = .ok (.invokevirtual 214, 3) := by decide +kernel
theorem dX7_serial_17 : decode cX7_serial 17 = .ok (.ireturn, 1) := by decide +kernel
theorem dX7_serial_18 : decode cX7_serial 18 = .ok (.aload_n 0, 1) := by decide +kernel
theorem dX7_serial_19 : decode cX7_serial 19 = .ok (.invokevirtual 329, 3) := by decide +kernel
theorem dX7_serial_22 : decode cX7_serial 22 = .ok (.aload_n 0, 1) := by decide +kernel
theorem dX7_serial_23 : decode cX7_serial 23 = .ok (.getfield 62, 3) := by decide +kernel
theorem dX7_serial_26 : decode cX7_serial 26 = .ok (.iload_n 1, 1) := by decide +kernel
theorem dX7_serial_27 : decode cX7_serial 27 = .ok (.iaload, 1) := by decide +kernel
theorem dX7_serial_28 : decode cX7_serial 28 = .ok (.ireturn, 1) := by decide +kernel
theorem dX7_agrees_0 : decode cX7_agrees 0 = .ok (.aload_n 0, 1) := by decide +kernel
theorem dX7_agrees_1 : decode cX7_agrees 1 = .ok (.invokevirtual 211, 3) := by decide +kernel
theorem dX7_agrees_4 : decode cX7_agrees 4 = .ok (.aload_n 0, 1) := by decide +kernel
theorem dX7_agrees_5 : decode cX7_agrees 5 = .ok (.getfield 226, 3) := by decide +kernel
theorem dX7_agrees_8 : decode cX7_agrees 8 = .ok (.ifCond .ne 9, 3) := by decide +kernel
theorem dX7_agrees_11 : decode cX7_agrees 11 = .ok (.aload_n 0, 1) := by decide +kernel
theorem dX7_agrees_12 : decode cX7_agrees 12 = .ok (.iconst 1, 1) := by decide +kernel
theorem dX7_agrees_13 : decode cX7_agrees 13 = .ok (.invokevirtual 214, 3) := by decide +kernel
theorem dX7_agrees_16 : decode cX7_agrees 16 = .ok (.ireturn, 1) := by decide +kernel
theorem dX7_agrees_17 : decode cX7_agrees 17 = .ok (.aload_n 0, 1) := by decide +kernel
theorem dX7_agrees_18 : decode cX7_agrees 18 = .ok (.invokevirtual 329, 3) := by decide +kernel
theorem dX7_agrees_21 : decode cX7_agrees 21 = .ok (.iconst 0, 1) := by decide +kernel
theorem dX7_agrees_22 : decode cX7_agrees 22 = .ok (.istore_n 1, 1) := by decide +kernel
theorem dX7_agrees_23 : decode cX7_agrees 23 = .ok (.iload_n 1, 1) := by decide +kernel
theorem dX7_agrees_24 : decode cX7_agrees 24 = .ok (.aload_n 0, 1) := by decide +kernel
theorem dX7_agrees_25 : decode cX7_agrees 25 = .ok (.aload_n 0, 1) := by decide +kernel
theorem dX7_agrees_26 : decode cX7_agrees 26 = .ok (.getfield 17, 3) := by decide +kernel
theorem dX7_agrees_29 : decode cX7_agrees 29 = .ok (.iconst 2, 1) := by decide +kernel
theorem dX7_agrees_30 : decode cX7_agrees 30 = .ok (.iaload, 1) := by decide +kernel
theorem dX7_agrees_31 : decode cX7_agrees 31 = .ok (.invokevirtual 165, 3) := by decide +kernel
theorem dX7_agrees_34 : decode cX7_agrees 34 = .ok (.if_icmp .ge 25, 3) := by decide +kernel
theorem dX7_agrees_37 : decode cX7_agrees 37 = .ok (.aload_n 0, 1) := by decide +kernel
theorem dX7_agrees_38 : decode cX7_agrees 38 = .ok (.getfield 62, 3) := by decide +kernel
theorem dX7_agrees_41 : decode cX7_agrees 41 = .ok (.iload_n 1, 1) := by decide +kernel
theorem dX7_agrees_42 : decode cX7_agrees 42 = .ok (.iaload, 1) := by decide +kernel
theorem dX7_agrees_43 : decode cX7_agrees 43 = .ok (.aload_n 0, 1) := by decide +kernel
theorem dX7_agrees_44 : decode cX7_agrees 44 = .ok (.iload_n 1, 1) := by decide +kernel
theorem dX7_agrees_45 : decode cX7_agrees 45 = .ok (.invokevirtual 314, 3) := by decide +kernel
theorem dX7_agrees_48 : decode cX7_agrees 48 = .ok (.if_icmp .eq 5, 3) := by decide +kernel
theorem dX7_agrees_51 : decode cX7_agrees 51 = .ok (.iconst 0, 1) := by decide +kernel
theorem dX7_agrees_52 : decode cX7_agrees 52 = .ok (.ireturn, 1) := by decide +kernel
theorem dX7_agrees_53 : decode cX7_agrees 53 = .ok (.iinc 1 1, 3) := by decide +kernel
theorem dX7_agrees_56 : decode cX7_agrees 56 = .ok (.goto (-33), 3) := by decide +kernel
theorem dX7_agrees_59 : decode cX7_agrees 59 = .ok (.iconst 1, 1) := by decide +kernel
theorem dX7_agrees_60 : decode cX7_agrees 60 = .ok (.ireturn, 1) := by decide +kernel
theorem dX7_lock_0 : decode cX7_lock 0 = .ok (.aload_n 0, 1) := by decide +kernel
theorem dX7_lock_1 : decode cX7_lock 1 = .ok (.invokevirtual 211, 3) := by decide +kernel
theorem dX7_lock_4 : decode cX7_lock 4 = .ok (.aload_n 0, 1) := by decide +kernel
theorem dX7_lock_5 : decode cX7_lock 5 = .ok (.getfield 226, 3) := by decide +kernel
theorem dX7_lock_8 : decode cX7_lock 8 = .ok (.ifCond .eq 12, 3) := by decide +kernel
theorem dX7_lock_11 : decode cX7_lock 11 = .ok (.aload_n 0, 1) := by decide +kernel
theorem dX7_lock_12 : decode cX7_lock 12 = .ok (.getfield 53, 3) := by decide +kernel
theorem dX7_lock_15 : decode cX7_lock 15 = .ok (.iconst 5, 1) := by decide +kernel
theorem dX7_lock_16 : decode cX7_lock 16 = .ok (.iaload, 1) := by decide +kernel
theorem dX7_lock_17 : decode cX7_lock 17 = .ok (.goto 8, 3) := by decide +kernel
theorem dX7_lock_20 : decode cX7_lock 20 = .ok (.aload_n 0, 1) := by decide +kernel
theorem dX7_lock_21 : decode cX7_lock 21 = .ok (.iconst 1, 1) := by decide +kernel
theorem dX7_lock_22 : decode cX7_lock 22 = .ok (.invokevirtual 214, 3) := by decide +kernel
theorem dX7_lock_25 : decode cX7_lock 25 = .ok (.ireturn, 1) := by decide +kernel
theorem dX7_alone_0 : decode cX7_alone 0 = .ok (.aload_n 0, 1) := by decide +kernel
theorem dX7_alone_1 : decode cX7_alone 1 = .ok (.invokevirtual 211, 3) := by decide +kernel
theorem dX7_alone_4 : decode cX7_alone 4 = .ok (.aload_n 0, 1) := by decide +kernel
theorem dX7_alone_5 : decode cX7_alone 5 = .ok (.iload_n 1, 1) := by decide +kernel
theorem dX7_alone_6 : decode cX7_alone 6 = .ok (.invokevirtual 308, 3) := by decide +kernel
theorem dX7_alone_9 : decode cX7_alone 9 = .ok (.ifCond .eq 11, 3) := by decide +kernel
theorem dX7_alone_12 : decode cX7_alone 12 = .ok (.aload_n 0, 1) := by decide +kernel
theorem dX7_alone_13 : decode cX7_alone 13 = .ok (.iload_n 2, 1) := by decide +kernel
theorem dX7_alone_14 : decode cX7_alone 14 = .ok (.invokevirtual 311, 3) := by decide +kernel
theorem dX7_alone_17 : decode cX7_alone 17 = .ok (.ifCond .ne 9, 3) := by decide +kernel
theorem dX7_alone_20 : decode cX7_alone 20 = .ok (.aload_n 0, 1) := by decide +kernel
theorem dX7_alone_21 : decode cX7_alone 21 = .ok (.iconst 1, 1) := by decide +kernel
theorem dX7_alone_22 : decode cX7_alone 22 = .ok (.invokevirtual 214, 3) := by decide +kernel
theorem dX7_alone_25 : decode cX7_alone 25 = .ok (.ireturn, 1) := by decide +kernel
theorem dX7_alone_26 : decode cX7_alone 26 = .ok (.aload_n 0, 1) := by decide +kernel
theorem dX7_alone_27 : decode cX7_alone 27 = .ok (.invokevirtual 323, 3) := by decide +kernel
theorem dX7_alone_30 : decode cX7_alone 30 = .ok (.iconst 0, 1) := by decide +kernel
theorem dX7_alone_31 : decode cX7_alone 31 = .ok (.istore_n 3, 1) := by decide +kernel
theorem dX7_alone_32 : decode cX7_alone 32 = .ok (.iload_n 3, 1) := by decide +kernel
theorem dX7_alone_33 : decode cX7_alone 33 = .ok (.aload_n 0, 1) := by decide +kernel
theorem dX7_alone_34 : decode cX7_alone 34 = .ok (.getfield 17, 3) := by decide +kernel
theorem dX7_alone_37 : decode cX7_alone 37 = .ok (.iconst 5, 1) := by decide +kernel
theorem dX7_alone_38 : decode cX7_alone 38 = .ok (.iaload, 1) := by decide +kernel
theorem dX7_alone_39 : decode cX7_alone 39 = .ok (.if_icmp .ge 64, 3) := by decide +kernel
theorem dX7_alone_42 : decode cX7_alone 42 = .ok (.iload_n 1, 1) := by decide +kernel
theorem dX7_alone_43 : decode cX7_alone 43 = .ok (.iload_n 3, 1) := by decide +kernel
theorem dX7_alone_44 : decode cX7_alone 44 = .ok (.iadd, 1) := by decide +kernel
theorem dX7_alone_45 : decode cX7_alone 45 = .ok (.aload_n 0, 1) := by decide +kernel
theorem dX7_alone_46 : decode cX7_alone 46 = .ok (.getfield 17, 3) := by decide +kernel
theorem dX7_alone_49 : decode cX7_alone 49 = .ok (.iconst 5, 1) := by decide +kernel
theorem dX7_alone_50 : decode cX7_alone 50 = .ok (.iaload, 1) := by decide +kernel
theorem dX7_alone_51 : decode cX7_alone 51 = .ok (.irem, 1) := by decide +kernel
theorem dX7_alone_52 : decode cX7_alone 52 = .ok (.istore 4, 2) := by decide +kernel
theorem dX7_alone_54 : decode cX7_alone 54 = .ok (.aload_n 0, 1) := by decide +kernel
theorem dX7_alone_55 : decode cX7_alone 55 = .ok (.iconst 0, 1) := by decide +kernel
theorem dX7_alone_56 : decode cX7_alone 56 = .ok (.putfield 320, 3) := by decide +kernel
theorem dX7_alone_59 : decode cX7_alone 59 = .ok (.aload_n 0, 1) := by decide +kernel
theorem dX7_alone_60 : decode cX7_alone 60 = .ok (.iconst 0, 1) := by decide +kernel
theorem dX7_alone_61 : decode cX7_alone 61 = .ok (.putfield 317, 3) := by decide +kernel
theorem dX7_alone_64 : decode cX7_alone 64 = .ok (.iconst 0, 1) := by decide +kernel
theorem dX7_alone_65 : decode cX7_alone 65 = .ok (.istore 5, 2) := by decide +kernel
theorem dX7_alone_67 : decode cX7_alone 67 = .ok (.iload 5, 2) := by decide +kernel
theorem dX7_alone_69 : decode cX7_alone 69 = .ok (.aload_n 0, 1) := by decide +kernel
theorem dX7_alone_70 : decode cX7_alone 70 = .ok (.getfield 29, 3) := by decide +kernel
theorem dX7_alone_73 : decode cX7_alone 73 = .ok (.iload 4, 2) := by decide +kernel
theorem dX7_alone_75 : decode cX7_alone 75 = .ok (.iaload, 1) := by decide +kernel
theorem dX7_alone_76 : decode cX7_alone 76 = .ok (.if_icmp .ge 21, 3) := by decide +kernel
theorem dX7_alone_79 : decode cX7_alone 79 = .ok (.aload_n 0, 1) := by decide +kernel
theorem dX7_alone_80 : decode cX7_alone 80 = .ok (.bipush 24, 2) := by decide +kernel
theorem dX7_alone_82 : decode cX7_alone 82 = .ok (.iload 4, 2) := by decide +kernel
theorem dX7_alone_84 : decode cX7_alone 84 = .ok (.imul, 1) := by decide +kernel
theorem dX7_alone_85 : decode cX7_alone 85 = .ok (.iload 5, 2) := by decide +kernel
theorem dX7_alone_87 : decode cX7_alone 87 = .ok (.iadd, 1) := by decide +kernel
theorem dX7_alone_88 : decode cX7_alone 88 = .ok (.invokevirtual 326, 3) := by decide +kernel
theorem dX7_alone_91 : decode cX7_alone 91 = .ok (.iinc 5 1, 3) := by decide +kernel
theorem dX7_alone_94 : decode cX7_alone 94 = .ok (.goto (-27), 3) := by decide +kernel
theorem dX7_alone_97 : decode cX7_alone 97 = .ok (.iinc 3 1, 3) := by decide +kernel
theorem dX7_alone_100 : decode cX7_alone 100 = .ok (.goto (-68), 3) := by decide +kernel
theorem dX7_alone_103 : decode cX7_alone 103 = .ok (.aload_n 0, 1) := by decide +kernel
theorem dX7_alone_104 : decode cX7_alone 104 = .ok (.getfield 62, 3) := by decide +kernel
theorem dX7_alone_107 : decode cX7_alone 107 = .ok (.iload_n 2, 1) := by decide +kernel
theorem dX7_alone_108 : decode cX7_alone 108 = .ok (.iaload, 1) := by decide +kernel
theorem dX7_alone_109 : decode cX7_alone 109 = .ok (.ireturn, 1) := by decide +kernel
theorem dX7_place_0 : decode cX7_place 0 = .ok (.aload_n 0, 1) := by decide +kernel
theorem dX7_place_1 : decode cX7_place 1 = .ok (.invokevirtual 211, 3) := by decide +kernel
theorem dX7_place_4 : decode cX7_place 4 = .ok (.aload_n 0, 1) := by decide +kernel
theorem dX7_place_5 : decode cX7_place 5 = .ok (.iload_n 1, 1) := by decide +kernel
theorem dX7_place_6 : decode cX7_place 6 = .ok (.invokevirtual 308, 3) := by decide +kernel
theorem dX7_place_9 : decode cX7_place 9 = .ok (.ifCond .eq 45, 3) := by decide +kernel
theorem dX7_place_12 : decode cX7_place 12 = .ok (.iload_n 2, 1) := by decide +kernel
theorem dX7_place_13 : decode cX7_place 13 = .ok (.iconst 0, 1) := by decide +kernel
theorem dX7_place_14 : decode cX7_place 14 = .ok (.aload_n 0, 1) := by decide +kernel
theorem dX7_place_15 : decode cX7_place 15 = .ok (.getfield 17, 3) := by decide +kernel
theorem dX7_place_18 : decode cX7_place 18 = .ok (.iconst 0, 1) := by decide +kernel
theorem dX7_place_19 : decode cX7_place 19 = .ok (.iaload, 1) := by decide +kernel
theorem dX7_place_20 : decode cX7_place 20 = .ok (.iconst 1, 1) := by decide +kernel
theorem dX7_place_21 : decode cX7_place 21 = .ok (.isub, 1) := by decide +kernel
theorem dX7_place_22 : decode cX7_place 22 = .ok (.invokestatic 94, 3) := by decide +kernel
theorem dX7_place_25 : decode cX7_place 25 = .ok (.ifCond .eq 29, 3) := by decide +kernel
theorem dX7_place_28 : decode cX7_place 28 = .ok (.iload_n 3, 1) := by decide +kernel
theorem dX7_place_29 : decode cX7_place 29 = .ok (.iconst 0, 1) := by decide +kernel
theorem dX7_place_30 : decode cX7_place 30 = .ok (.aload_n 0, 1) := by decide +kernel
theorem dX7_place_31 : decode cX7_place 31 = .ok (.getfield 17, 3) := by decide +kernel
theorem dX7_place_34 : decode cX7_place 34 = .ok (.iconst 1, 1) := by decide +kernel
theorem dX7_place_35 : decode cX7_place 35 = .ok (.iaload, 1) := by decide +kernel
theorem dX7_place_36 : decode cX7_place 36 = .ok (.iconst 1, 1) := by decide +kernel
theorem dX7_place_37 : decode cX7_place 37 = .ok (.isub, 1) := by decide +kernel
theorem dX7_place_38 : decode cX7_place 38 = .ok (.invokestatic 94, 3) := by decide +kernel
theorem dX7_place_41 : decode cX7_place 41 = .ok (.ifCond .eq 13, 3) := by decide +kernel
theorem dX7_place_44 : decode cX7_place 44 = .ok (.iload 4, 2) := by decide +kernel
theorem dX7_place_46 : decode cX7_place 46 = .ok (.iconst 0, 1) := by decide +kernel
theorem dX7_place_47 : decode cX7_place 47 = .ok (.iconst 4, 1) := by decide +kernel
theorem dX7_place_48 : decode cX7_place 48 = .ok (.invokestatic 94, 3) := by decide +kernel
theorem dX7_place_51 : decode cX7_place 51 = .ok (.ifCond .ne 9, 3) := by decide +kernel
theorem dX7_place_54 : decode cX7_place 54 = .ok (.aload_n 0, 1) := by decide +kernel
theorem dX7_place_55 : decode cX7_place 55 = .ok (.iconst 1, 1) := by decide +kernel
theorem dX7_place_56 : decode cX7_place 56 = .ok (.invokevirtual 214, 3) := by decide +kernel
theorem dX7_place_59 : decode cX7_place 59 = .ok (.ireturn, 1) := by decide +kernel
theorem dX7_place_60 : decode cX7_place 60 = .ok (.iload_n 1, 1) := by decide +kernel
theorem dX7_place_61 : decode cX7_place 61 = .ok (.iload_n 2, 1) := by decide +kernel
theorem dX7_place_62 : decode cX7_place 62 = .ok (.iload_n 3, 1) := by decide +kernel
theorem dX7_place_63 : decode cX7_place 63 = .ok (.invokestatic 247, 3) := by decide +kernel
theorem dX7_place_66 : decode cX7_place 66 = .ok (.istore 5, 2) := by decide +kernel
theorem dX7_place_68 : decode cX7_place 68 = .ok (.iload 4, 2) := by decide +kernel
theorem dX7_place_70 : decode cX7_place 70 = .ok (.iconst 4, 1) := by decide +kernel
theorem dX7_place_71 : decode cX7_place 71 = .ok (.if_icmp .ne 22, 3) := by decide +kernel
theorem dX7_place_74 : decode cX7_place 74 = .ok (.aload_n 0, 1) := by decide +kernel
theorem dX7_place_75 : decode cX7_place 75 = .ok (.getfield 53, 3) := by decide +kernel
theorem dX7_place_78 : decode cX7_place 78 = .ok (.iload 5, 2) := by decide +kernel
theorem dX7_place_80 : decode cX7_place 80 = .ok (.iconst 0, 1) := by decide +kernel
theorem dX7_place_81 : decode cX7_place 81 = .ok (.iadd, 1) := by decide +kernel
theorem dX7_place_82 : decode cX7_place 82 = .ok (.iaload, 1) := by decide +kernel
theorem dX7_place_83 : decode cX7_place 83 = .ok (.bipush (-2), 2) := by decide +kernel
theorem dX7_place_85 : decode cX7_place 85 = .ok (.if_icmp .ne 8, 3) := by decide +kernel
theorem dX7_place_88 : decode cX7_place 88 = .ok (.bipush (-2), 2) := by decide +kernel
theorem dX7_place_90 : decode cX7_place 90 = .ok (.goto 13, 3) := by decide +kernel
theorem dX7_place_93 : decode cX7_place 93 = .ok (.aload_n 0, 1) := by decide +kernel
theorem dX7_place_94 : decode cX7_place 94 = .ok (.getfield 53, 3) := by decide +kernel
theorem dX7_place_97 : decode cX7_place 97 = .ok (.iload 5, 2) := by decide +kernel
theorem dX7_place_99 : decode cX7_place 99 = .ok (.iload 4, 2) := by decide +kernel
theorem dX7_place_101 : decode cX7_place 101 = .ok (.iadd, 1) := by decide +kernel
theorem dX7_place_102 : decode cX7_place 102 = .ok (.iaload, 1) := by decide +kernel
theorem dX7_place_103 : decode cX7_place 103 = .ok (.ireturn, 1) := by decide +kernel
theorem dX7_cached_0 : decode cX7_cached 0 = .ok (.aload_n 0, 1) := by decide +kernel
theorem dX7_cached_1 : decode cX7_cached 1 = .ok (.invokevirtual 211, 3) := by decide +kernel
theorem dX7_cached_4 : decode cX7_cached 4 = .ok (.aload_n 0, 1) := by decide +kernel
theorem dX7_cached_5 : decode cX7_cached 5 = .ok (.iload_n 1, 1) := by decide +kernel
theorem dX7_cached_6 : decode cX7_cached 6 = .ok (.invokevirtual 308, 3) := by decide +kernel
theorem dX7_cached_9 : decode cX7_cached 9 = .ok (.ifCond .eq 11, 3) := by decide +kernel
theorem dX7_cached_12 : decode cX7_cached 12 = .ok (.aload_n 0, 1) := by decide +kernel
theorem dX7_cached_13 : decode cX7_cached 13 = .ok (.iload_n 2, 1) := by decide +kernel
theorem dX7_cached_14 : decode cX7_cached 14 = .ok (.invokevirtual 311, 3) := by decide +kernel
theorem dX7_cached_17 : decode cX7_cached 17 = .ok (.ifCond .ne 9, 3) := by decide +kernel
theorem dX7_cached_20 : decode cX7_cached 20 = .ok (.aload_n 0, 1) := by decide +kernel
theorem dX7_cached_21 : decode cX7_cached 21 = .ok (.iconst 1, 1) := by decide +kernel
theorem dX7_cached_22 : decode cX7_cached 22 = .ok (.invokevirtual 214, 3) := by decide +kernel
theorem dX7_cached_25 : decode cX7_cached 25 = .ok (.ireturn, 1) := by decide +kernel
theorem dX7_cached_26 : decode cX7_cached 26 = .ok (.aload_n 0, 1) := by decide +kernel
theorem dX7_cached_27 : decode cX7_cached 27 = .ok (.iload_n 1, 1) := by decide +kernel
theorem dX7_cached_28 : decode cX7_cached 28 = .ok (.iload_n 2, 1) := by decide +kernel
theorem dX7_cached_29 : decode cX7_cached 29 = .ok (.aload_n 0, 1) := by decide +kernel
theorem dX7_cached_30 : decode cX7_cached 30 = .ok (.getfield 17, 3) := by decide +kernel
theorem dX7_cached_33 : decode cX7_cached 33 = .ok (.iconst 2, 1) := by decide +kernel
theorem dX7_cached_34 : decode cX7_cached 34 = .ok (.iaload, 1) := by decide +kernel
theorem dX7_cached_35 : decode cX7_cached 35 = .ok (.idiv, 1) := by decide +kernel
theorem dX7_cached_36 : decode cX7_cached 36 = .ok (.invokevirtual 257, 3) := by decide +kernel
theorem dX7_cached_39 : decode cX7_cached 39 = .ok (.istore_n 3, 1) := by decide +kernel
theorem dX7_cached_40 : decode cX7_cached 40 = .ok (.iload_n 3, 1) := by decide +kernel
theorem dX7_cached_41 : decode cX7_cached 41 = .ok (.iconst (-1), 1) := by decide +kernel
theorem dX7_cached_42 : decode cX7_cached 42 = .ok (.if_icmp .ne 8, 3) := by decide +kernel
theorem dX7_cached_45 : decode cX7_cached 45 = .ok (.bipush (-2), 2) := by decide +kernel
theorem dX7_cached_47 : decode cX7_cached 47 = .ok (.goto 20, 3) := by decide +kernel
theorem dX7_cached_50 : decode cX7_cached 50 = .ok (.aload_n 0, 1) := by decide +kernel
theorem dX7_cached_51 : decode cX7_cached 51 = .ok (.getfield 53, 3) := by decide +kernel
theorem dX7_cached_54 : decode cX7_cached 54 = .ok (.iload_n 3, 1) := by decide +kernel
theorem dX7_cached_55 : decode cX7_cached 55 = .ok (.iconst 5, 1) := by decide +kernel
theorem dX7_cached_56 : decode cX7_cached 56 = .ok (.iadd, 1) := by decide +kernel
theorem dX7_cached_57 : decode cX7_cached 57 = .ok (.iload_n 2, 1) := by decide +kernel
theorem dX7_cached_58 : decode cX7_cached 58 = .ok (.aload_n 0, 1) := by decide +kernel
theorem dX7_cached_59 : decode cX7_cached 59 = .ok (.getfield 17, 3) := by decide +kernel
theorem dX7_cached_62 : decode cX7_cached 62 = .ok (.iconst 2, 1) := by decide +kernel
theorem dX7_cached_63 : decode cX7_cached 63 = .ok (.iaload, 1) := by decide +kernel
theorem dX7_cached_64 : decode cX7_cached 64 = .ok (.irem, 1) := by decide +kernel
theorem dX7_cached_65 : decode cX7_cached 65 = .ok (.iadd, 1) := by decide +kernel
theorem dX7_cached_66 : decode cX7_cached 66 = .ok (.iaload, 1) := by decide +kernel
theorem dX7_cached_67 : decode cX7_cached 67 = .ok (.ireturn, 1) := by decide +kernel
theorem dX7_sharers_0 : decode cX7_sharers 0 = .ok (.aload_n 0, 1) := by decide +kernel
theorem dX7_sharers_1 : decode cX7_sharers 1 = .ok (.invokevirtual 211, 3) := by decide +kernel
theorem dX7_sharers_4 : decode cX7_sharers 4 = .ok (.aload_n 0, 1) := by decide +kernel
theorem dX7_sharers_5 : decode cX7_sharers 5 = .ok (.getfield 226, 3) := by decide +kernel
theorem dX7_sharers_8 : decode cX7_sharers 8 = .ok (.ifCond .eq 13, 3) := by decide +kernel
theorem dX7_sharers_11 : decode cX7_sharers 11 = .ok (.iload_n 1, 1) := by decide +kernel
theorem dX7_sharers_12 : decode cX7_sharers 12 = .ok (.iconst 0, 1) := by decide +kernel
theorem dX7_sharers_13 : decode cX7_sharers 13 = .ok (.bipush 16, 2) := by decide +kernel
theorem dX7_sharers_15 : decode cX7_sharers 15 = .ok (.invokestatic 94, 3) := by decide +kernel
theorem dX7_sharers_18 : decode cX7_sharers 18 = .ok (.ifCond .ne 9, 3) := by decide +kernel
theorem dX7_sharers_21 : decode cX7_sharers 21 = .ok (.aload_n 0, 1) := by decide +kernel
theorem dX7_sharers_22 : decode cX7_sharers 22 = .ok (.iconst 1, 1) := by decide +kernel
theorem dX7_sharers_23 : decode cX7_sharers 23 = .ok (.invokevirtual 214, 3) := by decide +kernel
theorem dX7_sharers_26 : decode cX7_sharers 26 = .ok (.ireturn, 1) := by decide +kernel
theorem dX7_sharers_27 : decode cX7_sharers 27 = .ok (.iconst 0, 1) := by decide +kernel
theorem dX7_sharers_28 : decode cX7_sharers 28 = .ok (.istore_n 2, 1) := by decide +kernel
theorem dX7_sharers_29 : decode cX7_sharers 29 = .ok (.iconst 0, 1) := by decide +kernel
theorem dX7_sharers_30 : decode cX7_sharers 30 = .ok (.istore_n 3, 1) := by decide +kernel
theorem dX7_sharers_31 : decode cX7_sharers 31 = .ok (.iload_n 3, 1) := by decide +kernel
theorem dX7_sharers_32 : decode cX7_sharers 32 = .ok (.aload_n 0, 1) := by decide +kernel
theorem dX7_sharers_33 : decode cX7_sharers 33 = .ok (.getfield 17, 3) := by decide +kernel
theorem dX7_sharers_36 : decode cX7_sharers 36 = .ok (.iconst 5, 1) := by decide +kernel
theorem dX7_sharers_37 : decode cX7_sharers 37 = .ok (.iaload, 1) := by decide +kernel
theorem dX7_sharers_38 : decode cX7_sharers 38 = .ok (.if_icmp .ge 29, 3) := by decide +kernel
theorem dX7_sharers_41 : decode cX7_sharers 41 = .ok (.iload_n 2, 1) := by decide +kernel
theorem dX7_sharers_42 : decode cX7_sharers 42 = .ok (.aload_n 0, 1) := by decide +kernel
theorem dX7_sharers_43 : decode cX7_sharers 43 = .ok (.iload_n 3, 1) := by decide +kernel
theorem dX7_sharers_44 : decode cX7_sharers 44 = .ok (.iload_n 1, 1) := by decide +kernel
theorem dX7_sharers_45 : decode cX7_sharers 45 = .ok (.invokevirtual 257, 3) := by decide +kernel
theorem dX7_sharers_48 : decode cX7_sharers 48 = .ok (.iconst (-1), 1) := by decide +kernel
theorem dX7_sharers_49 : decode cX7_sharers 49 = .ok (.if_icmp .ne 7, 3) := by decide +kernel
theorem dX7_sharers_52 : decode cX7_sharers 52 = .ok (.iconst 0, 1) := by decide +kernel
theorem dX7_sharers_53 : decode cX7_sharers 53 = .ok (.goto 6, 3) := by decide +kernel
theorem dX7_sharers_56 : decode cX7_sharers 56 = .ok (.iconst 1, 1) := by decide +kernel
theorem dX7_sharers_57 : decode cX7_sharers 57 = .ok (.iload_n 3, 1) := by decide +kernel
theorem dX7_sharers_58 : decode cX7_sharers 58 = .ok (.ishl, 1) := by decide +kernel
theorem dX7_sharers_59 : decode cX7_sharers 59 = .ok (.ior, 1) := by decide +kernel
theorem dX7_sharers_60 : decode cX7_sharers 60 = .ok (.istore_n 2, 1) := by decide +kernel
theorem dX7_sharers_61 : decode cX7_sharers 61 = .ok (.iinc 3 1, 3) := by decide +kernel
theorem dX7_sharers_64 : decode cX7_sharers 64 = .ok (.goto (-33), 3) := by decide +kernel
theorem dX7_sharers_67 : decode cX7_sharers 67 = .ok (.iload_n 2, 1) := by decide +kernel
theorem dX7_sharers_68 : decode cX7_sharers 68 = .ok (.ireturn, 1) := by decide +kernel
theorem dX7_marked_0 : decode cX7_marked 0 = .ok (.iconst 0, 1) := by decide +kernel
theorem dX7_marked_1 : decode cX7_marked 1 = .ok (.istore_n 3, 1) := by decide +kernel
theorem dX7_marked_2 : decode cX7_marked 2 = .ok (.iconst 0, 1) := by decide +kernel
theorem dX7_marked_3 : decode cX7_marked 3 = .ok (.istore 4, 2) := by decide +kernel
theorem dX7_marked_5 : decode cX7_marked 5 = .ok (.iload 4, 2) := by decide +kernel
theorem dX7_marked_7 : decode cX7_marked 7 = .ok (.bipush 16, 2) := by decide +kernel
theorem dX7_marked_9 : decode cX7_marked 9 = .ok (.if_icmp .gt 48, 3) := by decide +kernel
theorem dX7_marked_12 : decode cX7_marked 12 = .ok (.aload_n 0, 1) := by decide +kernel
theorem dX7_marked_13 : decode cX7_marked 13 = .ok (.iload_n 1, 1) := by decide +kernel
theorem dX7_marked_14 : decode cX7_marked 14 = .ok (.iload 4, 2) := by decide +kernel
theorem dX7_marked_16 : decode cX7_marked 16 = .ok (.invokevirtual 257, 3) := by decide +kernel
theorem dX7_marked_19 : decode cX7_marked 19 = .ok (.istore 5, 2) := by decide +kernel
theorem dX7_marked_21 : decode cX7_marked 21 = .ok (.iload_n 3, 1) := by decide +kernel
theorem dX7_marked_22 : decode cX7_marked 22 = .ok (.iload 5, 2) := by decide +kernel
theorem dX7_marked_24 : decode cX7_marked 24 = .ok (.iconst (-1), 1) := by decide +kernel
theorem dX7_marked_25 : decode cX7_marked 25 = .ok (.if_icmp .eq 23, 3) := by decide +kernel
theorem dX7_marked_28 : decode cX7_marked 28 = .ok (.aload_n 0, 1) := by decide +kernel
theorem dX7_marked_29 : decode cX7_marked 29 = .ok (.getfield 53, 3) := by decide +kernel
theorem dX7_marked_32 : decode cX7_marked 32 = .ok (.iload 5, 2) := by decide +kernel
theorem dX7_marked_34 : decode cX7_marked 34 = .ok (.iload_n 2, 1) := by decide +kernel
theorem dX7_marked_35 : decode cX7_marked 35 = .ok (.iadd, 1) := by decide +kernel
theorem dX7_marked_36 : decode cX7_marked 36 = .ok (.iaload, 1) := by decide +kernel
theorem dX7_marked_37 : decode cX7_marked 37 = .ok (.iconst 1, 1) := by decide +kernel
theorem dX7_marked_38 : decode cX7_marked 38 = .ok (.if_icmp .ne 10, 3) := by decide +kernel
theorem dX7_marked_41 : decode cX7_marked 41 = .ok (.iconst 1, 1) := by decide +kernel
theorem dX7_marked_42 : decode cX7_marked 42 = .ok (.iload 4, 2) := by decide +kernel
theorem dX7_marked_44 : decode cX7_marked 44 = .ok (.ishl, 1) := by decide +kernel
theorem dX7_marked_45 : decode cX7_marked 45 = .ok (.goto 4, 3) := by decide +kernel
theorem dX7_marked_48 : decode cX7_marked 48 = .ok (.iconst 0, 1) := by decide +kernel
theorem dX7_marked_49 : decode cX7_marked 49 = .ok (.ior, 1) := by decide +kernel
theorem dX7_marked_50 : decode cX7_marked 50 = .ok (.istore_n 3, 1) := by decide +kernel
theorem dX7_marked_51 : decode cX7_marked 51 = .ok (.iinc 4 1, 3) := by decide +kernel
theorem dX7_marked_54 : decode cX7_marked 54 = .ok (.goto (-49), 3) := by decide +kernel
theorem dX7_marked_57 : decode cX7_marked 57 = .ok (.iload_n 3, 1) := by decide +kernel
theorem dX7_marked_58 : decode cX7_marked 58 = .ok (.ireturn, 1) := by decide +kernel
theorem dX7_reads_0 : decode cX7_reads 0 = .ok (.aload_n 0, 1) := by decide +kernel
theorem dX7_reads_1 : decode cX7_reads 1 = .ok (.invokevirtual 211, 3) := by decide +kernel
theorem dX7_reads_4 : decode cX7_reads 4 = .ok (.aload_n 0, 1) := by decide +kernel
theorem dX7_reads_5 : decode cX7_reads 5 = .ok (.iload_n 1, 1) := by decide +kernel
theorem dX7_reads_6 : decode cX7_reads 6 = .ok (.invokevirtual 308, 3) := by decide +kernel
theorem dX7_reads_9 : decode cX7_reads 9 = .ok (.ifCond .eq 12, 3) := by decide +kernel
theorem dX7_reads_12 : decode cX7_reads 12 = .ok (.aload_n 0, 1) := by decide +kernel
theorem dX7_reads_13 : decode cX7_reads 13 = .ok (.iload_n 1, 1) := by decide +kernel
theorem dX7_reads_14 : decode cX7_reads 14 = .ok (.iconst 2, 1) := by decide +kernel
theorem dX7_reads_15 : decode cX7_reads 15 = .ok (.invokevirtual 332, 3) := by decide +kernel
theorem dX7_reads_18 : decode cX7_reads 18 = .ok (.goto 8, 3) := by decide +kernel
theorem dX7_reads_21 : decode cX7_reads 21 = .ok (.aload_n 0, 1) := by decide +kernel
theorem dX7_reads_22 : decode cX7_reads 22 = .ok (.iconst 1, 1) := by decide +kernel
theorem dX7_reads_23 : decode cX7_reads 23 = .ok (.invokevirtual 214, 3) := by decide +kernel
theorem dX7_reads_26 : decode cX7_reads 26 = .ok (.ireturn, 1) := by decide +kernel
theorem dX7_writes_0 : decode cX7_writes 0 = .ok (.aload_n 0, 1) := by decide +kernel
theorem dX7_writes_1 : decode cX7_writes 1 = .ok (.invokevirtual 211, 3) := by decide +kernel
theorem dX7_writes_4 : decode cX7_writes 4 = .ok (.aload_n 0, 1) := by decide +kernel
theorem dX7_writes_5 : decode cX7_writes 5 = .ok (.iload_n 1, 1) := by decide +kernel
theorem dX7_writes_6 : decode cX7_writes 6 = .ok (.invokevirtual 308, 3) := by decide +kernel
theorem dX7_writes_9 : decode cX7_writes 9 = .ok (.ifCond .eq 12, 3) := by decide +kernel
theorem dX7_writes_12 : decode cX7_writes 12 = .ok (.aload_n 0, 1) := by decide +kernel
theorem dX7_writes_13 : decode cX7_writes 13 = .ok (.iload_n 1, 1) := by decide +kernel
theorem dX7_writes_14 : decode cX7_writes 14 = .ok (.iconst 3, 1) := by decide +kernel
theorem dX7_writes_15 : decode cX7_writes 15 = .ok (.invokevirtual 332, 3) := by decide +kernel
theorem dX7_writes_18 : decode cX7_writes 18 = .ok (.goto 8, 3) := by decide +kernel
theorem dX7_writes_21 : decode cX7_writes 21 = .ok (.aload_n 0, 1) := by decide +kernel
theorem dX7_writes_22 : decode cX7_writes 22 = .ok (.iconst 1, 1) := by decide +kernel
theorem dX7_writes_23 : decode cX7_writes 23 = .ok (.invokevirtual 214, 3) := by decide +kernel
theorem dX7_writes_26 : decode cX7_writes 26 = .ok (.ireturn, 1) := by decide +kernel
theorem dX7_traffic_0 : decode cX7_traffic 0 = .ok (.aload_n 0, 1) := by decide +kernel
theorem dX7_traffic_1 : decode cX7_traffic 1 = .ok (.invokevirtual 211, 3) := by decide +kernel
theorem dX7_traffic_4 : decode cX7_traffic 4 = .ok (.aload_n 0, 1) := by decide +kernel
theorem dX7_traffic_5 : decode cX7_traffic 5 = .ok (.getfield 226, 3) := by decide +kernel
theorem dX7_traffic_8 : decode cX7_traffic 8 = .ok (.ifCond .eq 23, 3) := by decide +kernel
theorem dX7_traffic_11 : decode cX7_traffic 11 = .ok (.iload_n 1, 1) := by decide +kernel
theorem dX7_traffic_12 : decode cX7_traffic 12 = .ok (.iconst 0, 1) := by decide +kernel
theorem dX7_traffic_13 : decode cX7_traffic 13 = .ok (.iconst 2, 1) := by decide +kernel
theorem dX7_traffic_14 : decode cX7_traffic 14 = .ok (.invokestatic 94, 3) := by decide +kernel
theorem dX7_traffic_17 : decode cX7_traffic 17 = .ok (.ifCond .eq 14, 3) := by decide +kernel
theorem dX7_traffic_20 : decode cX7_traffic 20 = .ok (.aload_n 0, 1) := by decide +kernel
theorem dX7_traffic_21 : decode cX7_traffic 21 = .ok (.getfield 53, 3) := by decide +kernel
theorem dX7_traffic_24 : decode cX7_traffic 24 = .ok (.iconst 1, 1) := by decide +kernel
theorem dX7_traffic_25 : decode cX7_traffic 25 = .ok (.iload_n 1, 1) := by decide +kernel
theorem dX7_traffic_26 : decode cX7_traffic 26 = .ok (.iadd, 1) := by decide +kernel
theorem dX7_traffic_27 : decode cX7_traffic 27 = .ok (.iaload, 1) := by decide +kernel
theorem dX7_traffic_28 : decode cX7_traffic 28 = .ok (.goto 8, 3) := by decide +kernel
theorem dX7_traffic_31 : decode cX7_traffic 31 = .ok (.aload_n 0, 1) := by decide +kernel
theorem dX7_traffic_32 : decode cX7_traffic 32 = .ok (.iconst 1, 1) := by decide +kernel
theorem dX7_traffic_33 : decode cX7_traffic 33 = .ok (.invokevirtual 214, 3) := by decide +kernel
theorem dX7_traffic_36 : decode cX7_traffic 36 = .ok (.ireturn, 1) := by decide +kernel
theorem dX7_core_0 : decode cX7_core 0 = .ok (.aload_n 0, 1) := by decide +kernel
theorem dX7_core_1 : decode cX7_core 1 = .ok (.invokevirtual 211, 3) := by decide +kernel
theorem dX7_core_4 : decode cX7_core 4 = .ok (.aload_n 0, 1) := by decide +kernel
theorem dX7_core_5 : decode cX7_core 5 = .ok (.iload_n 1, 1) := by decide +kernel
theorem dX7_core_6 : decode cX7_core 6 = .ok (.invokevirtual 308, 3) := by decide +kernel
theorem dX7_core_9 : decode cX7_core 9 = .ok (.ifCond .ne 9, 3) := by decide +kernel
theorem dX7_core_12 : decode cX7_core 12 = .ok (.aload_n 0, 1) := by decide +kernel
theorem dX7_core_13 : decode cX7_core 13 = .ok (.iconst 1, 1) := by decide +kernel
theorem dX7_core_14 : decode cX7_core 14 = .ok (.invokevirtual 214, 3) := by decide +kernel
theorem dX7_core_17 : decode cX7_core 17 = .ok (.ireturn, 1) := by decide +kernel
theorem dX7_core_18 : decode cX7_core 18 = .ok (.iload_n 2, 1) := by decide +kernel
theorem dX7_core_19 : decode cX7_core 19 = .ok (.tableswitch 127 0 6 #[41, 65, 76, 87, 98, 109, 120], 41) := by decide +kernel
theorem dX7_core_60 : decode cX7_core 60 = .ok (.aload_n 0, 1) := by decide +kernel
theorem dX7_core_61 : decode cX7_core 61 = .ok (.iload_n 1, 1) := by decide +kernel
theorem dX7_core_62 : decode cX7_core 62 = .ok (.invokevirtual 301, 3) := by decide +kernel
theorem dX7_core_65 : decode cX7_core 65 = .ok (.ifCond .eq 16, 3) := by decide +kernel
theorem dX7_core_68 : decode cX7_core 68 = .ok (.aload_n 0, 1) := by decide +kernel
theorem dX7_core_69 : decode cX7_core 69 = .ok (.getfield 53, 3) := by decide +kernel
theorem dX7_core_72 : decode cX7_core 72 = .ok (.iload_n 1, 1) := by decide +kernel
theorem dX7_core_73 : decode cX7_core 73 = .ok (.iconst 0, 1) := by decide +kernel
theorem dX7_core_74 : decode cX7_core 74 = .ok (.invokestatic 244, 3) := by decide +kernel
theorem dX7_core_77 : decode cX7_core 77 = .ok (.iaload, 1) := by decide +kernel
theorem dX7_core_78 : decode cX7_core 78 = .ok (.goto 5, 3) := by decide +kernel
theorem dX7_core_81 : decode cX7_core 81 = .ok (.bipush (-2), 2) := by decide +kernel
theorem dX7_core_83 : decode cX7_core 83 = .ok (.ireturn, 1) := by decide +kernel
theorem dX7_core_84 : decode cX7_core 84 = .ok (.aload_n 0, 1) := by decide +kernel
theorem dX7_core_85 : decode cX7_core 85 = .ok (.getfield 53, 3) := by decide +kernel
theorem dX7_core_88 : decode cX7_core 88 = .ok (.iload_n 1, 1) := by decide +kernel
theorem dX7_core_89 : decode cX7_core 89 = .ok (.iconst 1, 1) := by decide +kernel
theorem dX7_core_90 : decode cX7_core 90 = .ok (.invokestatic 244, 3) := by decide +kernel
theorem dX7_core_93 : decode cX7_core 93 = .ok (.iaload, 1) := by decide +kernel
theorem dX7_core_94 : decode cX7_core 94 = .ok (.ireturn, 1) := by decide +kernel
theorem dX7_core_95 : decode cX7_core 95 = .ok (.aload_n 0, 1) := by decide +kernel
theorem dX7_core_96 : decode cX7_core 96 = .ok (.getfield 53, 3) := by decide +kernel
theorem dX7_core_99 : decode cX7_core 99 = .ok (.iload_n 1, 1) := by decide +kernel
theorem dX7_core_100 : decode cX7_core 100 = .ok (.iconst 2, 1) := by decide +kernel
theorem dX7_core_101 : decode cX7_core 101 = .ok (.invokestatic 244, 3) := by decide +kernel
theorem dX7_core_104 : decode cX7_core 104 = .ok (.iaload, 1) := by decide +kernel
theorem dX7_core_105 : decode cX7_core 105 = .ok (.ireturn, 1) := by decide +kernel
theorem dX7_core_106 : decode cX7_core 106 = .ok (.aload_n 0, 1) := by decide +kernel
theorem dX7_core_107 : decode cX7_core 107 = .ok (.getfield 53, 3) := by decide +kernel
theorem dX7_core_110 : decode cX7_core 110 = .ok (.iload_n 1, 1) := by decide +kernel
theorem dX7_core_111 : decode cX7_core 111 = .ok (.iconst 3, 1) := by decide +kernel
theorem dX7_core_112 : decode cX7_core 112 = .ok (.invokestatic 244, 3) := by decide +kernel
theorem dX7_core_115 : decode cX7_core 115 = .ok (.iaload, 1) := by decide +kernel
theorem dX7_core_116 : decode cX7_core 116 = .ok (.ireturn, 1) := by decide +kernel
theorem dX7_core_117 : decode cX7_core 117 = .ok (.aload_n 0, 1) := by decide +kernel
theorem dX7_core_118 : decode cX7_core 118 = .ok (.getfield 53, 3) := by decide +kernel
theorem dX7_core_121 : decode cX7_core 121 = .ok (.iload_n 1, 1) := by decide +kernel
theorem dX7_core_122 : decode cX7_core 122 = .ok (.iconst 4, 1) := by decide +kernel
theorem dX7_core_123 : decode cX7_core 123 = .ok (.invokestatic 244, 3) := by decide +kernel
theorem dX7_core_126 : decode cX7_core 126 = .ok (.iaload, 1) := by decide +kernel
theorem dX7_core_127 : decode cX7_core 127 = .ok (.ireturn, 1) := by decide +kernel
theorem dX7_core_128 : decode cX7_core 128 = .ok (.aload_n 0, 1) := by decide +kernel
theorem dX7_core_129 : decode cX7_core 129 = .ok (.getfield 53, 3) := by decide +kernel
theorem dX7_core_132 : decode cX7_core 132 = .ok (.iload_n 1, 1) := by decide +kernel
theorem dX7_core_133 : decode cX7_core 133 = .ok (.iconst 5, 1) := by decide +kernel
theorem dX7_core_134 : decode cX7_core 134 = .ok (.invokestatic 244, 3) := by decide +kernel
theorem dX7_core_137 : decode cX7_core 137 = .ok (.iaload, 1) := by decide +kernel
theorem dX7_core_138 : decode cX7_core 138 = .ok (.ireturn, 1) := by decide +kernel
theorem dX7_core_139 : decode cX7_core 139 = .ok (.aload_n 0, 1) := by decide +kernel
theorem dX7_core_140 : decode cX7_core 140 = .ok (.getfield 29, 3) := by decide +kernel
theorem dX7_core_143 : decode cX7_core 143 = .ok (.iload_n 1, 1) := by decide +kernel
theorem dX7_core_144 : decode cX7_core 144 = .ok (.iaload, 1) := by decide +kernel
theorem dX7_core_145 : decode cX7_core 145 = .ok (.ireturn, 1) := by decide +kernel
theorem dX7_core_146 : decode cX7_core 146 = .ok (.aload_n 0, 1) := by decide +kernel
theorem dX7_core_147 : decode cX7_core 147 = .ok (.iconst 1, 1) := by decide +kernel
theorem dX7_core_148 : decode cX7_core 148 = .ok (.invokevirtual 214, 3) := by decide +kernel
theorem dX7_core_151 : decode cX7_core 151 = .ok (.ireturn, 1) := by decide +kernel
theorem dX7_count_0 : decode cX7_count 0 = .ok (.aload_n 0, 1) := by decide +kernel
theorem dX7_count_1 : decode cX7_count 1 = .ok (.invokevirtual 211, 3) := by decide +kernel
theorem dX7_count_4 : decode cX7_count 4 = .ok (.aload_n 0, 1) := by decide +kernel
theorem dX7_count_5 : decode cX7_count 5 = .ok (.iload_n 1, 1) := by decide +kernel
theorem dX7_count_6 : decode cX7_count 6 = .ok (.invokevirtual 308, 3) := by decide +kernel
theorem dX7_count_9 : decode cX7_count 9 = .ok (.ifCond .eq 29, 3) := by decide +kernel
theorem dX7_count_12 : decode cX7_count 12 = .ok (.iload_n 2, 1) := by decide +kernel
theorem dX7_count_13 : decode cX7_count 13 = .ok (.iconst 0, 1) := by decide +kernel
theorem dX7_count_14 : decode cX7_count 14 = .ok (.bipush 6, 2) := by decide +kernel
theorem dX7_count_16 : decode cX7_count 16 = .ok (.invokestatic 94, 3) := by decide +kernel
theorem dX7_count_19 : decode cX7_count 19 = .ok (.ifCond .eq 19, 3) := by decide +kernel
theorem dX7_count_22 : decode cX7_count 22 = .ok (.aload_n 0, 1) := by decide +kernel
theorem dX7_count_23 : decode cX7_count 23 = .ok (.getfield 53, 3) := by decide +kernel
theorem dX7_count_26 : decode cX7_count 26 = .ok (.iload_n 1, 1) := by decide +kernel
theorem dX7_count_27 : decode cX7_count 27 = .ok (.bipush 7, 2) := by decide +kernel
theorem dX7_count_29 : decode cX7_count 29 = .ok (.iload_n 2, 1) := by decide +kernel
theorem dX7_count_30 : decode cX7_count 30 = .ok (.iadd, 1) := by decide +kernel
theorem dX7_count_31 : decode cX7_count 31 = .ok (.invokestatic 244, 3) := by decide +kernel
theorem dX7_count_34 : decode cX7_count 34 = .ok (.iaload, 1) := by decide +kernel
theorem dX7_count_35 : decode cX7_count 35 = .ok (.goto 8, 3) := by decide +kernel
theorem dX7_count_38 : decode cX7_count 38 = .ok (.aload_n 0, 1) := by decide +kernel
theorem dX7_count_39 : decode cX7_count 39 = .ok (.iconst 1, 1) := by decide +kernel
theorem dX7_count_40 : decode cX7_count 40 = .ok (.invokevirtual 214, 3) := by decide +kernel
theorem dX7_count_43 : decode cX7_count 43 = .ok (.ireturn, 1) := by decide +kernel
theorem dX7_advice_0 : decode cX7_advice 0 = .ok (.aload_n 0, 1) := by decide +kernel
theorem dX7_advice_1 : decode cX7_advice 1 = .ok (.invokevirtual 211, 3) := by decide +kernel
theorem dX7_advice_4 : decode cX7_advice 4 = .ok (.aload_n 0, 1) := by decide +kernel
theorem dX7_advice_5 : decode cX7_advice 5 = .ok (.iload_n 1, 1) := by decide +kernel
theorem dX7_advice_6 : decode cX7_advice 6 = .ok (.invokevirtual 308, 3) := by decide +kernel
theorem dX7_advice_9 : decode cX7_advice 9 = .ok (.ifCond .ne 9, 3) := by decide +kernel
theorem dX7_advice_12 : decode cX7_advice 12 = .ok (.aload_n 0, 1) := by decide +kernel
theorem dX7_advice_13 : decode cX7_advice 13 = .ok (.iconst 1, 1) := by decide +kernel
theorem dX7_advice_14 : decode cX7_advice 14 = .ok (.invokevirtual 214, 3) := by decide +kernel
theorem dX7_advice_17 : decode cX7_advice 17 = .ok (.ireturn, 1) := by decide +kernel
theorem dX7_advice_18 : decode cX7_advice 18 = .ok (.iload_n 2, 1) := by decide +kernel
theorem dX7_advice_19 : decode cX7_advice 19 = .ok (.iconst 0, 1) := by decide +kernel
theorem dX7_advice_20 : decode cX7_advice 20 = .ok (.iconst 3, 1) := by decide +kernel
theorem dX7_advice_21 : decode cX7_advice 21 = .ok (.invokestatic 94, 3) := by decide +kernel
theorem dX7_advice_24 : decode cX7_advice 24 = .ok (.ifCond .ne 9, 3) := by decide +kernel
theorem dX7_advice_27 : decode cX7_advice 27 = .ok (.aload_n 0, 1) := by decide +kernel
theorem dX7_advice_28 : decode cX7_advice 28 = .ok (.iconst 2, 1) := by decide +kernel
theorem dX7_advice_29 : decode cX7_advice 29 = .ok (.invokevirtual 214, 3) := by decide +kernel
theorem dX7_advice_32 : decode cX7_advice 32 = .ok (.ireturn, 1) := by decide +kernel
theorem dX7_advice_33 : decode cX7_advice 33 = .ok (.aload_n 0, 1) := by decide +kernel
theorem dX7_advice_34 : decode cX7_advice 34 = .ok (.getfield 53, 3) := by decide +kernel
theorem dX7_advice_37 : decode cX7_advice 37 = .ok (.iload_n 1, 1) := by decide +kernel
theorem dX7_advice_38 : decode cX7_advice 38 = .ok (.iconst 3, 1) := by decide +kernel
theorem dX7_advice_39 : decode cX7_advice 39 = .ok (.invokestatic 244, 3) := by decide +kernel
theorem dX7_advice_42 : decode cX7_advice 42 = .ok (.iaload, 1) := by decide +kernel
theorem dX7_advice_43 : decode cX7_advice 43 = .ok (.iconst 1, 1) := by decide +kernel
theorem dX7_advice_44 : decode cX7_advice 44 = .ok (.if_icmp .eq 9, 3) := by decide +kernel
theorem dX7_advice_47 : decode cX7_advice 47 = .ok (.aload_n 0, 1) := by decide +kernel
theorem dX7_advice_48 : decode cX7_advice 48 = .ok (.iconst 5, 1) := by decide +kernel
theorem dX7_advice_49 : decode cX7_advice 49 = .ok (.invokevirtual 214, 3) := by decide +kernel
theorem dX7_advice_52 : decode cX7_advice 52 = .ok (.ireturn, 1) := by decide +kernel
theorem dX7_advice_53 : decode cX7_advice 53 = .ok (.aload_n 0, 1) := by decide +kernel
theorem dX7_advice_54 : decode cX7_advice 54 = .ok (.getfield 53, 3) := by decide +kernel
theorem dX7_advice_57 : decode cX7_advice 57 = .ok (.iload_n 1, 1) := by decide +kernel
theorem dX7_advice_58 : decode cX7_advice 58 = .ok (.iconst 4, 1) := by decide +kernel
theorem dX7_advice_59 : decode cX7_advice 59 = .ok (.invokestatic 244, 3) := by decide +kernel
theorem dX7_advice_62 : decode cX7_advice 62 = .ok (.iaload, 1) := by decide +kernel
theorem dX7_advice_63 : decode cX7_advice 63 = .ok (.iload_n 2, 1) := by decide +kernel
theorem dX7_advice_64 : decode cX7_advice 64 = .ok (.ifCond .ne 7, 3) := by decide +kernel
theorem dX7_advice_67 : decode cX7_advice 67 = .ok (.iconst 1, 1) := by decide +kernel
theorem dX7_advice_68 : decode cX7_advice 68 = .ok (.goto 4, 3) := by decide +kernel
theorem dX7_advice_71 : decode cX7_advice 71 = .ok (.iconst 0, 1) := by decide +kernel
theorem dX7_advice_72 : decode cX7_advice 72 = .ok (.iadd, 1) := by decide +kernel
theorem dX7_advice_73 : decode cX7_advice 73 = .ok (.istore_n 3, 1) := by decide +kernel
theorem dX7_advice_74 : decode cX7_advice 74 = .ok (.iload_n 2, 1) := by decide +kernel
theorem dX7_advice_75 : decode cX7_advice 75 = .ok (.iconst 1, 1) := by decide +kernel
theorem dX7_advice_76 : decode cX7_advice 76 = .ok (.if_icmp .eq 11, 3) := by decide +kernel
theorem dX7_advice_79 : decode cX7_advice 79 = .ok (.iload_n 3, 1) := by decide +kernel
theorem dX7_advice_80 : decode cX7_advice 80 = .ok (.aload_n 0, 1) := by decide +kernel
theorem dX7_advice_81 : decode cX7_advice 81 = .ok (.getfield 240, 3) := by decide +kernel
theorem dX7_advice_84 : decode cX7_advice 84 = .ok (.if_icmp .lt 7, 3) := by decide +kernel
theorem dX7_advice_87 : decode cX7_advice 87 = .ok (.iconst 1, 1) := by decide +kernel
theorem dX7_advice_88 : decode cX7_advice 88 = .ok (.goto 4, 3) := by decide +kernel
theorem dX7_advice_91 : decode cX7_advice 91 = .ok (.iconst 0, 1) := by decide +kernel
theorem dX7_advice_92 : decode cX7_advice 92 = .ok (.ireturn, 1) := by decide +kernel
theorem dX7_commit_0 : decode cX7_commit 0 = .ok (.aload_n 0, 1) := by decide +kernel
theorem dX7_commit_1 : decode cX7_commit 1 = .ok (.invokevirtual 211, 3) := by decide +kernel
theorem dX7_commit_4 : decode cX7_commit 4 = .ok (.aload_n 0, 1) := by decide +kernel
theorem dX7_commit_5 : decode cX7_commit 5 = .ok (.getfield 226, 3) := by decide +kernel
theorem dX7_commit_8 : decode cX7_commit 8 = .ok (.ifCond .eq 44, 3) := by decide +kernel
theorem dX7_commit_11 : decode cX7_commit 11 = .ok (.iload_n 1, 1) := by decide +kernel
theorem dX7_commit_12 : decode cX7_commit 12 = .ok (.iconst 0, 1) := by decide +kernel
theorem dX7_commit_13 : decode cX7_commit 13 = .ok (.aload_n 0, 1) := by decide +kernel
theorem dX7_commit_14 : decode cX7_commit 14 = .ok (.getfield 53, 3) := by decide +kernel
theorem dX7_commit_17 : decode cX7_commit 17 = .ok (.iconst 4, 1) := by decide +kernel
theorem dX7_commit_18 : decode cX7_commit 18 = .ok (.iaload, 1) := by decide +kernel
theorem dX7_commit_19 : decode cX7_commit 19 = .ok (.iconst 1, 1) := by decide +kernel
theorem dX7_commit_20 : decode cX7_commit 20 = .ok (.isub, 1) := by decide +kernel
theorem dX7_commit_21 : decode cX7_commit 21 = .ok (.invokestatic 94, 3) := by decide +kernel
theorem dX7_commit_24 : decode cX7_commit 24 = .ok (.ifCond .eq 28, 3) := by decide +kernel
theorem dX7_commit_27 : decode cX7_commit 27 = .ok (.iload_n 2, 1) := by decide +kernel
theorem dX7_commit_28 : decode cX7_commit 28 = .ok (.iconst 0, 1) := by decide +kernel
theorem dX7_commit_29 : decode cX7_commit 29 = .ok (.iconst 3, 1) := by decide +kernel
theorem dX7_commit_30 : decode cX7_commit 30 = .ok (.invokestatic 94, 3) := by decide +kernel
theorem dX7_commit_33 : decode cX7_commit 33 = .ok (.ifCond .eq 19, 3) := by decide +kernel
theorem dX7_commit_36 : decode cX7_commit 36 = .ok (.aload_n 0, 1) := by decide +kernel
theorem dX7_commit_37 : decode cX7_commit 37 = .ok (.getfield 53, 3) := by decide +kernel
theorem dX7_commit_40 : decode cX7_commit 40 = .ok (.bipush 62, 2) := by decide +kernel
theorem dX7_commit_42 : decode cX7_commit 42 = .ok (.iconst 4, 1) := by decide +kernel
theorem dX7_commit_43 : decode cX7_commit 43 = .ok (.iload_n 1, 1) := by decide +kernel
theorem dX7_commit_44 : decode cX7_commit 44 = .ok (.imul, 1) := by decide +kernel
theorem dX7_commit_45 : decode cX7_commit 45 = .ok (.iadd, 1) := by decide +kernel
theorem dX7_commit_46 : decode cX7_commit 46 = .ok (.iload_n 2, 1) := by decide +kernel
theorem dX7_commit_47 : decode cX7_commit 47 = .ok (.iadd, 1) := by decide +kernel
theorem dX7_commit_48 : decode cX7_commit 48 = .ok (.iaload, 1) := by decide +kernel
theorem dX7_commit_49 : decode cX7_commit 49 = .ok (.goto 8, 3) := by decide +kernel
theorem dX7_commit_52 : decode cX7_commit 52 = .ok (.aload_n 0, 1) := by decide +kernel
theorem dX7_commit_53 : decode cX7_commit 53 = .ok (.iconst 1, 1) := by decide +kernel
theorem dX7_commit_54 : decode cX7_commit 54 = .ok (.invokevirtual 214, 3) := by decide +kernel
theorem dX7_commit_57 : decode cX7_commit 57 = .ok (.ireturn, 1) := by decide +kernel
theorem dX7_would_0 : decode cX7_would 0 = .ok (.aload_n 0, 1) := by decide +kernel
theorem dX7_would_1 : decode cX7_would 1 = .ok (.invokevirtual 211, 3) := by decide +kernel
theorem dX7_would_4 : decode cX7_would 4 = .ok (.aload_n 0, 1) := by decide +kernel
theorem dX7_would_5 : decode cX7_would 5 = .ok (.iload_n 1, 1) := by decide +kernel
theorem dX7_would_6 : decode cX7_would 6 = .ok (.invokevirtual 308, 3) := by decide +kernel
theorem dX7_would_9 : decode cX7_would 9 = .ok (.ifCond .ne 9, 3) := by decide +kernel
theorem dX7_would_12 : decode cX7_would 12 = .ok (.aload_n 0, 1) := by decide +kernel
theorem dX7_would_13 : decode cX7_would 13 = .ok (.iconst 1, 1) := by decide +kernel
theorem dX7_would_14 : decode cX7_would 14 = .ok (.invokevirtual 214, 3) := by decide +kernel
theorem dX7_would_17 : decode cX7_would 17 = .ok (.ireturn, 1) := by decide +kernel
theorem dX7_would_18 : decode cX7_would 18 = .ok (.aload_n 0, 1) := by decide +kernel
theorem dX7_would_19 : decode cX7_would 19 = .ok (.invokevirtual 335, 3) := by decide +kernel
theorem dX7_would_22 : decode cX7_would 22 = .ok (.aload_n 0, 1) := by decide +kernel
theorem dX7_would_23 : decode cX7_would 23 = .ok (.iload_n 1, 1) := by decide +kernel
theorem dX7_would_24 : decode cX7_would 24 = .ok (.invokevirtual 338, 3) := by decide +kernel
theorem dX7_would_27 : decode cX7_would 27 = .ok (.istore_n 2, 1) := by decide +kernel
theorem dX7_would_28 : decode cX7_would 28 = .ok (.aload_n 0, 1) := by decide +kernel
theorem dX7_would_29 : decode cX7_would 29 = .ok (.invokevirtual 341, 3) := by decide +kernel
theorem dX7_would_32 : decode cX7_would 32 = .ok (.iload_n 2, 1) := by decide +kernel
theorem dX7_would_33 : decode cX7_would 33 = .ok (.ireturn, 1) := by decide +kernel
theorem dX7_wouldEnd_0 : decode cX7_wouldEnd 0 = .ok (.aload_n 0, 1) := by decide +kernel
theorem dX7_wouldEnd_1 : decode cX7_wouldEnd 1 = .ok (.invokevirtual 211, 3) := by decide +kernel
theorem dX7_wouldEnd_4 : decode cX7_wouldEnd 4 = .ok (.aload_n 0, 1) := by decide +kernel
theorem dX7_wouldEnd_5 : decode cX7_wouldEnd 5 = .ok (.iload_n 1, 1) := by decide +kernel
theorem dX7_wouldEnd_6 : decode cX7_wouldEnd 6 = .ok (.invokevirtual 308, 3) := by decide +kernel
theorem dX7_wouldEnd_9 : decode cX7_wouldEnd 9 = .ok (.ifCond .ne 9, 3) := by decide +kernel
theorem dX7_wouldEnd_12 : decode cX7_wouldEnd 12 = .ok (.aload_n 0, 1) := by decide +kernel
theorem dX7_wouldEnd_13 : decode cX7_wouldEnd 13 = .ok (.iconst 1, 1) := by decide +kernel
theorem dX7_wouldEnd_14 : decode cX7_wouldEnd 14 = .ok (.invokevirtual 214, 3) := by decide +kernel
theorem dX7_wouldEnd_17 : decode cX7_wouldEnd 17 = .ok (.ireturn, 1) := by decide +kernel
theorem dX7_wouldEnd_18 : decode cX7_wouldEnd 18 = .ok (.aload_n 0, 1) := by decide +kernel
theorem dX7_wouldEnd_19 : decode cX7_wouldEnd 19 = .ok (.invokevirtual 335, 3) := by decide +kernel
theorem dX7_wouldEnd_22 : decode cX7_wouldEnd 22 = .ok (.aload_n 0, 1) := by decide +kernel
theorem dX7_wouldEnd_23 : decode cX7_wouldEnd 23 = .ok (.iload_n 1, 1) := by decide +kernel
theorem dX7_wouldEnd_24 : decode cX7_wouldEnd 24 = .ok (.invokevirtual 338, 3) := by decide +kernel
theorem dX7_wouldEnd_27 : decode cX7_wouldEnd 27 = .ok (.pop, 1) := by decide +kernel
theorem dX7_wouldEnd_28 : decode cX7_wouldEnd 28 = .ok (.aload_n 0, 1) := by decide +kernel
theorem dX7_wouldEnd_29 : decode cX7_wouldEnd 29 = .ok (.invokevirtual 341, 3) := by decide +kernel
theorem dX7_wouldEnd_32 : decode cX7_wouldEnd 32 = .ok (.aload_n 0, 1) := by decide +kernel
theorem dX7_wouldEnd_33 : decode cX7_wouldEnd 33 = .ok (.getfield 254, 3) := by decide +kernel
theorem dX7_wouldEnd_36 : decode cX7_wouldEnd 36 = .ok (.ireturn, 1) := by decide +kernel
theorem dX7_step_0 : decode cX7_step 0 = .ok (.aload_n 0, 1) := by decide +kernel
theorem dX7_step_1 : decode cX7_step 1 = .ok (.invokevirtual 211, 3) := by decide +kernel
theorem dX7_step_4 : decode cX7_step 4 = .ok (.aload_n 0, 1) := by decide +kernel
theorem dX7_step_5 : decode cX7_step 5 = .ok (.iload_n 1, 1) := by decide +kernel
theorem dX7_step_6 : decode cX7_step 6 = .ok (.invokevirtual 308, 3) := by decide +kernel
theorem dX7_step_9 : decode cX7_step 9 = .ok (.ifCond .eq 11, 3) := by decide +kernel
theorem dX7_step_12 : decode cX7_step 12 = .ok (.aload_n 0, 1) := by decide +kernel
theorem dX7_step_13 : decode cX7_step 13 = .ok (.iload_n 1, 1) := by decide +kernel
theorem dX7_step_14 : decode cX7_step 14 = .ok (.invokevirtual 338, 3) := by decide +kernel
theorem dX7_step_17 : decode cX7_step 17 = .ok (.goto 8, 3) := by decide +kernel
theorem dX7_step_20 : decode cX7_step 20 = .ok (.aload_n 0, 1) := by decide +kernel
theorem dX7_step_21 : decode cX7_step 21 = .ok (.iconst 1, 1) := by decide +kernel
theorem dX7_step_22 : decode cX7_step 22 = .ok (.invokevirtual 214, 3) := by decide +kernel
theorem dX7_step_25 : decode cX7_step 25 = .ok (.ireturn, 1) := by decide +kernel
theorem dX7_rounds_0 : decode cX7_rounds 0 = .ok (.aload_n 0, 1) := by decide +kernel
theorem dX7_rounds_1 : decode cX7_rounds 1 = .ok (.invokevirtual 211, 3) := by decide +kernel
theorem dX7_rounds_4 : decode cX7_rounds 4 = .ok (.aload_n 0, 1) := by decide +kernel
theorem dX7_rounds_5 : decode cX7_rounds 5 = .ok (.getfield 226, 3) := by decide +kernel
theorem dX7_rounds_8 : decode cX7_rounds 8 = .ok (.ifCond .ne 9, 3) := by decide +kernel
theorem dX7_rounds_11 : decode cX7_rounds 11 = .ok (.aload_n 0, 1) := by decide +kernel
theorem dX7_rounds_12 : decode cX7_rounds 12 = .ok (.iconst 1, 1) := by decide +kernel
theorem dX7_rounds_13 : decode cX7_rounds 13 = .ok (.invokevirtual 214, 3) := by decide +kernel
theorem dX7_rounds_16 : decode cX7_rounds 16 = .ok (.ireturn, 1) := by decide +kernel
theorem dX7_rounds_17 : decode cX7_rounds 17 = .ok (.iload_n 1, 1) := by decide +kernel
theorem dX7_rounds_18 : decode cX7_rounds 18 = .ok (.iconst 1, 1) := by decide +kernel
theorem dX7_rounds_19 : decode cX7_rounds 19 = .ok (.sipush 200, 3) := by decide +kernel
theorem dX7_rounds_22 : decode cX7_rounds 22 = .ok (.invokestatic 94, 3) := by decide +kernel
theorem dX7_rounds_25 : decode cX7_rounds 25 = .ok (.ifCond .ne 9, 3) := by decide +kernel
theorem dX7_rounds_28 : decode cX7_rounds 28 = .ok (.aload_n 0, 1) := by decide +kernel
theorem dX7_rounds_29 : decode cX7_rounds 29 = .ok (.iconst 2, 1) := by decide +kernel
theorem dX7_rounds_30 : decode cX7_rounds 30 = .ok (.invokevirtual 214, 3) := by decide +kernel
theorem dX7_rounds_33 : decode cX7_rounds 33 = .ok (.ireturn, 1) := by decide +kernel
theorem dX7_rounds_34 : decode cX7_rounds 34 = .ok (.iconst 0, 1) := by decide +kernel
theorem dX7_rounds_35 : decode cX7_rounds 35 = .ok (.istore_n 2, 1) := by decide +kernel
theorem dX7_rounds_36 : decode cX7_rounds 36 = .ok (.iconst 0, 1) := by decide +kernel
theorem dX7_rounds_37 : decode cX7_rounds 37 = .ok (.istore_n 3, 1) := by decide +kernel
theorem dX7_rounds_38 : decode cX7_rounds 38 = .ok (.iload_n 3, 1) := by decide +kernel
theorem dX7_rounds_39 : decode cX7_rounds 39 = .ok (.iload_n 1, 1) := by decide +kernel
theorem dX7_rounds_40 : decode cX7_rounds 40 = .ok (.if_icmp .ge 46, 3) := by decide +kernel
theorem dX7_rounds_43 : decode cX7_rounds 43 = .ok (.iconst 0, 1) := by decide +kernel
theorem dX7_rounds_44 : decode cX7_rounds 44 = .ok (.istore 4, 2) := by decide +kernel
theorem dX7_rounds_46 : decode cX7_rounds 46 = .ok (.iload 4, 2) := by decide +kernel
theorem dX7_rounds_48 : decode cX7_rounds 48 = .ok (.aload_n 0, 1) := by decide +kernel
theorem dX7_rounds_49 : decode cX7_rounds 49 = .ok (.getfield 17, 3) := by decide +kernel
theorem dX7_rounds_52 : decode cX7_rounds 52 = .ok (.iconst 5, 1) := by decide +kernel
theorem dX7_rounds_53 : decode cX7_rounds 53 = .ok (.iaload, 1) := by decide +kernel
theorem dX7_rounds_54 : decode cX7_rounds 54 = .ok (.if_icmp .ge 26, 3) := by decide +kernel
theorem dX7_rounds_57 : decode cX7_rounds 57 = .ok (.iload_n 2, 1) := by decide +kernel
theorem dX7_rounds_58 : decode cX7_rounds 58 = .ok (.aload_n 0, 1) := by decide +kernel
theorem dX7_rounds_59 : decode cX7_rounds 59 = .ok (.iload 4, 2) := by decide +kernel
theorem dX7_rounds_61 : decode cX7_rounds 61 = .ok (.invokevirtual 338, 3) := by decide +kernel
theorem dX7_rounds_64 : decode cX7_rounds 64 = .ok (.ifCond .ne 7, 3) := by decide +kernel
theorem dX7_rounds_67 : decode cX7_rounds 67 = .ok (.iconst 0, 1) := by decide +kernel
theorem dX7_rounds_68 : decode cX7_rounds 68 = .ok (.goto 4, 3) := by decide +kernel
theorem dX7_rounds_71 : decode cX7_rounds 71 = .ok (.iconst 1, 1) := by decide +kernel
theorem dX7_rounds_72 : decode cX7_rounds 72 = .ok (.iadd, 1) := by decide +kernel
theorem dX7_rounds_73 : decode cX7_rounds 73 = .ok (.istore_n 2, 1) := by decide +kernel
theorem dX7_rounds_74 : decode cX7_rounds 74 = .ok (.iinc 4 1, 3) := by decide +kernel
theorem dX7_rounds_77 : decode cX7_rounds 77 = .ok (.goto (-31), 3) := by decide +kernel
theorem dX7_rounds_80 : decode cX7_rounds 80 = .ok (.iinc 3 1, 3) := by decide +kernel
theorem dX7_rounds_83 : decode cX7_rounds 83 = .ok (.goto (-45), 3) := by decide +kernel
theorem dX7_rounds_86 : decode cX7_rounds 86 = .ok (.iload_n 2, 1) := by decide +kernel
theorem dX7_rounds_87 : decode cX7_rounds 87 = .ok (.ireturn, 1) := by decide +kernel
theorem dX7_drawn_0 : decode cX7_drawn 0 = .ok (.aload_n 0, 1) := by decide +kernel
theorem dX7_drawn_1 : decode cX7_drawn 1 = .ok (.sipush 25173, 3) := by decide +kernel
theorem dX7_drawn_4 : decode cX7_drawn 4 = .ok (.aload_n 0, 1) := by decide +kernel
theorem dX7_drawn_5 : decode cX7_drawn 5 = .ok (.getfield 344, 3) := by decide +kernel
theorem dX7_drawn_8 : decode cX7_drawn 8 = .ok (.imul, 1) := by decide +kernel
theorem dX7_drawn_9 : decode cX7_drawn 9 = .ok (.sipush 13849, 3) := by decide +kernel
theorem dX7_drawn_12 : decode cX7_drawn 12 = .ok (.iadd, 1) := by decide +kernel
theorem dX7_drawn_13 : decode cX7_drawn 13 = .ok (.ldc_w 347, 3) := by decide +kernel
theorem dX7_drawn_16 : decode cX7_drawn 16 = .ok (.irem, 1) := by decide +kernel
theorem dX7_drawn_17 : decode cX7_drawn 17 = .ok (.putfield 344, 3) := by decide +kernel
theorem dX7_drawn_20 : decode cX7_drawn 20 = .ok (.aload_n 0, 1) := by decide +kernel
theorem dX7_drawn_21 : decode cX7_drawn 21 = .ok (.getfield 344, 3) := by decide +kernel
theorem dX7_drawn_24 : decode cX7_drawn 24 = .ok (.sipush 256, 3) := by decide +kernel
theorem dX7_drawn_27 : decode cX7_drawn 27 = .ok (.idiv, 1) := by decide +kernel
theorem dX7_drawn_28 : decode cX7_drawn 28 = .ok (.aload_n 0, 1) := by decide +kernel
theorem dX7_drawn_29 : decode cX7_drawn 29 = .ok (.getfield 17, 3) := by decide +kernel
theorem dX7_drawn_32 : decode cX7_drawn 32 = .ok (.iconst 5, 1) := by decide +kernel
theorem dX7_drawn_33 : decode cX7_drawn 33 = .ok (.iaload, 1) := by decide +kernel
theorem dX7_drawn_34 : decode cX7_drawn 34 = .ok (.irem, 1) := by decide +kernel
theorem dX7_drawn_35 : decode cX7_drawn 35 = .ok (.ireturn, 1) := by decide +kernel
theorem dX7_isSeed_0 : decode cX7_isSeed 0 = .ok (.iload_n 0, 1) := by decide +kernel
theorem dX7_isSeed_1 : decode cX7_isSeed 1 = .ok (.iconst 0, 1) := by decide +kernel
theorem dX7_isSeed_2 : decode cX7_isSeed 2 = .ok (.ldc_w 348, 3) := by decide +kernel
theorem dX7_isSeed_5 : decode cX7_isSeed 5 = .ok (.invokestatic 94, 3) := by decide +kernel
theorem dX7_isSeed_8 : decode cX7_isSeed 8 = .ok (.ireturn, 1) := by decide +kernel
theorem dX7_draws_0 : decode cX7_draws 0 = .ok (.aload_n 0, 1) := by decide +kernel
theorem dX7_draws_1 : decode cX7_draws 1 = .ok (.invokevirtual 211, 3) := by decide +kernel
theorem dX7_draws_4 : decode cX7_draws 4 = .ok (.aload_n 0, 1) := by decide +kernel
theorem dX7_draws_5 : decode cX7_draws 5 = .ok (.getfield 226, 3) := by decide +kernel
theorem dX7_draws_8 : decode cX7_draws 8 = .ok (.ifCond .ne 9, 3) := by decide +kernel
theorem dX7_draws_11 : decode cX7_draws 11 = .ok (.aload_n 0, 1) := by decide +kernel
theorem dX7_draws_12 : decode cX7_draws 12 = .ok (.iconst 1, 1) := by decide +kernel
theorem dX7_draws_13 : decode cX7_draws 13 = .ok (.invokevirtual 214, 3) := by decide +kernel
theorem dX7_draws_16 : decode cX7_draws 16 = .ok (.ireturn, 1) := by decide +kernel
theorem dX7_draws_17 : decode cX7_draws 17 = .ok (.iload_n 1, 1) := by decide +kernel
theorem dX7_draws_18 : decode cX7_draws 18 = .ok (.iconst 1, 1) := by decide +kernel
theorem dX7_draws_19 : decode cX7_draws 19 = .ok (.sipush 1000, 3) := by decide +kernel
theorem dX7_draws_22 : decode cX7_draws 22 = .ok (.invokestatic 94, 3) := by decide +kernel
theorem dX7_draws_25 : decode cX7_draws 25 = .ok (.ifCond .eq 10, 3) := by decide +kernel
theorem dX7_draws_28 : decode cX7_draws 28 = .ok (.iload_n 2, 1) := by decide +kernel
theorem dX7_draws_29 : decode cX7_draws 29 = .ok (.invokestatic 349, 3) := by decide +kernel
theorem dX7_draws_32 : decode cX7_draws 32 = .ok (.ifCond .ne 9, 3) := by decide +kernel
theorem dX7_draws_35 : decode cX7_draws 35 = .ok (.aload_n 0, 1) := by decide +kernel
theorem dX7_draws_36 : decode cX7_draws 36 = .ok (.iconst 2, 1) := by decide +kernel
theorem dX7_draws_37 : decode cX7_draws 37 = .ok (.invokevirtual 214, 3) := by decide +kernel
theorem dX7_draws_40 : decode cX7_draws 40 = .ok (.ireturn, 1) := by decide +kernel
theorem dX7_draws_41 : decode cX7_draws 41 = .ok (.aload_n 0, 1) := by decide +kernel
theorem dX7_draws_42 : decode cX7_draws 42 = .ok (.iload_n 2, 1) := by decide +kernel
theorem dX7_draws_43 : decode cX7_draws 43 = .ok (.putfield 344, 3) := by decide +kernel
theorem dX7_draws_46 : decode cX7_draws 46 = .ok (.iconst 0, 1) := by decide +kernel
theorem dX7_draws_47 : decode cX7_draws 47 = .ok (.istore_n 3, 1) := by decide +kernel
theorem dX7_draws_48 : decode cX7_draws 48 = .ok (.iconst 0, 1) := by decide +kernel
theorem dX7_draws_49 : decode cX7_draws 49 = .ok (.istore 4, 2) := by decide +kernel
theorem dX7_draws_51 : decode cX7_draws 51 = .ok (.iload 4, 2) := by decide +kernel
theorem dX7_draws_53 : decode cX7_draws 53 = .ok (.iload_n 1, 1) := by decide +kernel
theorem dX7_draws_54 : decode cX7_draws 54 = .ok (.if_icmp .ge 28, 3) := by decide +kernel
theorem dX7_draws_57 : decode cX7_draws 57 = .ok (.iload_n 3, 1) := by decide +kernel
theorem dX7_draws_58 : decode cX7_draws 58 = .ok (.aload_n 0, 1) := by decide +kernel
theorem dX7_draws_59 : decode cX7_draws 59 = .ok (.aload_n 0, 1) := by decide +kernel
theorem dX7_draws_60 : decode cX7_draws 60 = .ok (.invokevirtual 352, 3) := by decide +kernel
theorem dX7_draws_63 : decode cX7_draws 63 = .ok (.invokevirtual 338, 3) := by decide +kernel
theorem dX7_draws_66 : decode cX7_draws 66 = .ok (.ifCond .ne 7, 3) := by decide +kernel
theorem dX7_draws_69 : decode cX7_draws 69 = .ok (.iconst 0, 1) := by decide +kernel
theorem dX7_draws_70 : decode cX7_draws 70 = .ok (.goto 4, 3) := by decide +kernel
theorem dX7_draws_73 : decode cX7_draws 73 = .ok (.iconst 1, 1) := by decide +kernel
theorem dX7_draws_74 : decode cX7_draws 74 = .ok (.iadd, 1) := by decide +kernel
theorem dX7_draws_75 : decode cX7_draws 75 = .ok (.istore_n 3, 1) := by decide +kernel
theorem dX7_draws_76 : decode cX7_draws 76 = .ok (.iinc 4 1, 3) := by decide +kernel
theorem dX7_draws_79 : decode cX7_draws 79 = .ok (.goto (-28), 3) := by decide +kernel
theorem dX7_draws_82 : decode cX7_draws 82 = .ok (.iload_n 3, 1) := by decide +kernel
theorem dX7_draws_83 : decode cX7_draws 83 = .ok (.ireturn, 1) := by decide +kernel
theorem dX7_interrupt_0 : decode cX7_interrupt 0 = .ok (.aload_n 0, 1) := by decide +kernel
theorem dX7_interrupt_1 : decode cX7_interrupt 1 = .ok (.invokevirtual 211, 3) := by decide +kernel
theorem dX7_interrupt_4 : decode cX7_interrupt 4 = .ok (.aload_n 0, 1) := by decide +kernel
theorem dX7_interrupt_5 : decode cX7_interrupt 5 = .ok (.iload_n 1, 1) := by decide +kernel
theorem dX7_interrupt_6 : decode cX7_interrupt 6 = .ok (.invokevirtual 308, 3) := by decide +kernel
theorem dX7_interrupt_9 : decode cX7_interrupt 9 = .ok (.ifCond .ne 9, 3) := by decide +kernel
theorem dX7_interrupt_12 : decode cX7_interrupt 12 = .ok (.aload_n 0, 1) := by decide +kernel
theorem dX7_interrupt_13 : decode cX7_interrupt 13 = .ok (.iconst 1, 1) := by decide +kernel
theorem dX7_interrupt_14 : decode cX7_interrupt 14 = .ok (.invokevirtual 214, 3) := by decide +kernel
theorem dX7_interrupt_17 : decode cX7_interrupt 17 = .ok (.ireturn, 1) := by decide +kernel
theorem dX7_interrupt_18 : decode cX7_interrupt 18 = .ok (.aload_n 0, 1) := by decide +kernel
theorem dX7_interrupt_19 : decode cX7_interrupt 19 = .ok (.getfield 53, 3) := by decide +kernel
theorem dX7_interrupt_22 : decode cX7_interrupt 22 = .ok (.iload_n 1, 1) := by decide +kernel
theorem dX7_interrupt_23 : decode cX7_interrupt 23 = .ok (.iconst 3, 1) := by decide +kernel
theorem dX7_interrupt_24 : decode cX7_interrupt 24 = .ok (.invokestatic 244, 3) := by decide +kernel
theorem dX7_interrupt_27 : decode cX7_interrupt 27 = .ok (.iaload, 1) := by decide +kernel
theorem dX7_interrupt_28 : decode cX7_interrupt 28 = .ok (.iconst 1, 1) := by decide +kernel
theorem dX7_interrupt_29 : decode cX7_interrupt 29 = .ok (.if_icmp .eq 9, 3) := by decide +kernel
theorem dX7_interrupt_32 : decode cX7_interrupt 32 = .ok (.aload_n 0, 1) := by decide +kernel
theorem dX7_interrupt_33 : decode cX7_interrupt 33 = .ok (.iconst 5, 1) := by decide +kernel
theorem dX7_interrupt_34 : decode cX7_interrupt 34 = .ok (.invokevirtual 214, 3) := by decide +kernel
theorem dX7_interrupt_37 : decode cX7_interrupt 37 = .ok (.ireturn, 1) := by decide +kernel
theorem dX7_interrupt_38 : decode cX7_interrupt 38 = .ok (.aload_n 0, 1) := by decide +kernel
theorem dX7_interrupt_39 : decode cX7_interrupt 39 = .ok (.iload_n 1, 1) := by decide +kernel
theorem dX7_interrupt_40 : decode cX7_interrupt 40 = .ok (.iconst 2, 1) := by decide +kernel
theorem dX7_interrupt_41 : decode cX7_interrupt 41 = .ok (.invokevirtual 268, 3) := by decide +kernel
theorem dX7_interrupt_44 : decode cX7_interrupt 44 = .ok (.aload_n 0, 1) := by decide +kernel
theorem dX7_interrupt_45 : decode cX7_interrupt 45 = .ok (.getfield 53, 3) := by decide +kernel
theorem dX7_interrupt_48 : decode cX7_interrupt 48 = .ok (.iload_n 1, 1) := by decide +kernel
theorem dX7_interrupt_49 : decode cX7_interrupt 49 = .ok (.iconst 0, 1) := by decide +kernel
theorem dX7_interrupt_50 : decode cX7_interrupt 50 = .ok (.invokestatic 244, 3) := by decide +kernel
theorem dX7_interrupt_53 : decode cX7_interrupt 53 = .ok (.iaload, 1) := by decide +kernel
theorem dX7_interrupt_54 : decode cX7_interrupt 54 = .ok (.ireturn, 1) := by decide +kernel
theorem dX7_isAnyLeft_0 : decode cX7_isAnyLeft 0 = .ok (.iconst 0, 1) := by decide +kernel
theorem dX7_isAnyLeft_1 : decode cX7_isAnyLeft 1 = .ok (.istore_n 1, 1) := by decide +kernel
theorem dX7_isAnyLeft_2 : decode cX7_isAnyLeft 2 = .ok (.iload_n 1, 1) := by decide +kernel
theorem dX7_isAnyLeft_3 : decode cX7_isAnyLeft 3 = .ok (.aload_n 0, 1) := by decide +kernel
theorem dX7_isAnyLeft_4 : decode cX7_isAnyLeft 4 = .ok (.getfield 17, 3) := by decide +kernel
theorem dX7_isAnyLeft_7 : decode cX7_isAnyLeft 7 = .ok (.iconst 5, 1) := by decide +kernel
theorem dX7_isAnyLeft_8 : decode cX7_isAnyLeft 8 = .ok (.iaload, 1) := by decide +kernel
theorem dX7_isAnyLeft_9 : decode cX7_isAnyLeft 9 = .ok (.if_icmp .ge 19, 3) := by decide +kernel
theorem dX7_isAnyLeft_12 : decode cX7_isAnyLeft 12 = .ok (.aload_n 0, 1) := by decide +kernel
theorem dX7_isAnyLeft_13 : decode cX7_isAnyLeft 13 = .ok (.iload_n 1, 1) := by decide +kernel
theorem dX7_isAnyLeft_14 : decode cX7_isAnyLeft 14 = .ok (.invokevirtual 301, 3) := by decide +kernel
theorem dX7_isAnyLeft_17 : decode cX7_isAnyLeft 17 = .ok (.ifCond .eq 5, 3) := by decide +kernel
theorem dX7_isAnyLeft_20 : decode cX7_isAnyLeft 20 = .ok (.iconst 1, 1) := by decide +kernel
theorem dX7_isAnyLeft_21 : decode cX7_isAnyLeft 21 = .ok (.ireturn, 1) := by decide +kernel
theorem dX7_isAnyLeft_22 : decode cX7_isAnyLeft 22 = .ok (.iinc 1 1, 3) := by decide +kernel
theorem dX7_isAnyLeft_25 : decode cX7_isAnyLeft 25 = .ok (.goto (-23), 3) := by decide +kernel
theorem dX7_isAnyLeft_28 : decode cX7_isAnyLeft 28 = .ok (.iconst 0, 1) := by decide +kernel
theorem dX7_isAnyLeft_29 : decode cX7_isAnyLeft 29 = .ok (.ireturn, 1) := by decide +kernel
theorem dX7_countAll_0 : decode cX7_countAll 0 = .ok (.iconst 0, 1) := by decide +kernel
theorem dX7_countAll_1 : decode cX7_countAll 1 = .ok (.istore_n 2, 1) := by decide +kernel
theorem dX7_countAll_2 : decode cX7_countAll 2 = .ok (.iconst 0, 1) := by decide +kernel
theorem dX7_countAll_3 : decode cX7_countAll 3 = .ok (.istore_n 3, 1) := by decide +kernel
theorem dX7_countAll_4 : decode cX7_countAll 4 = .ok (.iload_n 3, 1) := by decide +kernel
theorem dX7_countAll_5 : decode cX7_countAll 5 = .ok (.aload_n 0, 1) := by decide +kernel
theorem dX7_countAll_6 : decode cX7_countAll 6 = .ok (.getfield 17, 3) := by decide +kernel
theorem dX7_countAll_9 : decode cX7_countAll 9 = .ok (.iconst 5, 1) := by decide +kernel
theorem dX7_countAll_10 : decode cX7_countAll 10 = .ok (.iaload, 1) := by decide +kernel
theorem dX7_countAll_11 : decode cX7_countAll 11 = .ok (.if_icmp .ge 25, 3) := by decide +kernel
theorem dX7_countAll_14 : decode cX7_countAll 14 = .ok (.iload_n 2, 1) := by decide +kernel
theorem dX7_countAll_15 : decode cX7_countAll 15 = .ok (.aload_n 0, 1) := by decide +kernel
theorem dX7_countAll_16 : decode cX7_countAll 16 = .ok (.getfield 53, 3) := by decide +kernel
theorem dX7_countAll_19 : decode cX7_countAll 19 = .ok (.iload_n 3, 1) := by decide +kernel
theorem dX7_countAll_20 : decode cX7_countAll 20 = .ok (.bipush 7, 2) := by decide +kernel
theorem dX7_countAll_22 : decode cX7_countAll 22 = .ok (.iload_n 1, 1) := by decide +kernel
theorem dX7_countAll_23 : decode cX7_countAll 23 = .ok (.iadd, 1) := by decide +kernel
theorem dX7_countAll_24 : decode cX7_countAll 24 = .ok (.invokestatic 244, 3) := by decide +kernel
theorem dX7_countAll_27 : decode cX7_countAll 27 = .ok (.iaload, 1) := by decide +kernel
theorem dX7_countAll_28 : decode cX7_countAll 28 = .ok (.iadd, 1) := by decide +kernel
theorem dX7_countAll_29 : decode cX7_countAll 29 = .ok (.istore_n 2, 1) := by decide +kernel
theorem dX7_countAll_30 : decode cX7_countAll 30 = .ok (.iinc 3 1, 3) := by decide +kernel
theorem dX7_countAll_33 : decode cX7_countAll 33 = .ok (.goto (-29), 3) := by decide +kernel
theorem dX7_countAll_36 : decode cX7_countAll 36 = .ok (.iload_n 2, 1) := by decide +kernel
theorem dX7_countAll_37 : decode cX7_countAll 37 = .ok (.ireturn, 1) := by decide +kernel
theorem dX7_tries_0 : decode cX7_tries 0 = .ok (.aload_n 0, 1) := by decide +kernel
theorem dX7_tries_1 : decode cX7_tries 1 = .ok (.invokevirtual 335, 3) := by decide +kernel
theorem dX7_tries_4 : decode cX7_tries 4 = .ok (.aload_n 0, 1) := by decide +kernel
theorem dX7_tries_5 : decode cX7_tries 5 = .ok (.invokevirtual 235, 3) := by decide +kernel
theorem dX7_tries_8 : decode cX7_tries 8 = .ok (.aload_n 0, 1) := by decide +kernel
theorem dX7_tries_9 : decode cX7_tries 9 = .ok (.iload_n 1, 1) := by decide +kernel
theorem dX7_tries_10 : decode cX7_tries 10 = .ok (.putfield 238, 3) := by decide +kernel
theorem dX7_tries_13 : decode cX7_tries 13 = .ok (.aload_n 0, 1) := by decide +kernel
theorem dX7_tries_14 : decode cX7_tries 14 = .ok (.iload_n 2, 1) := by decide +kernel
theorem dX7_tries_15 : decode cX7_tries 15 = .ok (.putfield 240, 3) := by decide +kernel
theorem dX7_tries_18 : decode cX7_tries 18 = .ok (.aload_n 0, 1) := by decide +kernel
theorem dX7_tries_19 : decode cX7_tries 19 = .ok (.iload_n 3, 1) := by decide +kernel
theorem dX7_tries_20 : decode cX7_tries 20 = .ok (.putfield 344, 3) := by decide +kernel
theorem dX7_tries_23 : decode cX7_tries 23 = .ok (.iconst 0, 1) := by decide +kernel
theorem dX7_tries_24 : decode cX7_tries 24 = .ok (.istore 4, 2) := by decide +kernel
theorem dX7_tries_26 : decode cX7_tries 26 = .ok (.iload 4, 2) := by decide +kernel
theorem dX7_tries_28 : decode cX7_tries 28 = .ok (.sipush 2000, 3) := by decide +kernel
theorem dX7_tries_31 : decode cX7_tries 31 = .ok (.if_icmp .ge 25, 3) := by decide +kernel
theorem dX7_tries_34 : decode cX7_tries 34 = .ok (.aload_n 0, 1) := by decide +kernel
theorem dX7_tries_35 : decode cX7_tries 35 = .ok (.invokevirtual 355, 3) := by decide +kernel
theorem dX7_tries_38 : decode cX7_tries 38 = .ok (.ifCond .eq 18, 3) := by decide +kernel
theorem dX7_tries_41 : decode cX7_tries 41 = .ok (.aload_n 0, 1) := by decide +kernel
theorem dX7_tries_42 : decode cX7_tries 42 = .ok (.aload_n 0, 1) := by decide +kernel
theorem dX7_tries_43 : decode cX7_tries 43 = .ok (.invokevirtual 352, 3) := by decide +kernel
theorem dX7_tries_46 : decode cX7_tries 46 = .ok (.invokevirtual 338, 3) := by decide +kernel
theorem dX7_tries_49 : decode cX7_tries 49 = .ok (.pop, 1) := by decide +kernel
theorem dX7_tries_50 : decode cX7_tries 50 = .ok (.iinc 4 1, 3) := by decide +kernel
theorem dX7_tries_53 : decode cX7_tries 53 = .ok (.goto (-27), 3) := by decide +kernel
theorem dX7_tries_56 : decode cX7_tries 56 = .ok (.return_, 1) := by decide +kernel
theorem dX7_triedWhy_0 : decode cX7_triedWhy 0 = .ok (.aload_n 0, 1) := by decide +kernel
theorem dX7_triedWhy_1 : decode cX7_triedWhy 1 = .ok (.getfield 226, 3) := by decide +kernel
theorem dX7_triedWhy_4 : decode cX7_triedWhy 4 = .ok (.ifCond .eq 7, 3) := by decide +kernel
theorem dX7_triedWhy_7 : decode cX7_triedWhy 7 = .ok (.iload_n 1, 1) := by decide +kernel
theorem dX7_triedWhy_8 : decode cX7_triedWhy 8 = .ok (.ifCond .ne 7, 3) := by decide +kernel
theorem dX7_triedWhy_11 : decode cX7_triedWhy 11 = .ok (.iconst 1, 1) := by decide +kernel
theorem dX7_triedWhy_12 : decode cX7_triedWhy 12 = .ok (.goto 35, 3) := by decide +kernel
theorem dX7_triedWhy_15 : decode cX7_triedWhy 15 = .ok (.iload_n 2, 1) := by decide +kernel
theorem dX7_triedWhy_16 : decode cX7_triedWhy 16 = .ok (.iconst 0, 1) := by decide +kernel
theorem dX7_triedWhy_17 : decode cX7_triedWhy 17 = .ok (.iconst 2, 1) := by decide +kernel
theorem dX7_triedWhy_18 : decode cX7_triedWhy 18 = .ok (.invokestatic 94, 3) := by decide +kernel
theorem dX7_triedWhy_21 : decode cX7_triedWhy 21 = .ok (.ifCond .eq 25, 3) := by decide +kernel
theorem dX7_triedWhy_24 : decode cX7_triedWhy 24 = .ok (.iload_n 3, 1) := by decide +kernel
theorem dX7_triedWhy_25 : decode cX7_triedWhy 25 = .ok (.iconst 1, 1) := by decide +kernel
theorem dX7_triedWhy_26 : decode cX7_triedWhy 26 = .ok (.bipush 9, 2) := by decide +kernel
theorem dX7_triedWhy_28 : decode cX7_triedWhy 28 = .ok (.invokestatic 94, 3) := by decide +kernel
theorem dX7_triedWhy_31 : decode cX7_triedWhy 31 = .ok (.ifCond .eq 15, 3) := by decide +kernel
theorem dX7_triedWhy_34 : decode cX7_triedWhy 34 = .ok (.iload 4, 2) := by decide +kernel
theorem dX7_triedWhy_36 : decode cX7_triedWhy 36 = .ok (.invokestatic 349, 3) := by decide +kernel
theorem dX7_triedWhy_39 : decode cX7_triedWhy 39 = .ok (.ifCond .eq 7, 3) := by decide +kernel
theorem dX7_triedWhy_42 : decode cX7_triedWhy 42 = .ok (.iconst 0, 1) := by decide +kernel
theorem dX7_triedWhy_43 : decode cX7_triedWhy 43 = .ok (.goto 4, 3) := by decide +kernel
theorem dX7_triedWhy_46 : decode cX7_triedWhy 46 = .ok (.iconst 2, 1) := by decide +kernel
theorem dX7_triedWhy_47 : decode cX7_triedWhy 47 = .ok (.ireturn, 1) := by decide +kernel
theorem dX7_triedOf_0 : decode cX7_triedOf 0 = .ok (.iload_n 1, 1) := by decide +kernel
theorem dX7_triedOf_1 : decode cX7_triedOf 1 = .ok (.tableswitch 66 0 4 #[35, 42, 48, 54, 60], 35) := by decide +kernel
theorem dX7_triedOf_36 : decode cX7_triedOf 36 = .ok (.aload_n 0, 1) := by decide +kernel
theorem dX7_triedOf_37 : decode cX7_triedOf 37 = .ok (.getfield 53, 3) := by decide +kernel
theorem dX7_triedOf_40 : decode cX7_triedOf 40 = .ok (.iconst 0, 1) := by decide +kernel
theorem dX7_triedOf_41 : decode cX7_triedOf 41 = .ok (.iaload, 1) := by decide +kernel
theorem dX7_triedOf_42 : decode cX7_triedOf 42 = .ok (.ireturn, 1) := by decide +kernel
theorem dX7_triedOf_43 : decode cX7_triedOf 43 = .ok (.aload_n 0, 1) := by decide +kernel
theorem dX7_triedOf_44 : decode cX7_triedOf 44 = .ok (.iconst 0, 1) := by decide +kernel
theorem dX7_triedOf_45 : decode cX7_triedOf 45 = .ok (.invokevirtual 359, 3) := by decide +kernel
theorem dX7_triedOf_48 : decode cX7_triedOf 48 = .ok (.ireturn, 1) := by decide +kernel
theorem dX7_triedOf_49 : decode cX7_triedOf 49 = .ok (.aload_n 0, 1) := by decide +kernel
theorem dX7_triedOf_50 : decode cX7_triedOf 50 = .ok (.iconst 1, 1) := by decide +kernel
theorem dX7_triedOf_51 : decode cX7_triedOf 51 = .ok (.invokevirtual 359, 3) := by decide +kernel
theorem dX7_triedOf_54 : decode cX7_triedOf 54 = .ok (.ireturn, 1) := by decide +kernel
theorem dX7_triedOf_55 : decode cX7_triedOf 55 = .ok (.aload_n 0, 1) := by decide +kernel
theorem dX7_triedOf_56 : decode cX7_triedOf 56 = .ok (.iconst 3, 1) := by decide +kernel
theorem dX7_triedOf_57 : decode cX7_triedOf 57 = .ok (.invokevirtual 359, 3) := by decide +kernel
theorem dX7_triedOf_60 : decode cX7_triedOf 60 = .ok (.ireturn, 1) := by decide +kernel
theorem dX7_triedOf_61 : decode cX7_triedOf 61 = .ok (.aload_n 0, 1) := by decide +kernel
theorem dX7_triedOf_62 : decode cX7_triedOf 62 = .ok (.iconst 5, 1) := by decide +kernel
theorem dX7_triedOf_63 : decode cX7_triedOf 63 = .ok (.invokevirtual 359, 3) := by decide +kernel
theorem dX7_triedOf_66 : decode cX7_triedOf 66 = .ok (.ireturn, 1) := by decide +kernel
theorem dX7_triedOf_67 : decode cX7_triedOf 67 = .ok (.aload_n 0, 1) := by decide +kernel
theorem dX7_triedOf_68 : decode cX7_triedOf 68 = .ok (.bipush 6, 2) := by decide +kernel
theorem dX7_triedOf_70 : decode cX7_triedOf 70 = .ok (.invokevirtual 359, 3) := by decide +kernel
theorem dX7_triedOf_73 : decode cX7_triedOf 73 = .ok (.ireturn, 1) := by decide +kernel
theorem dX7_triedAll_0 : decode cX7_triedAll 0 = .ok (.aload_n 0, 1) := by decide +kernel
theorem dX7_triedAll_1 : decode cX7_triedAll 1 = .ok (.iload_n 1, 1) := by decide +kernel
theorem dX7_triedAll_2 : decode cX7_triedAll 2 = .ok (.iload_n 2, 1) := by decide +kernel
theorem dX7_triedAll_3 : decode cX7_triedAll 3 = .ok (.iload_n 3, 1) := by decide +kernel
theorem dX7_triedAll_4 : decode cX7_triedAll 4 = .ok (.invokevirtual 362, 3) := by decide +kernel
theorem dX7_triedAll_7 : decode cX7_triedAll 7 = .ok (.aload_n 0, 1) := by decide +kernel
theorem dX7_triedAll_8 : decode cX7_triedAll 8 = .ok (.invokevirtual 355, 3) := by decide +kernel
theorem dX7_triedAll_11 : decode cX7_triedAll 11 = .ok (.ifCond .eq 8, 3) := by decide +kernel
theorem dX7_triedAll_14 : decode cX7_triedAll 14 = .ok (.bipush (-2), 2) := by decide +kernel
theorem dX7_triedAll_16 : decode cX7_triedAll 16 = .ok (.goto 9, 3) := by decide +kernel
theorem dX7_triedAll_19 : decode cX7_triedAll 19 = .ok (.aload_n 0, 1) := by decide +kernel
theorem dX7_triedAll_20 : decode cX7_triedAll 20 = .ok (.iload 4, 2) := by decide +kernel
theorem dX7_triedAll_22 : decode cX7_triedAll 22 = .ok (.invokevirtual 365, 3) := by decide +kernel
theorem dX7_triedAll_25 : decode cX7_triedAll 25 = .ok (.istore 5, 2) := by decide +kernel
theorem dX7_triedAll_27 : decode cX7_triedAll 27 = .ok (.aload_n 0, 1) := by decide +kernel
theorem dX7_triedAll_28 : decode cX7_triedAll 28 = .ok (.invokevirtual 341, 3) := by decide +kernel
theorem dX7_triedAll_31 : decode cX7_triedAll 31 = .ok (.iload 5, 2) := by decide +kernel
theorem dX7_triedAll_33 : decode cX7_triedAll 33 = .ok (.ireturn, 1) := by decide +kernel
theorem dX7_tried_0 : decode cX7_tried 0 = .ok (.aload_n 0, 1) := by decide +kernel
theorem dX7_tried_1 : decode cX7_tried 1 = .ok (.invokevirtual 211, 3) := by decide +kernel
theorem dX7_tried_4 : decode cX7_tried 4 = .ok (.aload_n 0, 1) := by decide +kernel
theorem dX7_tried_5 : decode cX7_tried 5 = .ok (.iload 4, 2) := by decide +kernel
theorem dX7_tried_7 : decode cX7_tried 7 = .ok (.iconst 0, 1) := by decide +kernel
theorem dX7_tried_8 : decode cX7_tried 8 = .ok (.iconst 5, 1) := by decide +kernel
theorem dX7_tried_9 : decode cX7_tried 9 = .ok (.invokestatic 94, 3) := by decide +kernel
theorem dX7_tried_12 : decode cX7_tried 12 = .ok (.iload_n 1, 1) := by decide +kernel
theorem dX7_tried_13 : decode cX7_tried 13 = .ok (.iload_n 2, 1) := by decide +kernel
theorem dX7_tried_14 : decode cX7_tried 14 = .ok (.iload_n 3, 1) := by decide +kernel
theorem dX7_tried_15 : decode cX7_tried 15 = .ok (.invokevirtual 368, 3) := by decide +kernel
theorem dX7_tried_18 : decode cX7_tried 18 = .ok (.istore 5, 2) := by decide +kernel
theorem dX7_tried_20 : decode cX7_tried 20 = .ok (.iload 5, 2) := by decide +kernel
theorem dX7_tried_22 : decode cX7_tried 22 = .ok (.ifCond .eq 12, 3) := by decide +kernel
theorem dX7_tried_25 : decode cX7_tried 25 = .ok (.aload_n 0, 1) := by decide +kernel
theorem dX7_tried_26 : decode cX7_tried 26 = .ok (.iload 5, 2) := by decide +kernel
theorem dX7_tried_28 : decode cX7_tried 28 = .ok (.invokevirtual 214, 3) := by decide +kernel
theorem dX7_tried_31 : decode cX7_tried 31 = .ok (.goto 12, 3) := by decide +kernel
theorem dX7_tried_34 : decode cX7_tried 34 = .ok (.aload_n 0, 1) := by decide +kernel
theorem dX7_tried_35 : decode cX7_tried 35 = .ok (.iload_n 1, 1) := by decide +kernel
theorem dX7_tried_36 : decode cX7_tried 36 = .ok (.iload_n 2, 1) := by decide +kernel
theorem dX7_tried_37 : decode cX7_tried 37 = .ok (.iload_n 3, 1) := by decide +kernel
theorem dX7_tried_38 : decode cX7_tried 38 = .ok (.iload 4, 2) := by decide +kernel
theorem dX7_tried_40 : decode cX7_tried 40 = .ok (.invokevirtual 372, 3) := by decide +kernel
theorem dX7_tried_43 : decode cX7_tried 43 = .ok (.ireturn, 1) := by decide +kernel
theorem dX7_triedWord_0 : decode cX7_triedWord 0 = .ok (.aload_n 0, 1) := by decide +kernel
theorem dX7_triedWord_1 : decode cX7_triedWord 1 = .ok (.invokevirtual 211, 3) := by decide +kernel
theorem dX7_triedWord_4 : decode cX7_triedWord 4 = .ok (.aload_n 0, 1) := by decide +kernel
theorem dX7_triedWord_5 : decode cX7_triedWord 5 = .ok (.aload_n 0, 1) := by decide +kernel
theorem dX7_triedWord_6 : decode cX7_triedWord 6 = .ok (.iload 4, 2) := by decide +kernel
theorem dX7_triedWord_8 : decode cX7_triedWord 8 = .ok (.invokevirtual 311, 3) := by decide +kernel
theorem dX7_triedWord_11 : decode cX7_triedWord 11 = .ok (.iload_n 1, 1) := by decide +kernel
theorem dX7_triedWord_12 : decode cX7_triedWord 12 = .ok (.iload_n 2, 1) := by decide +kernel
theorem dX7_triedWord_13 : decode cX7_triedWord 13 = .ok (.iload_n 3, 1) := by decide +kernel
theorem dX7_triedWord_14 : decode cX7_triedWord 14 = .ok (.invokevirtual 368, 3) := by decide +kernel
theorem dX7_triedWord_17 : decode cX7_triedWord 17 = .ok (.istore 5, 2) := by decide +kernel
theorem dX7_triedWord_19 : decode cX7_triedWord 19 = .ok (.iload 5, 2) := by decide +kernel
theorem dX7_triedWord_21 : decode cX7_triedWord 21 = .ok (.ifCond .eq 10, 3) := by decide +kernel
theorem dX7_triedWord_24 : decode cX7_triedWord 24 = .ok (.aload_n 0, 1) := by decide +kernel
theorem dX7_triedWord_25 : decode cX7_triedWord 25 = .ok (.iload 5, 2) := by decide +kernel
theorem dX7_triedWord_27 : decode cX7_triedWord 27 = .ok (.invokevirtual 214, 3) := by decide +kernel
theorem dX7_triedWord_30 : decode cX7_triedWord 30 = .ok (.ireturn, 1) := by decide +kernel
theorem dX7_triedWord_31 : decode cX7_triedWord 31 = .ok (.aload_n 0, 1) := by decide +kernel
theorem dX7_triedWord_32 : decode cX7_triedWord 32 = .ok (.iload_n 1, 1) := by decide +kernel
theorem dX7_triedWord_33 : decode cX7_triedWord 33 = .ok (.iload_n 2, 1) := by decide +kernel
theorem dX7_triedWord_34 : decode cX7_triedWord 34 = .ok (.iload_n 3, 1) := by decide +kernel
theorem dX7_triedWord_35 : decode cX7_triedWord 35 = .ok (.invokevirtual 362, 3) := by decide +kernel
theorem dX7_triedWord_38 : decode cX7_triedWord 38 = .ok (.aload_n 0, 1) := by decide +kernel
theorem dX7_triedWord_39 : decode cX7_triedWord 39 = .ok (.iload 4, 2) := by decide +kernel
theorem dX7_triedWord_41 : decode cX7_triedWord 41 = .ok (.invokevirtual 314, 3) := by decide +kernel
theorem dX7_triedWord_44 : decode cX7_triedWord 44 = .ok (.istore 6, 2) := by decide +kernel
theorem dX7_triedWord_46 : decode cX7_triedWord 46 = .ok (.aload_n 0, 1) := by decide +kernel
theorem dX7_triedWord_47 : decode cX7_triedWord 47 = .ok (.invokevirtual 341, 3) := by decide +kernel
theorem dX7_triedWord_50 : decode cX7_triedWord 50 = .ok (.iload 6, 2) := by decide +kernel
theorem dX7_triedWord_52 : decode cX7_triedWord 52 = .ok (.ireturn, 1) := by decide +kernel
theorem dX7_best_0 : decode cX7_best 0 = .ok (.aload_n 0, 1) := by decide +kernel
theorem dX7_best_1 : decode cX7_best 1 = .ok (.invokevirtual 211, 3) := by decide +kernel
theorem dX7_best_4 : decode cX7_best 4 = .ok (.aload_n 0, 1) := by decide +kernel
theorem dX7_best_5 : decode cX7_best 5 = .ok (.getfield 226, 3) := by decide +kernel
theorem dX7_best_8 : decode cX7_best 8 = .ok (.ifCond .ne 9, 3) := by decide +kernel
theorem dX7_best_11 : decode cX7_best 11 = .ok (.aload_n 0, 1) := by decide +kernel
theorem dX7_best_12 : decode cX7_best 12 = .ok (.iconst 1, 1) := by decide +kernel
theorem dX7_best_13 : decode cX7_best 13 = .ok (.invokevirtual 214, 3) := by decide +kernel
theorem dX7_best_16 : decode cX7_best 16 = .ok (.ireturn, 1) := by decide +kernel
theorem dX7_best_17 : decode cX7_best 17 = .ok (.iload_n 1, 1) := by decide +kernel
theorem dX7_best_18 : decode cX7_best 18 = .ok (.invokestatic 349, 3) := by decide +kernel
theorem dX7_best_21 : decode cX7_best 21 = .ok (.ifCond .ne 9, 3) := by decide +kernel
theorem dX7_best_24 : decode cX7_best 24 = .ok (.aload_n 0, 1) := by decide +kernel
theorem dX7_best_25 : decode cX7_best 25 = .ok (.iconst 2, 1) := by decide +kernel
theorem dX7_best_26 : decode cX7_best 26 = .ok (.invokevirtual 214, 3) := by decide +kernel
theorem dX7_best_29 : decode cX7_best 29 = .ok (.ireturn, 1) := by decide +kernel
theorem dX7_best_30 : decode cX7_best 30 = .ok (.bipush (-2), 2) := by decide +kernel
theorem dX7_best_32 : decode cX7_best 32 = .ok (.istore_n 2, 1) := by decide +kernel
theorem dX7_best_33 : decode cX7_best 33 = .ok (.iconst 0, 1) := by decide +kernel
theorem dX7_best_34 : decode cX7_best 34 = .ok (.istore_n 3, 1) := by decide +kernel
theorem dX7_best_35 : decode cX7_best 35 = .ok (.iconst 0, 1) := by decide +kernel
theorem dX7_best_36 : decode cX7_best 36 = .ok (.istore 4, 2) := by decide +kernel
theorem dX7_best_38 : decode cX7_best 38 = .ok (.iload 4, 2) := by decide +kernel
theorem dX7_best_40 : decode cX7_best 40 = .ok (.iconst 3, 1) := by decide +kernel
theorem dX7_best_41 : decode cX7_best 41 = .ok (.if_icmp .ge 50, 3) := by decide +kernel
theorem dX7_best_44 : decode cX7_best 44 = .ok (.aload_n 0, 1) := by decide +kernel
theorem dX7_best_45 : decode cX7_best 45 = .ok (.iload 4, 2) := by decide +kernel
theorem dX7_best_47 : decode cX7_best 47 = .ok (.aload_n 0, 1) := by decide +kernel
theorem dX7_best_48 : decode cX7_best 48 = .ok (.getfield 17, 3) := by decide +kernel
theorem dX7_best_51 : decode cX7_best 51 = .ok (.iconst 4, 1) := by decide +kernel
theorem dX7_best_52 : decode cX7_best 52 = .ok (.iaload, 1) := by decide +kernel
theorem dX7_best_53 : decode cX7_best 53 = .ok (.iload_n 1, 1) := by decide +kernel
theorem dX7_best_54 : decode cX7_best 54 = .ok (.iconst 0, 1) := by decide +kernel
theorem dX7_best_55 : decode cX7_best 55 = .ok (.invokevirtual 372, 3) := by decide +kernel
theorem dX7_best_58 : decode cX7_best 58 = .ok (.istore 5, 2) := by decide +kernel
theorem dX7_best_60 : decode cX7_best 60 = .ok (.iload 5, 2) := by decide +kernel
theorem dX7_best_62 : decode cX7_best 62 = .ok (.bipush (-2), 2) := by decide +kernel
theorem dX7_best_64 : decode cX7_best 64 = .ok (.if_icmp .eq 21, 3) := by decide +kernel
theorem dX7_best_67 : decode cX7_best 67 = .ok (.iload_n 2, 1) := by decide +kernel
theorem dX7_best_68 : decode cX7_best 68 = .ok (.bipush (-2), 2) := by decide +kernel
theorem dX7_best_70 : decode cX7_best 70 = .ok (.if_icmp .eq 9, 3) := by decide +kernel
theorem dX7_best_73 : decode cX7_best 73 = .ok (.iload 5, 2) := by decide +kernel
theorem dX7_best_75 : decode cX7_best 75 = .ok (.iload_n 3, 1) := by decide +kernel
theorem dX7_best_76 : decode cX7_best 76 = .ok (.if_icmp .ge 9, 3) := by decide +kernel
theorem dX7_best_79 : decode cX7_best 79 = .ok (.iload 4, 2) := by decide +kernel
theorem dX7_best_81 : decode cX7_best 81 = .ok (.istore_n 2, 1) := by decide +kernel
theorem dX7_best_82 : decode cX7_best 82 = .ok (.iload 5, 2) := by decide +kernel
theorem dX7_best_84 : decode cX7_best 84 = .ok (.istore_n 3, 1) := by decide +kernel
theorem dX7_best_85 : decode cX7_best 85 = .ok (.iinc 4 1, 3) := by decide +kernel
theorem dX7_best_88 : decode cX7_best 88 = .ok (.goto (-50), 3) := by decide +kernel
theorem dX7_best_91 : decode cX7_best 91 = .ok (.iload_n 2, 1) := by decide +kernel
theorem dX7_best_92 : decode cX7_best 92 = .ok (.ireturn, 1) := by decide +kernel
theorem dX7_isEnough_0 : decode cX7_isEnough 0 = .ok (.aload_n 0, 1) := by decide +kernel
theorem dX7_isEnough_1 : decode cX7_isEnough 1 = .ok (.invokevirtual 235, 3) := by decide +kernel
theorem dX7_isEnough_4 : decode cX7_isEnough 4 = .ok (.aload_n 0, 1) := by decide +kernel
theorem dX7_isEnough_5 : decode cX7_isEnough 5 = .ok (.iload_n 2, 1) := by decide +kernel
theorem dX7_isEnough_6 : decode cX7_isEnough 6 = .ok (.putfield 242, 3) := by decide +kernel
theorem dX7_isEnough_9 : decode cX7_isEnough 9 = .ok (.aload_n 0, 1) := by decide +kernel
theorem dX7_isEnough_10 : decode cX7_isEnough 10 = .ok (.iload_n 1, 1) := by decide +kernel
theorem dX7_isEnough_11 : decode cX7_isEnough 11 = .ok (.invokevirtual 301, 3) := by decide +kernel
theorem dX7_isEnough_14 : decode cX7_isEnough 14 = .ok (.ifCond .eq 12, 3) := by decide +kernel
theorem dX7_isEnough_17 : decode cX7_isEnough 17 = .ok (.aload_n 0, 1) := by decide +kernel
theorem dX7_isEnough_18 : decode cX7_isEnough 18 = .ok (.iload_n 1, 1) := by decide +kernel
theorem dX7_isEnough_19 : decode cX7_isEnough 19 = .ok (.invokevirtual 338, 3) := by decide +kernel
theorem dX7_isEnough_22 : decode cX7_isEnough 22 = .ok (.pop, 1) := by decide +kernel
theorem dX7_isEnough_23 : decode cX7_isEnough 23 = .ok (.goto (-14), 3) := by decide +kernel
theorem dX7_isEnough_26 : decode cX7_isEnough 26 = .ok (.aload_n 0, 1) := by decide +kernel
theorem dX7_isEnough_27 : decode cX7_isEnough 27 = .ok (.getfield 53, 3) := by decide +kernel
theorem dX7_isEnough_30 : decode cX7_isEnough 30 = .ok (.iload_n 1, 1) := by decide +kernel
theorem dX7_isEnough_31 : decode cX7_isEnough 31 = .ok (.bipush 8, 2) := by decide +kernel
theorem dX7_isEnough_33 : decode cX7_isEnough 33 = .ok (.invokestatic 244, 3) := by decide +kernel
theorem dX7_isEnough_36 : decode cX7_isEnough 36 = .ok (.iaload, 1) := by decide +kernel
theorem dX7_isEnough_37 : decode cX7_isEnough 37 = .ok (.ifCond .ne 7, 3) := by decide +kernel
theorem dX7_isEnough_40 : decode cX7_isEnough 40 = .ok (.iconst 1, 1) := by decide +kernel
theorem dX7_isEnough_41 : decode cX7_isEnough 41 = .ok (.goto 4, 3) := by decide +kernel
theorem dX7_isEnough_44 : decode cX7_isEnough 44 = .ok (.iconst 0, 1) := by decide +kernel
theorem dX7_isEnough_45 : decode cX7_isEnough 45 = .ok (.ireturn, 1) := by decide +kernel
theorem dX7_waysFor_0 : decode cX7_waysFor 0 = .ok (.aload_n 0, 1) := by decide +kernel
theorem dX7_waysFor_1 : decode cX7_waysFor 1 = .ok (.invokevirtual 211, 3) := by decide +kernel
theorem dX7_waysFor_4 : decode cX7_waysFor 4 = .ok (.aload_n 0, 1) := by decide +kernel
theorem dX7_waysFor_5 : decode cX7_waysFor 5 = .ok (.iload_n 1, 1) := by decide +kernel
theorem dX7_waysFor_6 : decode cX7_waysFor 6 = .ok (.invokevirtual 308, 3) := by decide +kernel
theorem dX7_waysFor_9 : decode cX7_waysFor 9 = .ok (.ifCond .ne 9, 3) := by decide +kernel
theorem dX7_waysFor_12 : decode cX7_waysFor 12 = .ok (.aload_n 0, 1) := by decide +kernel
theorem dX7_waysFor_13 : decode cX7_waysFor 13 = .ok (.iconst 1, 1) := by decide +kernel
theorem dX7_waysFor_14 : decode cX7_waysFor 14 = .ok (.invokevirtual 214, 3) := by decide +kernel
theorem dX7_waysFor_17 : decode cX7_waysFor 17 = .ok (.ireturn, 1) := by decide +kernel
theorem dX7_waysFor_18 : decode cX7_waysFor 18 = .ok (.aload_n 0, 1) := by decide +kernel
theorem dX7_waysFor_19 : decode cX7_waysFor 19 = .ok (.invokevirtual 335, 3) := by decide +kernel
theorem dX7_waysFor_22 : decode cX7_waysFor 22 = .ok (.iconst 1, 1) := by decide +kernel
theorem dX7_waysFor_23 : decode cX7_waysFor 23 = .ok (.istore_n 2, 1) := by decide +kernel
theorem dX7_waysFor_24 : decode cX7_waysFor 24 = .ok (.aload_n 0, 1) := by decide +kernel
theorem dX7_waysFor_25 : decode cX7_waysFor 25 = .ok (.iload_n 1, 1) := by decide +kernel
theorem dX7_waysFor_26 : decode cX7_waysFor 26 = .ok (.iload_n 2, 1) := by decide +kernel
theorem dX7_waysFor_27 : decode cX7_waysFor 27 = .ok (.invokevirtual 376, 3) := by decide +kernel
theorem dX7_waysFor_30 : decode cX7_waysFor 30 = .ok (.ifCond .ne 9, 3) := by decide +kernel
theorem dX7_waysFor_33 : decode cX7_waysFor 33 = .ok (.iinc 2 1, 3) := by decide +kernel
theorem dX7_waysFor_36 : decode cX7_waysFor 36 = .ok (.goto (-12), 3) := by decide +kernel
theorem dX7_waysFor_39 : decode cX7_waysFor 39 = .ok (.aload_n 0, 1) := by decide +kernel
theorem dX7_waysFor_40 : decode cX7_waysFor 40 = .ok (.invokevirtual 341, 3) := by decide +kernel
theorem dX7_waysFor_43 : decode cX7_waysFor 43 = .ok (.iload_n 2, 1) := by decide +kernel
theorem dX7_waysFor_44 : decode cX7_waysFor 44 = .ok (.ireturn, 1) := by decide +kernel
theorem dX7_keep_0 : decode cX7_keep 0 = .ok (.aload_n 0, 1) := by decide +kernel
theorem dX7_keep_1 : decode cX7_keep 1 = .ok (.invokevirtual 211, 3) := by decide +kernel
theorem dX7_keep_4 : decode cX7_keep 4 = .ok (.aload_n 0, 1) := by decide +kernel
theorem dX7_keep_5 : decode cX7_keep 5 = .ok (.getfield 226, 3) := by decide +kernel
theorem dX7_keep_8 : decode cX7_keep 8 = .ok (.ifCond .ne 10, 3) := by decide +kernel
theorem dX7_keep_11 : decode cX7_keep 11 = .ok (.aload_n 0, 1) := by decide +kernel
theorem dX7_keep_12 : decode cX7_keep 12 = .ok (.iconst 1, 1) := by decide +kernel
theorem dX7_keep_13 : decode cX7_keep 13 = .ok (.putfield 68, 3) := by decide +kernel
theorem dX7_keep_16 : decode cX7_keep 16 = .ok (.iconst 0, 1) := by decide +kernel
theorem dX7_keep_17 : decode cX7_keep 17 = .ok (.ireturn, 1) := by decide +kernel
theorem dX7_keep_18 : decode cX7_keep 18 = .ok (.iconst 0, 1) := by decide +kernel
theorem dX7_keep_19 : decode cX7_keep 19 = .ok (.istore_n 1, 1) := by decide +kernel
theorem dX7_keep_20 : decode cX7_keep 20 = .ok (.iload_n 1, 1) := by decide +kernel
theorem dX7_keep_21 : decode cX7_keep 21 = .ok (.sipush 2766, 3) := by decide +kernel
theorem dX7_keep_24 : decode cX7_keep 24 = .ok (.if_icmp .ge 21, 3) := by decide +kernel
theorem dX7_keep_27 : decode cX7_keep 27 = .ok (.aload_n 0, 1) := by decide +kernel
theorem dX7_keep_28 : decode cX7_keep 28 = .ok (.getfield 59, 3) := by decide +kernel
theorem dX7_keep_31 : decode cX7_keep 31 = .ok (.iload_n 1, 1) := by decide +kernel
theorem dX7_keep_32 : decode cX7_keep 32 = .ok (.aload_n 0, 1) := by decide +kernel
theorem dX7_keep_33 : decode cX7_keep 33 = .ok (.getfield 53, 3) := by decide +kernel
theorem dX7_keep_36 : decode cX7_keep 36 = .ok (.iload_n 1, 1) := by decide +kernel
theorem dX7_keep_37 : decode cX7_keep 37 = .ok (.iaload, 1) := by decide +kernel
theorem dX7_keep_38 : decode cX7_keep 38 = .ok (.iastore, 1) := by decide +kernel
theorem dX7_keep_39 : decode cX7_keep 39 = .ok (.iinc 1 1, 3) := by decide +kernel
theorem dX7_keep_42 : decode cX7_keep 42 = .ok (.goto (-22), 3) := by decide +kernel
theorem dX7_keep_45 : decode cX7_keep 45 = .ok (.aload_n 0, 1) := by decide +kernel
theorem dX7_keep_46 : decode cX7_keep 46 = .ok (.iconst 1, 1) := by decide +kernel
theorem dX7_keep_47 : decode cX7_keep 47 = .ok (.putfield 229, 3) := by decide +kernel
theorem dX7_keep_50 : decode cX7_keep 50 = .ok (.iconst 1, 1) := by decide +kernel
theorem dX7_keep_51 : decode cX7_keep 51 = .ok (.ireturn, 1) := by decide +kernel
theorem dX7_back_0 : decode cX7_back 0 = .ok (.aload_n 0, 1) := by decide +kernel
theorem dX7_back_1 : decode cX7_back 1 = .ok (.invokevirtual 211, 3) := by decide +kernel
theorem dX7_back_4 : decode cX7_back 4 = .ok (.aload_n 0, 1) := by decide +kernel
theorem dX7_back_5 : decode cX7_back 5 = .ok (.getfield 229, 3) := by decide +kernel
theorem dX7_back_8 : decode cX7_back 8 = .ok (.ifCond .ne 10, 3) := by decide +kernel
theorem dX7_back_11 : decode cX7_back 11 = .ok (.aload_n 0, 1) := by decide +kernel
theorem dX7_back_12 : decode cX7_back 12 = .ok (.iconst 1, 1) := by decide +kernel
theorem dX7_back_13 : decode cX7_back 13 = .ok (.putfield 68, 3) := by decide +kernel
theorem dX7_back_16 : decode cX7_back 16 = .ok (.iconst 0, 1) := by decide +kernel
theorem dX7_back_17 : decode cX7_back 17 = .ok (.ireturn, 1) := by decide +kernel
theorem dX7_back_18 : decode cX7_back 18 = .ok (.iconst 0, 1) := by decide +kernel
theorem dX7_back_19 : decode cX7_back 19 = .ok (.istore_n 1, 1) := by decide +kernel
theorem dX7_back_20 : decode cX7_back 20 = .ok (.iload_n 1, 1) := by decide +kernel
theorem dX7_back_21 : decode cX7_back 21 = .ok (.sipush 2766, 3) := by decide +kernel
theorem dX7_back_24 : decode cX7_back 24 = .ok (.if_icmp .ge 21, 3) := by decide +kernel
theorem dX7_back_27 : decode cX7_back 27 = .ok (.aload_n 0, 1) := by decide +kernel
theorem dX7_back_28 : decode cX7_back 28 = .ok (.getfield 53, 3) := by decide +kernel
theorem dX7_back_31 : decode cX7_back 31 = .ok (.iload_n 1, 1) := by decide +kernel
theorem dX7_back_32 : decode cX7_back 32 = .ok (.aload_n 0, 1) := by decide +kernel
theorem dX7_back_33 : decode cX7_back 33 = .ok (.getfield 59, 3) := by decide +kernel
theorem dX7_back_36 : decode cX7_back 36 = .ok (.iload_n 1, 1) := by decide +kernel
theorem dX7_back_37 : decode cX7_back 37 = .ok (.iaload, 1) := by decide +kernel
theorem dX7_back_38 : decode cX7_back 38 = .ok (.iastore, 1) := by decide +kernel
theorem dX7_back_39 : decode cX7_back 39 = .ok (.iinc 1 1, 3) := by decide +kernel
theorem dX7_back_42 : decode cX7_back 42 = .ok (.goto (-22), 3) := by decide +kernel
theorem dX7_back_45 : decode cX7_back 45 = .ok (.iconst 1, 1) := by decide +kernel
theorem dX7_back_46 : decode cX7_back 46 = .ok (.ireturn, 1) := by decide +kernel
theorem dX7_done_0 : decode cX7_done 0 = .ok (.aload_n 0, 1) := by decide +kernel
theorem dX7_done_1 : decode cX7_done 1 = .ok (.iconst 0, 1) := by decide +kernel
theorem dX7_done_2 : decode cX7_done 2 = .ok (.putfield 65, 3) := by decide +kernel
theorem dX7_done_5 : decode cX7_done 5 = .ok (.iconst 0, 1) := by decide +kernel
theorem dX7_done_6 : decode cX7_done 6 = .ok (.istore_n 2, 1) := by decide +kernel
theorem dX7_done_7 : decode cX7_done 7 = .ok (.iconst 0, 1) := by decide +kernel
theorem dX7_done_8 : decode cX7_done 8 = .ok (.istore_n 3, 1) := by decide +kernel
theorem dX7_done_9 : decode cX7_done 9 = .ok (.aload_n 0, 1) := by decide +kernel
theorem dX7_done_10 : decode cX7_done 10 = .ok (.getfield 226, 3) := by decide +kernel
theorem dX7_done_13 : decode cX7_done 13 = .ok (.ifCond .eq 37, 3) := by decide +kernel
theorem dX7_done_16 : decode cX7_done 16 = .ok (.iload_n 3, 1) := by decide +kernel
theorem dX7_done_17 : decode cX7_done 17 = .ok (.aload_n 0, 1) := by decide +kernel
theorem dX7_done_18 : decode cX7_done 18 = .ok (.getfield 17, 3) := by decide +kernel
theorem dX7_done_21 : decode cX7_done 21 = .ok (.iconst 5, 1) := by decide +kernel
theorem dX7_done_22 : decode cX7_done 22 = .ok (.iaload, 1) := by decide +kernel
theorem dX7_done_23 : decode cX7_done 23 = .ok (.if_icmp .ge 27, 3) := by decide +kernel
theorem dX7_done_26 : decode cX7_done 26 = .ok (.aload_n 0, 1) := by decide +kernel
theorem dX7_done_27 : decode cX7_done 27 = .ok (.iload_n 3, 1) := by decide +kernel
theorem dX7_done_28 : decode cX7_done 28 = .ok (.invokevirtual 301, 3) := by decide +kernel
theorem dX7_done_31 : decode cX7_done 31 = .ok (.ifCond .ne 13, 3) := by decide +kernel
theorem dX7_done_34 : decode cX7_done 34 = .ok (.iload_n 2, 1) := by decide +kernel
theorem dX7_done_35 : decode cX7_done 35 = .ok (.iload_n 1, 1) := by decide +kernel
theorem dX7_done_36 : decode cX7_done 36 = .ok (.if_icmp .ne 5, 3) := by decide +kernel
theorem dX7_done_39 : decode cX7_done 39 = .ok (.iload_n 3, 1) := by decide +kernel
theorem dX7_done_40 : decode cX7_done 40 = .ok (.ireturn, 1) := by decide +kernel
theorem dX7_done_41 : decode cX7_done 41 = .ok (.iinc 2 1, 3) := by decide +kernel
theorem dX7_done_44 : decode cX7_done 44 = .ok (.iinc 3 1, 3) := by decide +kernel
theorem dX7_done_47 : decode cX7_done 47 = .ok (.goto (-38), 3) := by decide +kernel
theorem dX7_done_50 : decode cX7_done 50 = .ok (.aload_n 0, 1) := by decide +kernel
theorem dX7_done_51 : decode cX7_done 51 = .ok (.iconst 1, 1) := by decide +kernel
theorem dX7_done_52 : decode cX7_done 52 = .ok (.putfield 65, 3) := by decide +kernel
theorem dX7_done_55 : decode cX7_done 55 = .ok (.iconst 0, 1) := by decide +kernel
theorem dX7_done_56 : decode cX7_done 56 = .ok (.ireturn, 1) := by decide +kernel
theorem dX7_size_0 : decode cX7_size 0 = .ok (.aload_n 0, 1) := by decide +kernel
theorem dX7_size_1 : decode cX7_size 1 = .ok (.iconst 0, 1) := by decide +kernel
theorem dX7_size_2 : decode cX7_size 2 = .ok (.putfield 65, 3) := by decide +kernel
theorem dX7_size_5 : decode cX7_size 5 = .ok (.iconst 0, 1) := by decide +kernel
theorem dX7_size_6 : decode cX7_size 6 = .ok (.istore_n 2, 1) := by decide +kernel
theorem dX7_size_7 : decode cX7_size 7 = .ok (.iconst 0, 1) := by decide +kernel
theorem dX7_size_8 : decode cX7_size 8 = .ok (.istore_n 3, 1) := by decide +kernel
theorem dX7_size_9 : decode cX7_size 9 = .ok (.iload_n 3, 1) := by decide +kernel
theorem dX7_size_10 : decode cX7_size 10 = .ok (.iconst 4, 1) := by decide +kernel
theorem dX7_size_11 : decode cX7_size 11 = .ok (.if_icmp .ge 18, 3) := by decide +kernel
theorem dX7_size_14 : decode cX7_size 14 = .ok (.iload_n 2, 1) := by decide +kernel
theorem dX7_size_15 : decode cX7_size 15 = .ok (.aload_n 0, 1) := by decide +kernel
theorem dX7_size_16 : decode cX7_size 16 = .ok (.getfield 29, 3) := by decide +kernel
theorem dX7_size_19 : decode cX7_size 19 = .ok (.iload_n 3, 1) := by decide +kernel
theorem dX7_size_20 : decode cX7_size 20 = .ok (.iaload, 1) := by decide +kernel
theorem dX7_size_21 : decode cX7_size 21 = .ok (.iadd, 1) := by decide +kernel
theorem dX7_size_22 : decode cX7_size 22 = .ok (.istore_n 2, 1) := by decide +kernel
theorem dX7_size_23 : decode cX7_size 23 = .ok (.iinc 3 1, 3) := by decide +kernel
theorem dX7_size_26 : decode cX7_size 26 = .ok (.goto (-17), 3) := by decide +kernel
theorem dX7_size_29 : decode cX7_size 29 = .ok (.iload_n 1, 1) := by decide +kernel
theorem dX7_size_30 : decode cX7_size 30 = .ok (.tableswitch 55 0 3 #[30, 35, 40, 42], 30) := by decide +kernel
theorem dX7_size_60 : decode cX7_size 60 = .ok (.aload_n 0, 1) := by decide +kernel
theorem dX7_size_61 : decode cX7_size 61 = .ok (.getfield 71, 3) := by decide +kernel
theorem dX7_size_64 : decode cX7_size 64 = .ok (.ireturn, 1) := by decide +kernel
theorem dX7_size_65 : decode cX7_size 65 = .ok (.aload_n 0, 1) := by decide +kernel
theorem dX7_size_66 : decode cX7_size 66 = .ok (.getfield 223, 3) := by decide +kernel
theorem dX7_size_69 : decode cX7_size 69 = .ok (.ireturn, 1) := by decide +kernel
theorem dX7_size_70 : decode cX7_size 70 = .ok (.iload_n 2, 1) := by decide +kernel
theorem dX7_size_71 : decode cX7_size 71 = .ok (.ireturn, 1) := by decide +kernel
theorem dX7_size_72 : decode cX7_size 72 = .ok (.aload_n 0, 1) := by decide +kernel
theorem dX7_size_73 : decode cX7_size 73 = .ok (.getfield 229, 3) := by decide +kernel
theorem dX7_size_76 : decode cX7_size 76 = .ok (.ifCond .eq 7, 3) := by decide +kernel
theorem dX7_size_79 : decode cX7_size 79 = .ok (.iconst 1, 1) := by decide +kernel
theorem dX7_size_80 : decode cX7_size 80 = .ok (.goto 4, 3) := by decide +kernel
theorem dX7_size_83 : decode cX7_size 83 = .ok (.iconst 0, 1) := by decide +kernel
theorem dX7_size_84 : decode cX7_size 84 = .ok (.ireturn, 1) := by decide +kernel
theorem dX7_size_85 : decode cX7_size 85 = .ok (.iconst (-1), 1) := by decide +kernel
theorem dX7_size_86 : decode cX7_size 86 = .ok (.ireturn, 1) := by decide +kernel
theorem dX7_trouble_0 : decode cX7_trouble 0 = .ok (.aload_n 0, 1) := by decide +kernel
theorem dX7_trouble_1 : decode cX7_trouble 1 = .ok (.iconst 0, 1) := by decide +kernel
theorem dX7_trouble_2 : decode cX7_trouble 2 = .ok (.putfield 65, 3) := by decide +kernel
theorem dX7_trouble_5 : decode cX7_trouble 5 = .ok (.aload_n 0, 1) := by decide +kernel
theorem dX7_trouble_6 : decode cX7_trouble 6 = .ok (.getfield 68, 3) := by decide +kernel
theorem dX7_trouble_9 : decode cX7_trouble 9 = .ok (.ireturn, 1) := by decide +kernel
theorem dJ9_floorMod_7cf53_0 : decode cJ9_floorMod_7cf53 0 = .ok (.iload_n 0, 1) := by decide +kernel
theorem dJ9_floorMod_7cf53_1 : decode cJ9_floorMod_7cf53 1 = .ok (.iload_n 1, 1) := by decide +kernel
theorem dJ9_floorMod_7cf53_2 : decode cJ9_floorMod_7cf53 2 = .ok (.irem, 1) := by decide +kernel
theorem dJ9_floorMod_7cf53_3 : decode cJ9_floorMod_7cf53 3 = .ok (.istore_n 2, 1) := by decide +kernel
theorem dJ9_floorMod_7cf53_4 : decode cJ9_floorMod_7cf53 4 = .ok (.iload_n 0, 1) := by decide +kernel
theorem dJ9_floorMod_7cf53_5 : decode cJ9_floorMod_7cf53 5 = .ok (.iload_n 1, 1) := by decide +kernel
theorem dJ9_floorMod_7cf53_6 : decode cJ9_floorMod_7cf53 6 = .ok (.ixor, 1) := by decide +kernel
theorem dJ9_floorMod_7cf53_7 : decode cJ9_floorMod_7cf53 7 = .ok (.ifCond .ge 11, 3) := by decide +kernel
theorem dJ9_floorMod_7cf53_10 : decode cJ9_floorMod_7cf53 10 = .ok (.iload_n 2, 1) := by decide +kernel
theorem dJ9_floorMod_7cf53_11 : decode cJ9_floorMod_7cf53 11 = .ok (.ifCond .eq 7, 3) := by decide +kernel
theorem dJ9_floorMod_7cf53_14 : decode cJ9_floorMod_7cf53 14 = .ok (.iload_n 2, 1) := by decide +kernel
theorem dJ9_floorMod_7cf53_15 : decode cJ9_floorMod_7cf53 15 = .ok (.iload_n 1, 1) := by decide +kernel
theorem dJ9_floorMod_7cf53_16 : decode cJ9_floorMod_7cf53 16 = .ok (.iadd, 1) := by decide +kernel
theorem dJ9_floorMod_7cf53_17 : decode cJ9_floorMod_7cf53 17 = .ok (.ireturn, 1) := by decide +kernel
theorem dJ9_floorMod_7cf53_18 : decode cJ9_floorMod_7cf53 18 = .ok (.iload_n 2, 1) := by decide +kernel
theorem dJ9_floorMod_7cf53_19 : decode cJ9_floorMod_7cf53 19 = .ok (.ireturn, 1) := by decide +kernel
theorem dJ9_max_7cf53_0 : decode cJ9_max_7cf53 0 = .ok (.iload_n 0, 1) := by decide +kernel
theorem dJ9_max_7cf53_1 : decode cJ9_max_7cf53 1 = .ok (.iload_n 1, 1) := by decide +kernel
theorem dJ9_max_7cf53_2 : decode cJ9_max_7cf53 2 = .ok (.if_icmp .lt 7, 3) := by decide +kernel
theorem dJ9_max_7cf53_5 : decode cJ9_max_7cf53 5 = .ok (.iload_n 0, 1) := by decide +kernel
theorem dJ9_max_7cf53_6 : decode cJ9_max_7cf53 6 = .ok (.goto 4, 3) := by decide +kernel
theorem dJ9_max_7cf53_9 : decode cJ9_max_7cf53 9 = .ok (.iload_n 1, 1) := by decide +kernel
theorem dJ9_max_7cf53_10 : decode cJ9_max_7cf53 10 = .ok (.ireturn, 1) := by decide +kernel
theorem dJ9_min_7cf53_0 : decode cJ9_min_7cf53 0 = .ok (.iload_n 0, 1) := by decide +kernel
theorem dJ9_min_7cf53_1 : decode cJ9_min_7cf53 1 = .ok (.iload_n 1, 1) := by decide +kernel
theorem dJ9_min_7cf53_2 : decode cJ9_min_7cf53 2 = .ok (.if_icmp .gt 7, 3) := by decide +kernel
theorem dJ9_min_7cf53_5 : decode cJ9_min_7cf53 5 = .ok (.iload_n 0, 1) := by decide +kernel
theorem dJ9_min_7cf53_6 : decode cJ9_min_7cf53 6 = .ok (.goto 4, 3) := by decide +kernel
theorem dJ9_min_7cf53_9 : decode cJ9_min_7cf53 9 = .ok (.iload_n 1, 1) := by decide +kernel
theorem dJ9_min_7cf53_10 : decode cJ9_min_7cf53 10 = .ok (.ireturn, 1) := by decide +kernel
theorem dJ0_length_8abf5_0 : decode cJ0_length_8abf5 0 = .ok (.aload_n 0, 1) := by decide +kernel
theorem dJ0_length_8abf5_1 : decode cJ0_length_8abf5 1 = .ok (.getfield 9, 3) := by decide +kernel
theorem dJ0_length_8abf5_4 : decode cJ0_length_8abf5 4 = .ok (.arraylength, 1) := by decide +kernel
theorem dJ0_length_8abf5_5 : decode cJ0_length_8abf5 5 = .ok (.aload_n 0, 1) := by decide +kernel
theorem dJ0_length_8abf5_6 : decode cJ0_length_8abf5 6 = .ok (.invokevirtual 335, 3) := by decide +kernel
theorem dJ0_length_8abf5_9 : decode cJ0_length_8abf5 9 = .ok (.ishr, 1) := by decide +kernel
theorem dJ0_length_8abf5_10 : decode cJ0_length_8abf5 10 = .ok (.ireturn, 1) := by decide +kernel
theorem dJ0_charAt_5068e_0 : decode cJ0_charAt_5068e 0 = .ok (.aload_n 0, 1) := by decide +kernel
theorem dJ0_charAt_5068e_1 : decode cJ0_charAt_5068e 1 = .ok (.invokevirtual 492, 3) := by decide +kernel
theorem dJ0_charAt_5068e_4 : decode cJ0_charAt_5068e 4 = .ok (.ifCond .eq 12, 3) := by decide +kernel
theorem dJ0_charAt_5068e_7 : decode cJ0_charAt_5068e 7 = .ok (.aload_n 0, 1) := by decide +kernel
theorem dJ0_charAt_5068e_8 : decode cJ0_charAt_5068e 8 = .ok (.getfield 9, 3) := by decide +kernel
theorem dJ0_charAt_5068e_11 : decode cJ0_charAt_5068e 11 = .ok (.iload_n 1, 1) := by decide +kernel
theorem dJ0_charAt_5068e_12 : decode cJ0_charAt_5068e 12 = .ok (.invokestatic 495, 3) := by decide +kernel
theorem dJ0_charAt_5068e_15 : decode cJ0_charAt_5068e 15 = .ok (.ireturn, 1) := by decide +kernel
theorem dJ0_charAt_5068e_16 : decode cJ0_charAt_5068e 16 = .ok (.aload_n 0, 1) := by decide +kernel
theorem dJ0_charAt_5068e_17 : decode cJ0_charAt_5068e 17 = .ok (.getfield 9, 3) := by decide +kernel
theorem dJ0_charAt_5068e_20 : decode cJ0_charAt_5068e 20 = .ok (.iload_n 1, 1) := by decide +kernel
theorem dJ0_charAt_5068e_21 : decode cJ0_charAt_5068e 21 = .ok (.invokestatic 498, 3) := by decide +kernel
theorem dJ0_charAt_5068e_24 : decode cJ0_charAt_5068e 24 = .ok (.ireturn, 1) := by decide +kernel
theorem dJ0_coder_7d493_0 : decode cJ0_coder_7d493 0 = .ok (.getstatic 38, 3) := by decide +kernel
theorem dJ0_coder_7d493_3 : decode cJ0_coder_7d493 3 = .ok (.ifCond .eq 10, 3) := by decide +kernel
theorem dJ0_coder_7d493_6 : decode cJ0_coder_7d493 6 = .ok (.aload_n 0, 1) := by decide +kernel
theorem dJ0_coder_7d493_7 : decode cJ0_coder_7d493 7 = .ok (.getfield 15, 3) := by decide +kernel
theorem dJ0_coder_7d493_10 : decode cJ0_coder_7d493 10 = .ok (.goto 4, 3) := by decide +kernel
theorem dJ0_coder_7d493_13 : decode cJ0_coder_7d493 13 = .ok (.iconst 1, 1) := by decide +kernel
theorem dJ0_coder_7d493_14 : decode cJ0_coder_7d493 14 = .ok (.ireturn, 1) := by decide +kernel
theorem dJ0_isLatin1_aae02_0 : decode cJ0_isLatin1_aae02 0 = .ok (.getstatic 38, 3) := by decide +kernel
theorem dJ0_isLatin1_aae02_3 : decode cJ0_isLatin1_aae02 3 = .ok (.ifCond .eq 14, 3) := by decide +kernel
theorem dJ0_isLatin1_aae02_6 : decode cJ0_isLatin1_aae02 6 = .ok (.aload_n 0, 1) := by decide +kernel
theorem dJ0_isLatin1_aae02_7 : decode cJ0_isLatin1_aae02 7 = .ok (.getfield 15, 3) := by decide +kernel
theorem dJ0_isLatin1_aae02_10 : decode cJ0_isLatin1_aae02 10 = .ok (.ifCond .ne 7, 3) := by decide +kernel
theorem dJ0_isLatin1_aae02_13 : decode cJ0_isLatin1_aae02 13 = .ok (.iconst 1, 1) := by decide +kernel
theorem dJ0_isLatin1_aae02_14 : decode cJ0_isLatin1_aae02 14 = .ok (.goto 4, 3) := by decide +kernel
theorem dJ0_isLatin1_aae02_17 : decode cJ0_isLatin1_aae02 17 = .ok (.iconst 0, 1) := by decide +kernel
theorem dJ0_isLatin1_aae02_18 : decode cJ0_isLatin1_aae02 18 = .ok (.ireturn, 1) := by decide +kernel
theorem dJ0_checkIndex_df160_0 : decode cJ0_checkIndex_df160 0 = .ok (.iload_n 0, 1) := by decide +kernel
theorem dJ0_checkIndex_df160_1 : decode cJ0_checkIndex_df160 1 = .ok (.iload_n 1, 1) := by decide +kernel
theorem dJ0_checkIndex_df160_2 : decode cJ0_checkIndex_df160 2 = .ok (.getstatic 1053, 3) := by decide +kernel
theorem dJ0_checkIndex_df160_5 : decode cJ0_checkIndex_df160 5 = .ok (.invokestatic 1059, 3) := by decide +kernel
theorem dJ0_checkIndex_df160_8 : decode cJ0_checkIndex_df160 8 = .ok (.pop, 1) := by decide +kernel
theorem dJ0_checkIndex_df160_9 : decode cJ0_checkIndex_df160 9 = .ok (.return_, 1) := by decide +kernel
theorem dJ1_charAt_3b067_0 : decode cJ1_charAt_3b067 0 = .ok (.iload_n 1, 1) := by decide +kernel
theorem dJ1_charAt_3b067_1 : decode cJ1_charAt_3b067 1 = .ok (.aload_n 0, 1) := by decide +kernel
theorem dJ1_charAt_3b067_2 : decode cJ1_charAt_3b067 2 = .ok (.arraylength, 1) := by decide +kernel
theorem dJ1_charAt_3b067_3 : decode cJ1_charAt_3b067 3 = .ok (.invokestatic 9, 3) := by decide +kernel
theorem dJ1_charAt_3b067_6 : decode cJ1_charAt_3b067 6 = .ok (.aload_n 0, 1) := by decide +kernel
theorem dJ1_charAt_3b067_7 : decode cJ1_charAt_3b067 7 = .ok (.iload_n 1, 1) := by decide +kernel
theorem dJ1_charAt_3b067_8 : decode cJ1_charAt_3b067 8 = .ok (.baload, 1) := by decide +kernel
theorem dJ1_charAt_3b067_9 : decode cJ1_charAt_3b067 9 = .ok (.sipush 255, 3) := by decide +kernel
theorem dJ1_charAt_3b067_12 : decode cJ1_charAt_3b067 12 = .ok (.iand, 1) := by decide +kernel
theorem dJ1_charAt_3b067_13 : decode cJ1_charAt_3b067 13 = .ok (.i2c, 1) := by decide +kernel
theorem dJ1_charAt_3b067_14 : decode cJ1_charAt_3b067 14 = .ok (.ireturn, 1) := by decide +kernel
theorem dJ3_checkIndex_8e157_0 : decode cJ3_checkIndex_8e157 0 = .ok (.iload_n 0, 1) := by decide +kernel
theorem dJ3_checkIndex_8e157_1 : decode cJ3_checkIndex_8e157 1 = .ok (.ifCond .lt 8, 3) := by decide +kernel
theorem dJ3_checkIndex_8e157_4 : decode cJ3_checkIndex_8e157 4 = .ok (.iload_n 0, 1) := by decide +kernel
theorem dJ3_checkIndex_8e157_5 : decode cJ3_checkIndex_8e157 5 = .ok (.iload_n 1, 1) := by decide +kernel
theorem dJ3_checkIndex_8e157_6 : decode cJ3_checkIndex_8e157 6 = .ok (.if_icmp .lt 10, 3) := by decide +kernel
theorem dJ3_checkIndex_8e157_9 : decode cJ3_checkIndex_8e157 9 = .ok (.aload_n 2, 1) := by decide +kernel
theorem dJ3_checkIndex_8e157_10 : decode cJ3_checkIndex_8e157 10 = .ok (.iload_n 0, 1) := by decide +kernel
theorem dJ3_checkIndex_8e157_11 : decode cJ3_checkIndex_8e157 11 = .ok (.iload_n 1, 1) := by decide +kernel
theorem dJ3_checkIndex_8e157_12 : decode cJ3_checkIndex_8e157 12 = .ok (.invokestatic 95, 3) := by decide +kernel
theorem dJ3_checkIndex_8e157_15 : decode cJ3_checkIndex_8e157 15 = .ok (.athrow, 1) := by decide +kernel
theorem dJ3_checkIndex_8e157_16 : decode cJ3_checkIndex_8e157 16 = .ok (.iload_n 0, 1) := by decide +kernel
theorem dJ3_checkIndex_8e157_17 : decode cJ3_checkIndex_8e157 17 = .ok (.ireturn, 1) := by decide +kernel
theorem dL_done_0 : decode cL_done 0 = .ok (.aload_n 2, 1) := by decide +kernel
theorem dL_done_1 : decode cL_done 1 = .ok (.iconst 0, 1) := by decide +kernel
theorem dL_done_2 : decode cL_done 2 = .ok (.aload_n 0, 1) := by decide +kernel
theorem dL_done_3 : decode cL_done 3 = .ok (.iload_n 1, 1) := by decide +kernel
theorem dL_done_4 : decode cL_done 4 = .ok (.invokevirtual 7, 3) := by decide +kernel
theorem dL_done_7 : decode cL_done 7 = .ok (.i2l, 1) := by decide +kernel
theorem dL_done_8 : decode cL_done 8 = .ok (.lastore, 1) := by decide +kernel
theorem dL_done_9 : decode cL_done 9 = .ok (.goto 6, 3) := by decide +kernel
theorem dL_done_12 : decode cL_done 12 = .ok (.astore_n 3, 1) := by decide +kernel
theorem dL_done_13 : decode cL_done 13 = .ok (.iconst 1, 1) := by decide +kernel
theorem dL_done_14 : decode cL_done 14 = .ok (.ireturn, 1) := by decide +kernel
theorem dL_done_15 : decode cL_done 15 = .ok (.iconst 0, 1) := by decide +kernel
theorem dL_done_16 : decode cL_done 16 = .ok (.ireturn, 1) := by decide +kernel
theorem dL_law_0 : decode cL_law 0 = .ok (.new 8, 3) := by decide +kernel
theorem dL_law_3 : decode cL_law 3 = .ok (.dup, 1) := by decide +kernel
theorem dL_law_4 : decode cL_law 4 = .ok (.invokespecial 15, 3) := by decide +kernel
theorem dL_law_7 : decode cL_law 7 = .ok (.astore_n 1, 1) := by decide +kernel
theorem dL_law_8 : decode cL_law 8 = .ok (.new 16, 3) := by decide +kernel
theorem dL_law_11 : decode cL_law 11 = .ok (.dup, 1) := by decide +kernel
theorem dL_law_12 : decode cL_law 12 = .ok (.invokespecial 18, 3) := by decide +kernel
theorem dL_law_15 : decode cL_law 15 = .ok (.astore_n 2, 1) := by decide +kernel
theorem dL_law_16 : decode cL_law 16 = .ok (.iconst 1, 1) := by decide +kernel
theorem dL_law_17 : decode cL_law 17 = .ok (.newarray .long, 2) := by decide +kernel
theorem dL_law_19 : decode cL_law 19 = .ok (.astore_n 3, 1) := by decide +kernel
theorem dL_law_20 : decode cL_law 20 = .ok (.iconst 0, 1) := by decide +kernel
theorem dL_law_21 : decode cL_law 21 = .ok (.istore 4, 2) := by decide +kernel
theorem dL_law_23 : decode cL_law 23 = .ok (.iload 4, 2) := by decide +kernel
theorem dL_law_25 : decode cL_law 25 = .ok (.aload_n 0, 1) := by decide +kernel
theorem dL_law_26 : decode cL_law 26 = .ok (.arraylength, 1) := by decide +kernel
theorem dL_law_27 : decode cL_law 27 = .ok (.bipush 6, 2) := by decide +kernel
theorem dL_law_29 : decode cL_law 29 = .ok (.isub, 1) := by decide +kernel
theorem dL_law_30 : decode cL_law 30 = .ok (.if_icmp .gt 1316, 3) := by decide +kernel
theorem dL_law_33 : decode cL_law 33 = .ok (.aload_n 0, 1) := by decide +kernel
theorem dL_law_34 : decode cL_law 34 = .ok (.iload 4, 2) := by decide +kernel
theorem dL_law_36 : decode cL_law 36 = .ok (.iaload, 1) := by decide +kernel
theorem dL_law_37 : decode cL_law 37 = .ok (.bipush 63, 2) := by decide +kernel
theorem dL_law_39 : decode cL_law 39 = .ok (.iand, 1) := by decide +kernel
theorem dL_law_40 : decode cL_law 40 = .ok (.tableswitch 1300 0 36 #[164, 237, 262, 275, 288, 313, 362, 387, 412, 437, 450, 463, 500, 561, 598, 623, 648, 673, 698, 735, 772, 809, 846, 871, 896, 921, 946, 983, 1008, 1069, 1130, 1155, 1180, 1193, 1206, 1262, 1287], 164) := by decide +kernel
theorem dL_law_204 : decode cL_law 204 = .ok (.aload_n 1, 1) := by decide +kernel
theorem dL_law_205 : decode cL_law 205 = .ok (.aload_n 0, 1) := by decide +kernel
theorem dL_law_206 : decode cL_law 206 = .ok (.iload 4, 2) := by decide +kernel
theorem dL_law_208 : decode cL_law 208 = .ok (.iconst 1, 1) := by decide +kernel
theorem dL_law_209 : decode cL_law 209 = .ok (.iadd, 1) := by decide +kernel
theorem dL_law_210 : decode cL_law 210 = .ok (.iaload, 1) := by decide +kernel
theorem dL_law_211 : decode cL_law 211 = .ok (.aload_n 0, 1) := by decide +kernel
theorem dL_law_212 : decode cL_law 212 = .ok (.iload 4, 2) := by decide +kernel
theorem dL_law_214 : decode cL_law 214 = .ok (.iconst 2, 1) := by decide +kernel
theorem dL_law_215 : decode cL_law 215 = .ok (.iadd, 1) := by decide +kernel
theorem dL_law_216 : decode cL_law 216 = .ok (.iaload, 1) := by decide +kernel
theorem dL_law_217 : decode cL_law 217 = .ok (.aload_n 0, 1) := by decide +kernel
theorem dL_law_218 : decode cL_law 218 = .ok (.iload 4, 2) := by decide +kernel
theorem dL_law_220 : decode cL_law 220 = .ok (.iconst 3, 1) := by decide +kernel
theorem dL_law_221 : decode cL_law 221 = .ok (.iadd, 1) := by decide +kernel
theorem dL_law_222 : decode cL_law 222 = .ok (.iaload, 1) := by decide +kernel
theorem dL_law_223 : decode cL_law 223 = .ok (.aload_n 0, 1) := by decide +kernel
theorem dL_law_224 : decode cL_law 224 = .ok (.iload 4, 2) := by decide +kernel
theorem dL_law_226 : decode cL_law 226 = .ok (.iconst 4, 1) := by decide +kernel
theorem dL_law_227 : decode cL_law 227 = .ok (.iadd, 1) := by decide +kernel
theorem dL_law_228 : decode cL_law 228 = .ok (.iaload, 1) := by decide +kernel
theorem dL_law_229 : decode cL_law 229 = .ok (.aload_n 0, 1) := by decide +kernel
theorem dL_law_230 : decode cL_law 230 = .ok (.iload 4, 2) := by decide +kernel
theorem dL_law_232 : decode cL_law 232 = .ok (.iconst 5, 1) := by decide +kernel
theorem dL_law_233 : decode cL_law 233 = .ok (.iadd, 1) := by decide +kernel
theorem dL_law_234 : decode cL_law 234 = .ok (.iaload, 1) := by decide +kernel
theorem dL_law_235 : decode cL_law 235 = .ok (.invokevirtual 19, 3) := by decide +kernel
theorem dL_law_238 : decode cL_law 238 = .ok (.aload_n 2, 1) := by decide +kernel
theorem dL_law_239 : decode cL_law 239 = .ok (.aload_n 0, 1) := by decide +kernel
theorem dL_law_240 : decode cL_law 240 = .ok (.iload 4, 2) := by decide +kernel
theorem dL_law_242 : decode cL_law 242 = .ok (.iconst 1, 1) := by decide +kernel
theorem dL_law_243 : decode cL_law 243 = .ok (.iadd, 1) := by decide +kernel
theorem dL_law_244 : decode cL_law 244 = .ok (.iaload, 1) := by decide +kernel
theorem dL_law_245 : decode cL_law 245 = .ok (.aload_n 0, 1) := by decide +kernel
theorem dL_law_246 : decode cL_law 246 = .ok (.iload 4, 2) := by decide +kernel
theorem dL_law_248 : decode cL_law 248 = .ok (.iconst 2, 1) := by decide +kernel
theorem dL_law_249 : decode cL_law 249 = .ok (.iadd, 1) := by decide +kernel
theorem dL_law_250 : decode cL_law 250 = .ok (.iaload, 1) := by decide +kernel
theorem dL_law_251 : decode cL_law 251 = .ok (.aload_n 0, 1) := by decide +kernel
theorem dL_law_252 : decode cL_law 252 = .ok (.iload 4, 2) := by decide +kernel
theorem dL_law_254 : decode cL_law 254 = .ok (.iconst 3, 1) := by decide +kernel
theorem dL_law_255 : decode cL_law 255 = .ok (.iadd, 1) := by decide +kernel
theorem dL_law_256 : decode cL_law 256 = .ok (.iaload, 1) := by decide +kernel
theorem dL_law_257 : decode cL_law 257 = .ok (.aload_n 0, 1) := by decide +kernel
theorem dL_law_258 : decode cL_law 258 = .ok (.iload 4, 2) := by decide +kernel
theorem dL_law_260 : decode cL_law 260 = .ok (.iconst 4, 1) := by decide +kernel
theorem dL_law_261 : decode cL_law 261 = .ok (.iadd, 1) := by decide +kernel
theorem dL_law_262 : decode cL_law 262 = .ok (.iaload, 1) := by decide +kernel
theorem dL_law_263 : decode cL_law 263 = .ok (.aload_n 0, 1) := by decide +kernel
theorem dL_law_264 : decode cL_law 264 = .ok (.iload 4, 2) := by decide +kernel
theorem dL_law_266 : decode cL_law 266 = .ok (.iconst 5, 1) := by decide +kernel
theorem dL_law_267 : decode cL_law 267 = .ok (.iadd, 1) := by decide +kernel
theorem dL_law_268 : decode cL_law 268 = .ok (.iaload, 1) := by decide +kernel
theorem dL_law_269 : decode cL_law 269 = .ok (.invokevirtual 23, 3) := by decide +kernel
theorem dL_law_272 : decode cL_law 272 = .ok (.if_icmp .eq 1068, 3) := by decide +kernel
theorem dL_law_275 : decode cL_law 275 = .ok (.iconst 0, 1) := by decide +kernel
theorem dL_law_276 : decode cL_law 276 = .ok (.ireturn, 1) := by decide +kernel
theorem dL_law_277 : decode cL_law 277 = .ok (.aload_n 1, 1) := by decide +kernel
theorem dL_law_278 : decode cL_law 278 = .ok (.aload_n 0, 1) := by decide +kernel
theorem dL_law_279 : decode cL_law 279 = .ok (.iload 4, 2) := by decide +kernel
theorem dL_law_281 : decode cL_law 281 = .ok (.iconst 1, 1) := by decide +kernel
theorem dL_law_282 : decode cL_law 282 = .ok (.iadd, 1) := by decide +kernel
theorem dL_law_283 : decode cL_law 283 = .ok (.iaload, 1) := by decide +kernel
theorem dL_law_284 : decode cL_law 284 = .ok (.invokevirtual 24, 3) := by decide +kernel
theorem dL_law_287 : decode cL_law 287 = .ok (.aload_n 2, 1) := by decide +kernel
theorem dL_law_288 : decode cL_law 288 = .ok (.aload_n 0, 1) := by decide +kernel
theorem dL_law_289 : decode cL_law 289 = .ok (.iload 4, 2) := by decide +kernel
theorem dL_law_291 : decode cL_law 291 = .ok (.iconst 1, 1) := by decide +kernel
theorem dL_law_292 : decode cL_law 292 = .ok (.iadd, 1) := by decide +kernel
theorem dL_law_293 : decode cL_law 293 = .ok (.iaload, 1) := by decide +kernel
theorem dL_law_294 : decode cL_law 294 = .ok (.invokevirtual 27, 3) := by decide +kernel
theorem dL_law_297 : decode cL_law 297 = .ok (.if_icmp .eq 1043, 3) := by decide +kernel
theorem dL_law_300 : decode cL_law 300 = .ok (.iconst 0, 1) := by decide +kernel
theorem dL_law_301 : decode cL_law 301 = .ok (.ireturn, 1) := by decide +kernel
theorem dL_law_302 : decode cL_law 302 = .ok (.aload_n 1, 1) := by decide +kernel
theorem dL_law_303 : decode cL_law 303 = .ok (.invokevirtual 28, 3) := by decide +kernel
theorem dL_law_306 : decode cL_law 306 = .ok (.aload_n 2, 1) := by decide +kernel
theorem dL_law_307 : decode cL_law 307 = .ok (.invokevirtual 32, 3) := by decide +kernel
theorem dL_law_310 : decode cL_law 310 = .ok (.if_icmp .eq 1030, 3) := by decide +kernel
theorem dL_law_313 : decode cL_law 313 = .ok (.iconst 0, 1) := by decide +kernel
theorem dL_law_314 : decode cL_law 314 = .ok (.ireturn, 1) := by decide +kernel
theorem dL_law_315 : decode cL_law 315 = .ok (.aload_n 1, 1) := by decide +kernel
theorem dL_law_316 : decode cL_law 316 = .ok (.invokevirtual 33, 3) := by decide +kernel
theorem dL_law_319 : decode cL_law 319 = .ok (.aload_n 2, 1) := by decide +kernel
theorem dL_law_320 : decode cL_law 320 = .ok (.invokevirtual 36, 3) := by decide +kernel
theorem dL_law_323 : decode cL_law 323 = .ok (.if_icmp .eq 1017, 3) := by decide +kernel
theorem dL_law_326 : decode cL_law 326 = .ok (.iconst 0, 1) := by decide +kernel
theorem dL_law_327 : decode cL_law 327 = .ok (.ireturn, 1) := by decide +kernel
theorem dL_law_328 : decode cL_law 328 = .ok (.aload_n 1, 1) := by decide +kernel
theorem dL_law_329 : decode cL_law 329 = .ok (.aload_n 0, 1) := by decide +kernel
theorem dL_law_330 : decode cL_law 330 = .ok (.iload 4, 2) := by decide +kernel
theorem dL_law_332 : decode cL_law 332 = .ok (.iconst 1, 1) := by decide +kernel
theorem dL_law_333 : decode cL_law 333 = .ok (.iadd, 1) := by decide +kernel
theorem dL_law_334 : decode cL_law 334 = .ok (.iaload, 1) := by decide +kernel
theorem dL_law_335 : decode cL_law 335 = .ok (.invokevirtual 37, 3) := by decide +kernel
theorem dL_law_338 : decode cL_law 338 = .ok (.aload_n 2, 1) := by decide +kernel
theorem dL_law_339 : decode cL_law 339 = .ok (.aload_n 0, 1) := by decide +kernel
theorem dL_law_340 : decode cL_law 340 = .ok (.iload 4, 2) := by decide +kernel
theorem dL_law_342 : decode cL_law 342 = .ok (.iconst 1, 1) := by decide +kernel
theorem dL_law_343 : decode cL_law 343 = .ok (.iadd, 1) := by decide +kernel
theorem dL_law_344 : decode cL_law 344 = .ok (.iaload, 1) := by decide +kernel
theorem dL_law_345 : decode cL_law 345 = .ok (.invokevirtual 40, 3) := by decide +kernel
theorem dL_law_348 : decode cL_law 348 = .ok (.if_icmp .eq 992, 3) := by decide +kernel
theorem dL_law_351 : decode cL_law 351 = .ok (.iconst 0, 1) := by decide +kernel
theorem dL_law_352 : decode cL_law 352 = .ok (.ireturn, 1) := by decide +kernel
theorem dL_law_353 : decode cL_law 353 = .ok (.aload_n 1, 1) := by decide +kernel
theorem dL_law_354 : decode cL_law 354 = .ok (.aload_n 0, 1) := by decide +kernel
theorem dL_law_355 : decode cL_law 355 = .ok (.iload 4, 2) := by decide +kernel
theorem dL_law_357 : decode cL_law 357 = .ok (.iconst 1, 1) := by decide +kernel
theorem dL_law_358 : decode cL_law 358 = .ok (.iadd, 1) := by decide +kernel
theorem dL_law_359 : decode cL_law 359 = .ok (.iaload, 1) := by decide +kernel
theorem dL_law_360 : decode cL_law 360 = .ok (.aload_n 0, 1) := by decide +kernel
theorem dL_law_361 : decode cL_law 361 = .ok (.iload 4, 2) := by decide +kernel
theorem dL_law_363 : decode cL_law 363 = .ok (.iconst 2, 1) := by decide +kernel
theorem dL_law_364 : decode cL_law 364 = .ok (.iadd, 1) := by decide +kernel
theorem dL_law_365 : decode cL_law 365 = .ok (.iaload, 1) := by decide +kernel
theorem dL_law_366 : decode cL_law 366 = .ok (.aload_n 0, 1) := by decide +kernel
theorem dL_law_367 : decode cL_law 367 = .ok (.iload 4, 2) := by decide +kernel
theorem dL_law_369 : decode cL_law 369 = .ok (.iconst 3, 1) := by decide +kernel
theorem dL_law_370 : decode cL_law 370 = .ok (.iadd, 1) := by decide +kernel
theorem dL_law_371 : decode cL_law 371 = .ok (.iaload, 1) := by decide +kernel
theorem dL_law_372 : decode cL_law 372 = .ok (.invokevirtual 41, 3) := by decide +kernel
theorem dL_law_375 : decode cL_law 375 = .ok (.aload_n 2, 1) := by decide +kernel
theorem dL_law_376 : decode cL_law 376 = .ok (.aload_n 0, 1) := by decide +kernel
theorem dL_law_377 : decode cL_law 377 = .ok (.iload 4, 2) := by decide +kernel
theorem dL_law_379 : decode cL_law 379 = .ok (.iconst 1, 1) := by decide +kernel
theorem dL_law_380 : decode cL_law 380 = .ok (.iadd, 1) := by decide +kernel
theorem dL_law_381 : decode cL_law 381 = .ok (.iaload, 1) := by decide +kernel
theorem dL_law_382 : decode cL_law 382 = .ok (.aload_n 0, 1) := by decide +kernel
theorem dL_law_383 : decode cL_law 383 = .ok (.iload 4, 2) := by decide +kernel
theorem dL_law_385 : decode cL_law 385 = .ok (.iconst 2, 1) := by decide +kernel
theorem dL_law_386 : decode cL_law 386 = .ok (.iadd, 1) := by decide +kernel
theorem dL_law_387 : decode cL_law 387 = .ok (.iaload, 1) := by decide +kernel
theorem dL_law_388 : decode cL_law 388 = .ok (.aload_n 0, 1) := by decide +kernel
theorem dL_law_389 : decode cL_law 389 = .ok (.iload 4, 2) := by decide +kernel
theorem dL_law_391 : decode cL_law 391 = .ok (.iconst 3, 1) := by decide +kernel
theorem dL_law_392 : decode cL_law 392 = .ok (.iadd, 1) := by decide +kernel
theorem dL_law_393 : decode cL_law 393 = .ok (.iaload, 1) := by decide +kernel
theorem dL_law_394 : decode cL_law 394 = .ok (.invokevirtual 45, 3) := by decide +kernel
theorem dL_law_397 : decode cL_law 397 = .ok (.if_icmp .eq 943, 3) := by decide +kernel
theorem dL_law_400 : decode cL_law 400 = .ok (.iconst 0, 1) := by decide +kernel
theorem dL_law_401 : decode cL_law 401 = .ok (.ireturn, 1) := by decide +kernel
theorem dL_law_402 : decode cL_law 402 = .ok (.aload_n 1, 1) := by decide +kernel
theorem dL_law_403 : decode cL_law 403 = .ok (.aload_n 0, 1) := by decide +kernel
theorem dL_law_404 : decode cL_law 404 = .ok (.iload 4, 2) := by decide +kernel
theorem dL_law_406 : decode cL_law 406 = .ok (.iconst 1, 1) := by decide +kernel
theorem dL_law_407 : decode cL_law 407 = .ok (.iadd, 1) := by decide +kernel
theorem dL_law_408 : decode cL_law 408 = .ok (.iaload, 1) := by decide +kernel
theorem dL_law_409 : decode cL_law 409 = .ok (.invokevirtual 46, 3) := by decide +kernel
theorem dL_law_412 : decode cL_law 412 = .ok (.aload_n 2, 1) := by decide +kernel
theorem dL_law_413 : decode cL_law 413 = .ok (.aload_n 0, 1) := by decide +kernel
theorem dL_law_414 : decode cL_law 414 = .ok (.iload 4, 2) := by decide +kernel
theorem dL_law_416 : decode cL_law 416 = .ok (.iconst 1, 1) := by decide +kernel
theorem dL_law_417 : decode cL_law 417 = .ok (.iadd, 1) := by decide +kernel
theorem dL_law_418 : decode cL_law 418 = .ok (.iaload, 1) := by decide +kernel
theorem dL_law_419 : decode cL_law 419 = .ok (.invokevirtual 49, 3) := by decide +kernel
theorem dL_law_422 : decode cL_law 422 = .ok (.if_icmp .eq 918, 3) := by decide +kernel
theorem dL_law_425 : decode cL_law 425 = .ok (.iconst 0, 1) := by decide +kernel
theorem dL_law_426 : decode cL_law 426 = .ok (.ireturn, 1) := by decide +kernel
theorem dL_law_427 : decode cL_law 427 = .ok (.aload_n 1, 1) := by decide +kernel
theorem dL_law_428 : decode cL_law 428 = .ok (.aload_n 0, 1) := by decide +kernel
theorem dL_law_429 : decode cL_law 429 = .ok (.iload 4, 2) := by decide +kernel
theorem dL_law_431 : decode cL_law 431 = .ok (.iconst 1, 1) := by decide +kernel
theorem dL_law_432 : decode cL_law 432 = .ok (.iadd, 1) := by decide +kernel
theorem dL_law_433 : decode cL_law 433 = .ok (.iaload, 1) := by decide +kernel
theorem dL_law_434 : decode cL_law 434 = .ok (.invokevirtual 50, 3) := by decide +kernel
theorem dL_law_437 : decode cL_law 437 = .ok (.aload_n 2, 1) := by decide +kernel
theorem dL_law_438 : decode cL_law 438 = .ok (.aload_n 0, 1) := by decide +kernel
theorem dL_law_439 : decode cL_law 439 = .ok (.iload 4, 2) := by decide +kernel
theorem dL_law_441 : decode cL_law 441 = .ok (.iconst 1, 1) := by decide +kernel
theorem dL_law_442 : decode cL_law 442 = .ok (.iadd, 1) := by decide +kernel
theorem dL_law_443 : decode cL_law 443 = .ok (.iaload, 1) := by decide +kernel
theorem dL_law_444 : decode cL_law 444 = .ok (.invokevirtual 53, 3) := by decide +kernel
theorem dL_law_447 : decode cL_law 447 = .ok (.if_icmp .eq 893, 3) := by decide +kernel
theorem dL_law_450 : decode cL_law 450 = .ok (.iconst 0, 1) := by decide +kernel
theorem dL_law_451 : decode cL_law 451 = .ok (.ireturn, 1) := by decide +kernel
theorem dL_law_452 : decode cL_law 452 = .ok (.aload_n 1, 1) := by decide +kernel
theorem dL_law_453 : decode cL_law 453 = .ok (.aload_n 0, 1) := by decide +kernel
theorem dL_law_454 : decode cL_law 454 = .ok (.iload 4, 2) := by decide +kernel
theorem dL_law_456 : decode cL_law 456 = .ok (.iconst 1, 1) := by decide +kernel
theorem dL_law_457 : decode cL_law 457 = .ok (.iadd, 1) := by decide +kernel
theorem dL_law_458 : decode cL_law 458 = .ok (.iaload, 1) := by decide +kernel
theorem dL_law_459 : decode cL_law 459 = .ok (.invokevirtual 54, 3) := by decide +kernel
theorem dL_law_462 : decode cL_law 462 = .ok (.aload_n 2, 1) := by decide +kernel
theorem dL_law_463 : decode cL_law 463 = .ok (.aload_n 0, 1) := by decide +kernel
theorem dL_law_464 : decode cL_law 464 = .ok (.iload 4, 2) := by decide +kernel
theorem dL_law_466 : decode cL_law 466 = .ok (.iconst 1, 1) := by decide +kernel
theorem dL_law_467 : decode cL_law 467 = .ok (.iadd, 1) := by decide +kernel
theorem dL_law_468 : decode cL_law 468 = .ok (.iaload, 1) := by decide +kernel
theorem dL_law_469 : decode cL_law 469 = .ok (.invokevirtual 57, 3) := by decide +kernel
theorem dL_law_472 : decode cL_law 472 = .ok (.if_icmp .eq 868, 3) := by decide +kernel
theorem dL_law_475 : decode cL_law 475 = .ok (.iconst 0, 1) := by decide +kernel
theorem dL_law_476 : decode cL_law 476 = .ok (.ireturn, 1) := by decide +kernel
theorem dL_law_477 : decode cL_law 477 = .ok (.aload_n 1, 1) := by decide +kernel
theorem dL_law_478 : decode cL_law 478 = .ok (.invokevirtual 58, 3) := by decide +kernel
theorem dL_law_481 : decode cL_law 481 = .ok (.aload_n 2, 1) := by decide +kernel
theorem dL_law_482 : decode cL_law 482 = .ok (.invokevirtual 61, 3) := by decide +kernel
theorem dL_law_485 : decode cL_law 485 = .ok (.if_icmp .eq 855, 3) := by decide +kernel
theorem dL_law_488 : decode cL_law 488 = .ok (.iconst 0, 1) := by decide +kernel
theorem dL_law_489 : decode cL_law 489 = .ok (.ireturn, 1) := by decide +kernel
theorem dL_law_490 : decode cL_law 490 = .ok (.aload_n 1, 1) := by decide +kernel
theorem dL_law_491 : decode cL_law 491 = .ok (.invokevirtual 62, 3) := by decide +kernel
theorem dL_law_494 : decode cL_law 494 = .ok (.aload_n 2, 1) := by decide +kernel
theorem dL_law_495 : decode cL_law 495 = .ok (.invokevirtual 65, 3) := by decide +kernel
theorem dL_law_498 : decode cL_law 498 = .ok (.if_icmp .eq 842, 3) := by decide +kernel
theorem dL_law_501 : decode cL_law 501 = .ok (.iconst 0, 1) := by decide +kernel
theorem dL_law_502 : decode cL_law 502 = .ok (.ireturn, 1) := by decide +kernel
theorem dL_law_503 : decode cL_law 503 = .ok (.aload_n 1, 1) := by decide +kernel
theorem dL_law_504 : decode cL_law 504 = .ok (.aload_n 0, 1) := by decide +kernel
theorem dL_law_505 : decode cL_law 505 = .ok (.iload 4, 2) := by decide +kernel
theorem dL_law_507 : decode cL_law 507 = .ok (.iconst 1, 1) := by decide +kernel
theorem dL_law_508 : decode cL_law 508 = .ok (.iadd, 1) := by decide +kernel
theorem dL_law_509 : decode cL_law 509 = .ok (.iaload, 1) := by decide +kernel
theorem dL_law_510 : decode cL_law 510 = .ok (.aload_n 0, 1) := by decide +kernel
theorem dL_law_511 : decode cL_law 511 = .ok (.iload 4, 2) := by decide +kernel
theorem dL_law_513 : decode cL_law 513 = .ok (.iconst 2, 1) := by decide +kernel
theorem dL_law_514 : decode cL_law 514 = .ok (.iadd, 1) := by decide +kernel
theorem dL_law_515 : decode cL_law 515 = .ok (.iaload, 1) := by decide +kernel
theorem dL_law_516 : decode cL_law 516 = .ok (.invokevirtual 66, 3) := by decide +kernel
theorem dL_law_519 : decode cL_law 519 = .ok (.aload_n 2, 1) := by decide +kernel
theorem dL_law_520 : decode cL_law 520 = .ok (.aload_n 0, 1) := by decide +kernel
theorem dL_law_521 : decode cL_law 521 = .ok (.iload 4, 2) := by decide +kernel
theorem dL_law_523 : decode cL_law 523 = .ok (.iconst 1, 1) := by decide +kernel
theorem dL_law_524 : decode cL_law 524 = .ok (.iadd, 1) := by decide +kernel
theorem dL_law_525 : decode cL_law 525 = .ok (.iaload, 1) := by decide +kernel
theorem dL_law_526 : decode cL_law 526 = .ok (.aload_n 0, 1) := by decide +kernel
theorem dL_law_527 : decode cL_law 527 = .ok (.iload 4, 2) := by decide +kernel
theorem dL_law_529 : decode cL_law 529 = .ok (.iconst 2, 1) := by decide +kernel
theorem dL_law_530 : decode cL_law 530 = .ok (.iadd, 1) := by decide +kernel
theorem dL_law_531 : decode cL_law 531 = .ok (.iaload, 1) := by decide +kernel
theorem dL_law_532 : decode cL_law 532 = .ok (.invokevirtual 70, 3) := by decide +kernel
theorem dL_law_535 : decode cL_law 535 = .ok (.if_icmp .eq 805, 3) := by decide +kernel
theorem dL_law_538 : decode cL_law 538 = .ok (.iconst 0, 1) := by decide +kernel
theorem dL_law_539 : decode cL_law 539 = .ok (.ireturn, 1) := by decide +kernel
theorem dL_law_540 : decode cL_law 540 = .ok (.aload_n 1, 1) := by decide +kernel
theorem dL_law_541 : decode cL_law 541 = .ok (.aload_n 0, 1) := by decide +kernel
theorem dL_law_542 : decode cL_law 542 = .ok (.iload 4, 2) := by decide +kernel
theorem dL_law_544 : decode cL_law 544 = .ok (.iconst 1, 1) := by decide +kernel
theorem dL_law_545 : decode cL_law 545 = .ok (.iadd, 1) := by decide +kernel
theorem dL_law_546 : decode cL_law 546 = .ok (.iaload, 1) := by decide +kernel
theorem dL_law_547 : decode cL_law 547 = .ok (.aload_n 0, 1) := by decide +kernel
theorem dL_law_548 : decode cL_law 548 = .ok (.iload 4, 2) := by decide +kernel
theorem dL_law_550 : decode cL_law 550 = .ok (.iconst 2, 1) := by decide +kernel
theorem dL_law_551 : decode cL_law 551 = .ok (.iadd, 1) := by decide +kernel
theorem dL_law_552 : decode cL_law 552 = .ok (.iaload, 1) := by decide +kernel
theorem dL_law_553 : decode cL_law 553 = .ok (.aload_n 0, 1) := by decide +kernel
theorem dL_law_554 : decode cL_law 554 = .ok (.iload 4, 2) := by decide +kernel
theorem dL_law_556 : decode cL_law 556 = .ok (.iconst 3, 1) := by decide +kernel
theorem dL_law_557 : decode cL_law 557 = .ok (.iadd, 1) := by decide +kernel
theorem dL_law_558 : decode cL_law 558 = .ok (.iaload, 1) := by decide +kernel
theorem dL_law_559 : decode cL_law 559 = .ok (.aload_n 0, 1) := by decide +kernel
theorem dL_law_560 : decode cL_law 560 = .ok (.iload 4, 2) := by decide +kernel
theorem dL_law_562 : decode cL_law 562 = .ok (.iconst 4, 1) := by decide +kernel
theorem dL_law_563 : decode cL_law 563 = .ok (.iadd, 1) := by decide +kernel
theorem dL_law_564 : decode cL_law 564 = .ok (.iaload, 1) := by decide +kernel
theorem dL_law_565 : decode cL_law 565 = .ok (.invokevirtual 71, 3) := by decide +kernel
theorem dL_law_568 : decode cL_law 568 = .ok (.aload_n 2, 1) := by decide +kernel
theorem dL_law_569 : decode cL_law 569 = .ok (.aload_n 0, 1) := by decide +kernel
theorem dL_law_570 : decode cL_law 570 = .ok (.iload 4, 2) := by decide +kernel
theorem dL_law_572 : decode cL_law 572 = .ok (.iconst 1, 1) := by decide +kernel
theorem dL_law_573 : decode cL_law 573 = .ok (.iadd, 1) := by decide +kernel
theorem dL_law_574 : decode cL_law 574 = .ok (.iaload, 1) := by decide +kernel
theorem dL_law_575 : decode cL_law 575 = .ok (.aload_n 0, 1) := by decide +kernel
theorem dL_law_576 : decode cL_law 576 = .ok (.iload 4, 2) := by decide +kernel
theorem dL_law_578 : decode cL_law 578 = .ok (.iconst 2, 1) := by decide +kernel
theorem dL_law_579 : decode cL_law 579 = .ok (.iadd, 1) := by decide +kernel
theorem dL_law_580 : decode cL_law 580 = .ok (.iaload, 1) := by decide +kernel
theorem dL_law_581 : decode cL_law 581 = .ok (.aload_n 0, 1) := by decide +kernel
theorem dL_law_582 : decode cL_law 582 = .ok (.iload 4, 2) := by decide +kernel
theorem dL_law_584 : decode cL_law 584 = .ok (.iconst 3, 1) := by decide +kernel
theorem dL_law_585 : decode cL_law 585 = .ok (.iadd, 1) := by decide +kernel
theorem dL_law_586 : decode cL_law 586 = .ok (.iaload, 1) := by decide +kernel
theorem dL_law_587 : decode cL_law 587 = .ok (.aload_n 0, 1) := by decide +kernel
theorem dL_law_588 : decode cL_law 588 = .ok (.iload 4, 2) := by decide +kernel
theorem dL_law_590 : decode cL_law 590 = .ok (.iconst 4, 1) := by decide +kernel
theorem dL_law_591 : decode cL_law 591 = .ok (.iadd, 1) := by decide +kernel
theorem dL_law_592 : decode cL_law 592 = .ok (.iaload, 1) := by decide +kernel
theorem dL_law_593 : decode cL_law 593 = .ok (.invokevirtual 75, 3) := by decide +kernel
theorem dL_law_596 : decode cL_law 596 = .ok (.if_icmp .eq 744, 3) := by decide +kernel
theorem dL_law_599 : decode cL_law 599 = .ok (.iconst 0, 1) := by decide +kernel
theorem dL_law_600 : decode cL_law 600 = .ok (.ireturn, 1) := by decide +kernel
theorem dL_law_601 : decode cL_law 601 = .ok (.aload_n 1, 1) := by decide +kernel
theorem dL_law_602 : decode cL_law 602 = .ok (.aload_n 0, 1) := by decide +kernel
theorem dL_law_603 : decode cL_law 603 = .ok (.iload 4, 2) := by decide +kernel
theorem dL_law_605 : decode cL_law 605 = .ok (.iconst 1, 1) := by decide +kernel
theorem dL_law_606 : decode cL_law 606 = .ok (.iadd, 1) := by decide +kernel
theorem dL_law_607 : decode cL_law 607 = .ok (.iaload, 1) := by decide +kernel
theorem dL_law_608 : decode cL_law 608 = .ok (.aload_n 0, 1) := by decide +kernel
theorem dL_law_609 : decode cL_law 609 = .ok (.iload 4, 2) := by decide +kernel
theorem dL_law_611 : decode cL_law 611 = .ok (.iconst 2, 1) := by decide +kernel
theorem dL_law_612 : decode cL_law 612 = .ok (.iadd, 1) := by decide +kernel
theorem dL_law_613 : decode cL_law 613 = .ok (.iaload, 1) := by decide +kernel
theorem dL_law_614 : decode cL_law 614 = .ok (.invokevirtual 76, 3) := by decide +kernel
theorem dL_law_617 : decode cL_law 617 = .ok (.aload_n 2, 1) := by decide +kernel
theorem dL_law_618 : decode cL_law 618 = .ok (.aload_n 0, 1) := by decide +kernel
theorem dL_law_619 : decode cL_law 619 = .ok (.iload 4, 2) := by decide +kernel
theorem dL_law_621 : decode cL_law 621 = .ok (.iconst 1, 1) := by decide +kernel
theorem dL_law_622 : decode cL_law 622 = .ok (.iadd, 1) := by decide +kernel
theorem dL_law_623 : decode cL_law 623 = .ok (.iaload, 1) := by decide +kernel
theorem dL_law_624 : decode cL_law 624 = .ok (.aload_n 0, 1) := by decide +kernel
theorem dL_law_625 : decode cL_law 625 = .ok (.iload 4, 2) := by decide +kernel
theorem dL_law_627 : decode cL_law 627 = .ok (.iconst 2, 1) := by decide +kernel
theorem dL_law_628 : decode cL_law 628 = .ok (.iadd, 1) := by decide +kernel
theorem dL_law_629 : decode cL_law 629 = .ok (.iaload, 1) := by decide +kernel
theorem dL_law_630 : decode cL_law 630 = .ok (.invokevirtual 79, 3) := by decide +kernel
theorem dL_law_633 : decode cL_law 633 = .ok (.if_icmp .eq 707, 3) := by decide +kernel
theorem dL_law_636 : decode cL_law 636 = .ok (.iconst 0, 1) := by decide +kernel
theorem dL_law_637 : decode cL_law 637 = .ok (.ireturn, 1) := by decide +kernel
theorem dL_law_638 : decode cL_law 638 = .ok (.aload_n 1, 1) := by decide +kernel
theorem dL_law_639 : decode cL_law 639 = .ok (.aload_n 0, 1) := by decide +kernel
theorem dL_law_640 : decode cL_law 640 = .ok (.iload 4, 2) := by decide +kernel
theorem dL_law_642 : decode cL_law 642 = .ok (.iconst 1, 1) := by decide +kernel
theorem dL_law_643 : decode cL_law 643 = .ok (.iadd, 1) := by decide +kernel
theorem dL_law_644 : decode cL_law 644 = .ok (.iaload, 1) := by decide +kernel
theorem dL_law_645 : decode cL_law 645 = .ok (.invokevirtual 80, 3) := by decide +kernel
theorem dL_law_648 : decode cL_law 648 = .ok (.aload_n 2, 1) := by decide +kernel
theorem dL_law_649 : decode cL_law 649 = .ok (.aload_n 0, 1) := by decide +kernel
theorem dL_law_650 : decode cL_law 650 = .ok (.iload 4, 2) := by decide +kernel
theorem dL_law_652 : decode cL_law 652 = .ok (.iconst 1, 1) := by decide +kernel
theorem dL_law_653 : decode cL_law 653 = .ok (.iadd, 1) := by decide +kernel
theorem dL_law_654 : decode cL_law 654 = .ok (.iaload, 1) := by decide +kernel
theorem dL_law_655 : decode cL_law 655 = .ok (.invokevirtual 83, 3) := by decide +kernel
theorem dL_law_658 : decode cL_law 658 = .ok (.if_icmp .eq 682, 3) := by decide +kernel
theorem dL_law_661 : decode cL_law 661 = .ok (.iconst 0, 1) := by decide +kernel
theorem dL_law_662 : decode cL_law 662 = .ok (.ireturn, 1) := by decide +kernel
theorem dL_law_663 : decode cL_law 663 = .ok (.aload_n 1, 1) := by decide +kernel
theorem dL_law_664 : decode cL_law 664 = .ok (.aload_n 0, 1) := by decide +kernel
theorem dL_law_665 : decode cL_law 665 = .ok (.iload 4, 2) := by decide +kernel
theorem dL_law_667 : decode cL_law 667 = .ok (.iconst 1, 1) := by decide +kernel
theorem dL_law_668 : decode cL_law 668 = .ok (.iadd, 1) := by decide +kernel
theorem dL_law_669 : decode cL_law 669 = .ok (.iaload, 1) := by decide +kernel
theorem dL_law_670 : decode cL_law 670 = .ok (.invokevirtual 84, 3) := by decide +kernel
theorem dL_law_673 : decode cL_law 673 = .ok (.aload_n 2, 1) := by decide +kernel
theorem dL_law_674 : decode cL_law 674 = .ok (.aload_n 0, 1) := by decide +kernel
theorem dL_law_675 : decode cL_law 675 = .ok (.iload 4, 2) := by decide +kernel
theorem dL_law_677 : decode cL_law 677 = .ok (.iconst 1, 1) := by decide +kernel
theorem dL_law_678 : decode cL_law 678 = .ok (.iadd, 1) := by decide +kernel
theorem dL_law_679 : decode cL_law 679 = .ok (.iaload, 1) := by decide +kernel
theorem dL_law_680 : decode cL_law 680 = .ok (.invokevirtual 87, 3) := by decide +kernel
theorem dL_law_683 : decode cL_law 683 = .ok (.if_icmp .eq 657, 3) := by decide +kernel
theorem dL_law_686 : decode cL_law 686 = .ok (.iconst 0, 1) := by decide +kernel
theorem dL_law_687 : decode cL_law 687 = .ok (.ireturn, 1) := by decide +kernel
theorem dL_law_688 : decode cL_law 688 = .ok (.aload_n 1, 1) := by decide +kernel
theorem dL_law_689 : decode cL_law 689 = .ok (.aload_n 0, 1) := by decide +kernel
theorem dL_law_690 : decode cL_law 690 = .ok (.iload 4, 2) := by decide +kernel
theorem dL_law_692 : decode cL_law 692 = .ok (.iconst 1, 1) := by decide +kernel
theorem dL_law_693 : decode cL_law 693 = .ok (.iadd, 1) := by decide +kernel
theorem dL_law_694 : decode cL_law 694 = .ok (.iaload, 1) := by decide +kernel
theorem dL_law_695 : decode cL_law 695 = .ok (.invokevirtual 88, 3) := by decide +kernel
theorem dL_law_698 : decode cL_law 698 = .ok (.aload_n 2, 1) := by decide +kernel
theorem dL_law_699 : decode cL_law 699 = .ok (.aload_n 0, 1) := by decide +kernel
theorem dL_law_700 : decode cL_law 700 = .ok (.iload 4, 2) := by decide +kernel
theorem dL_law_702 : decode cL_law 702 = .ok (.iconst 1, 1) := by decide +kernel
theorem dL_law_703 : decode cL_law 703 = .ok (.iadd, 1) := by decide +kernel
theorem dL_law_704 : decode cL_law 704 = .ok (.iaload, 1) := by decide +kernel
theorem dL_law_705 : decode cL_law 705 = .ok (.invokevirtual 91, 3) := by decide +kernel
theorem dL_law_708 : decode cL_law 708 = .ok (.if_icmp .eq 632, 3) := by decide +kernel
theorem dL_law_711 : decode cL_law 711 = .ok (.iconst 0, 1) := by decide +kernel
theorem dL_law_712 : decode cL_law 712 = .ok (.ireturn, 1) := by decide +kernel
theorem dL_law_713 : decode cL_law 713 = .ok (.aload_n 1, 1) := by decide +kernel
theorem dL_law_714 : decode cL_law 714 = .ok (.aload_n 0, 1) := by decide +kernel
theorem dL_law_715 : decode cL_law 715 = .ok (.iload 4, 2) := by decide +kernel
theorem dL_law_717 : decode cL_law 717 = .ok (.iconst 1, 1) := by decide +kernel
theorem dL_law_718 : decode cL_law 718 = .ok (.iadd, 1) := by decide +kernel
theorem dL_law_719 : decode cL_law 719 = .ok (.iaload, 1) := by decide +kernel
theorem dL_law_720 : decode cL_law 720 = .ok (.invokevirtual 92, 3) := by decide +kernel
theorem dL_law_723 : decode cL_law 723 = .ok (.aload_n 2, 1) := by decide +kernel
theorem dL_law_724 : decode cL_law 724 = .ok (.aload_n 0, 1) := by decide +kernel
theorem dL_law_725 : decode cL_law 725 = .ok (.iload 4, 2) := by decide +kernel
theorem dL_law_727 : decode cL_law 727 = .ok (.iconst 1, 1) := by decide +kernel
theorem dL_law_728 : decode cL_law 728 = .ok (.iadd, 1) := by decide +kernel
theorem dL_law_729 : decode cL_law 729 = .ok (.iaload, 1) := by decide +kernel
theorem dL_law_730 : decode cL_law 730 = .ok (.invokevirtual 95, 3) := by decide +kernel
theorem dL_law_733 : decode cL_law 733 = .ok (.if_icmp .eq 607, 3) := by decide +kernel
theorem dL_law_736 : decode cL_law 736 = .ok (.iconst 0, 1) := by decide +kernel
theorem dL_law_737 : decode cL_law 737 = .ok (.ireturn, 1) := by decide +kernel
theorem dL_law_738 : decode cL_law 738 = .ok (.aload_n 1, 1) := by decide +kernel
theorem dL_law_739 : decode cL_law 739 = .ok (.aload_n 0, 1) := by decide +kernel
theorem dL_law_740 : decode cL_law 740 = .ok (.iload 4, 2) := by decide +kernel
theorem dL_law_742 : decode cL_law 742 = .ok (.iconst 1, 1) := by decide +kernel
theorem dL_law_743 : decode cL_law 743 = .ok (.iadd, 1) := by decide +kernel
theorem dL_law_744 : decode cL_law 744 = .ok (.iaload, 1) := by decide +kernel
theorem dL_law_745 : decode cL_law 745 = .ok (.aload_n 0, 1) := by decide +kernel
theorem dL_law_746 : decode cL_law 746 = .ok (.iload 4, 2) := by decide +kernel
theorem dL_law_748 : decode cL_law 748 = .ok (.iconst 2, 1) := by decide +kernel
theorem dL_law_749 : decode cL_law 749 = .ok (.iadd, 1) := by decide +kernel
theorem dL_law_750 : decode cL_law 750 = .ok (.iaload, 1) := by decide +kernel
theorem dL_law_751 : decode cL_law 751 = .ok (.invokevirtual 96, 3) := by decide +kernel
theorem dL_law_754 : decode cL_law 754 = .ok (.aload_n 2, 1) := by decide +kernel
theorem dL_law_755 : decode cL_law 755 = .ok (.aload_n 0, 1) := by decide +kernel
theorem dL_law_756 : decode cL_law 756 = .ok (.iload 4, 2) := by decide +kernel
theorem dL_law_758 : decode cL_law 758 = .ok (.iconst 1, 1) := by decide +kernel
theorem dL_law_759 : decode cL_law 759 = .ok (.iadd, 1) := by decide +kernel
theorem dL_law_760 : decode cL_law 760 = .ok (.iaload, 1) := by decide +kernel
theorem dL_law_761 : decode cL_law 761 = .ok (.aload_n 0, 1) := by decide +kernel
theorem dL_law_762 : decode cL_law 762 = .ok (.iload 4, 2) := by decide +kernel
theorem dL_law_764 : decode cL_law 764 = .ok (.iconst 2, 1) := by decide +kernel
theorem dL_law_765 : decode cL_law 765 = .ok (.iadd, 1) := by decide +kernel
theorem dL_law_766 : decode cL_law 766 = .ok (.iaload, 1) := by decide +kernel
theorem dL_law_767 : decode cL_law 767 = .ok (.invokevirtual 99, 3) := by decide +kernel
theorem dL_law_770 : decode cL_law 770 = .ok (.if_icmp .eq 570, 3) := by decide +kernel
theorem dL_law_773 : decode cL_law 773 = .ok (.iconst 0, 1) := by decide +kernel
theorem dL_law_774 : decode cL_law 774 = .ok (.ireturn, 1) := by decide +kernel
theorem dL_law_775 : decode cL_law 775 = .ok (.aload_n 1, 1) := by decide +kernel
theorem dL_law_776 : decode cL_law 776 = .ok (.aload_n 0, 1) := by decide +kernel
theorem dL_law_777 : decode cL_law 777 = .ok (.iload 4, 2) := by decide +kernel
theorem dL_law_779 : decode cL_law 779 = .ok (.iconst 1, 1) := by decide +kernel
theorem dL_law_780 : decode cL_law 780 = .ok (.iadd, 1) := by decide +kernel
theorem dL_law_781 : decode cL_law 781 = .ok (.iaload, 1) := by decide +kernel
theorem dL_law_782 : decode cL_law 782 = .ok (.aload_n 0, 1) := by decide +kernel
theorem dL_law_783 : decode cL_law 783 = .ok (.iload 4, 2) := by decide +kernel
theorem dL_law_785 : decode cL_law 785 = .ok (.iconst 2, 1) := by decide +kernel
theorem dL_law_786 : decode cL_law 786 = .ok (.iadd, 1) := by decide +kernel
theorem dL_law_787 : decode cL_law 787 = .ok (.iaload, 1) := by decide +kernel
theorem dL_law_788 : decode cL_law 788 = .ok (.invokevirtual 100, 3) := by decide +kernel
theorem dL_law_791 : decode cL_law 791 = .ok (.aload_n 2, 1) := by decide +kernel
theorem dL_law_792 : decode cL_law 792 = .ok (.aload_n 0, 1) := by decide +kernel
theorem dL_law_793 : decode cL_law 793 = .ok (.iload 4, 2) := by decide +kernel
theorem dL_law_795 : decode cL_law 795 = .ok (.iconst 1, 1) := by decide +kernel
theorem dL_law_796 : decode cL_law 796 = .ok (.iadd, 1) := by decide +kernel
theorem dL_law_797 : decode cL_law 797 = .ok (.iaload, 1) := by decide +kernel
theorem dL_law_798 : decode cL_law 798 = .ok (.aload_n 0, 1) := by decide +kernel
theorem dL_law_799 : decode cL_law 799 = .ok (.iload 4, 2) := by decide +kernel
theorem dL_law_801 : decode cL_law 801 = .ok (.iconst 2, 1) := by decide +kernel
theorem dL_law_802 : decode cL_law 802 = .ok (.iadd, 1) := by decide +kernel
theorem dL_law_803 : decode cL_law 803 = .ok (.iaload, 1) := by decide +kernel
theorem dL_law_804 : decode cL_law 804 = .ok (.invokevirtual 103, 3) := by decide +kernel
theorem dL_law_807 : decode cL_law 807 = .ok (.if_icmp .eq 533, 3) := by decide +kernel
theorem dL_law_810 : decode cL_law 810 = .ok (.iconst 0, 1) := by decide +kernel
theorem dL_law_811 : decode cL_law 811 = .ok (.ireturn, 1) := by decide +kernel
theorem dL_law_812 : decode cL_law 812 = .ok (.aload_n 1, 1) := by decide +kernel
theorem dL_law_813 : decode cL_law 813 = .ok (.aload_n 0, 1) := by decide +kernel
theorem dL_law_814 : decode cL_law 814 = .ok (.iload 4, 2) := by decide +kernel
theorem dL_law_816 : decode cL_law 816 = .ok (.iconst 1, 1) := by decide +kernel
theorem dL_law_817 : decode cL_law 817 = .ok (.iadd, 1) := by decide +kernel
theorem dL_law_818 : decode cL_law 818 = .ok (.iaload, 1) := by decide +kernel
theorem dL_law_819 : decode cL_law 819 = .ok (.aload_n 0, 1) := by decide +kernel
theorem dL_law_820 : decode cL_law 820 = .ok (.iload 4, 2) := by decide +kernel
theorem dL_law_822 : decode cL_law 822 = .ok (.iconst 2, 1) := by decide +kernel
theorem dL_law_823 : decode cL_law 823 = .ok (.iadd, 1) := by decide +kernel
theorem dL_law_824 : decode cL_law 824 = .ok (.iaload, 1) := by decide +kernel
theorem dL_law_825 : decode cL_law 825 = .ok (.invokevirtual 104, 3) := by decide +kernel
theorem dL_law_828 : decode cL_law 828 = .ok (.aload_n 2, 1) := by decide +kernel
theorem dL_law_829 : decode cL_law 829 = .ok (.aload_n 0, 1) := by decide +kernel
theorem dL_law_830 : decode cL_law 830 = .ok (.iload 4, 2) := by decide +kernel
theorem dL_law_832 : decode cL_law 832 = .ok (.iconst 1, 1) := by decide +kernel
theorem dL_law_833 : decode cL_law 833 = .ok (.iadd, 1) := by decide +kernel
theorem dL_law_834 : decode cL_law 834 = .ok (.iaload, 1) := by decide +kernel
theorem dL_law_835 : decode cL_law 835 = .ok (.aload_n 0, 1) := by decide +kernel
theorem dL_law_836 : decode cL_law 836 = .ok (.iload 4, 2) := by decide +kernel
theorem dL_law_838 : decode cL_law 838 = .ok (.iconst 2, 1) := by decide +kernel
theorem dL_law_839 : decode cL_law 839 = .ok (.iadd, 1) := by decide +kernel
theorem dL_law_840 : decode cL_law 840 = .ok (.iaload, 1) := by decide +kernel
theorem dL_law_841 : decode cL_law 841 = .ok (.invokevirtual 107, 3) := by decide +kernel
theorem dL_law_844 : decode cL_law 844 = .ok (.if_icmp .eq 496, 3) := by decide +kernel
theorem dL_law_847 : decode cL_law 847 = .ok (.iconst 0, 1) := by decide +kernel
theorem dL_law_848 : decode cL_law 848 = .ok (.ireturn, 1) := by decide +kernel
theorem dL_law_849 : decode cL_law 849 = .ok (.aload_n 1, 1) := by decide +kernel
theorem dL_law_850 : decode cL_law 850 = .ok (.aload_n 0, 1) := by decide +kernel
theorem dL_law_851 : decode cL_law 851 = .ok (.iload 4, 2) := by decide +kernel
theorem dL_law_853 : decode cL_law 853 = .ok (.iconst 1, 1) := by decide +kernel
theorem dL_law_854 : decode cL_law 854 = .ok (.iadd, 1) := by decide +kernel
theorem dL_law_855 : decode cL_law 855 = .ok (.iaload, 1) := by decide +kernel
theorem dL_law_856 : decode cL_law 856 = .ok (.aload_n 0, 1) := by decide +kernel
theorem dL_law_857 : decode cL_law 857 = .ok (.iload 4, 2) := by decide +kernel
theorem dL_law_859 : decode cL_law 859 = .ok (.iconst 2, 1) := by decide +kernel
theorem dL_law_860 : decode cL_law 860 = .ok (.iadd, 1) := by decide +kernel
theorem dL_law_861 : decode cL_law 861 = .ok (.iaload, 1) := by decide +kernel
theorem dL_law_862 : decode cL_law 862 = .ok (.invokevirtual 108, 3) := by decide +kernel
theorem dL_law_865 : decode cL_law 865 = .ok (.aload_n 2, 1) := by decide +kernel
theorem dL_law_866 : decode cL_law 866 = .ok (.aload_n 0, 1) := by decide +kernel
theorem dL_law_867 : decode cL_law 867 = .ok (.iload 4, 2) := by decide +kernel
theorem dL_law_869 : decode cL_law 869 = .ok (.iconst 1, 1) := by decide +kernel
theorem dL_law_870 : decode cL_law 870 = .ok (.iadd, 1) := by decide +kernel
theorem dL_law_871 : decode cL_law 871 = .ok (.iaload, 1) := by decide +kernel
theorem dL_law_872 : decode cL_law 872 = .ok (.aload_n 0, 1) := by decide +kernel
theorem dL_law_873 : decode cL_law 873 = .ok (.iload 4, 2) := by decide +kernel
theorem dL_law_875 : decode cL_law 875 = .ok (.iconst 2, 1) := by decide +kernel
theorem dL_law_876 : decode cL_law 876 = .ok (.iadd, 1) := by decide +kernel
theorem dL_law_877 : decode cL_law 877 = .ok (.iaload, 1) := by decide +kernel
theorem dL_law_878 : decode cL_law 878 = .ok (.invokevirtual 111, 3) := by decide +kernel
theorem dL_law_881 : decode cL_law 881 = .ok (.if_icmp .eq 459, 3) := by decide +kernel
theorem dL_law_884 : decode cL_law 884 = .ok (.iconst 0, 1) := by decide +kernel
theorem dL_law_885 : decode cL_law 885 = .ok (.ireturn, 1) := by decide +kernel
theorem dL_law_886 : decode cL_law 886 = .ok (.aload_n 1, 1) := by decide +kernel
theorem dL_law_887 : decode cL_law 887 = .ok (.aload_n 0, 1) := by decide +kernel
theorem dL_law_888 : decode cL_law 888 = .ok (.iload 4, 2) := by decide +kernel
theorem dL_law_890 : decode cL_law 890 = .ok (.iconst 1, 1) := by decide +kernel
theorem dL_law_891 : decode cL_law 891 = .ok (.iadd, 1) := by decide +kernel
theorem dL_law_892 : decode cL_law 892 = .ok (.iaload, 1) := by decide +kernel
theorem dL_law_893 : decode cL_law 893 = .ok (.invokevirtual 112, 3) := by decide +kernel
theorem dL_law_896 : decode cL_law 896 = .ok (.aload_n 2, 1) := by decide +kernel
theorem dL_law_897 : decode cL_law 897 = .ok (.aload_n 0, 1) := by decide +kernel
theorem dL_law_898 : decode cL_law 898 = .ok (.iload 4, 2) := by decide +kernel
theorem dL_law_900 : decode cL_law 900 = .ok (.iconst 1, 1) := by decide +kernel
theorem dL_law_901 : decode cL_law 901 = .ok (.iadd, 1) := by decide +kernel
theorem dL_law_902 : decode cL_law 902 = .ok (.iaload, 1) := by decide +kernel
theorem dL_law_903 : decode cL_law 903 = .ok (.invokevirtual 115, 3) := by decide +kernel
theorem dL_law_906 : decode cL_law 906 = .ok (.if_icmp .eq 434, 3) := by decide +kernel
theorem dL_law_909 : decode cL_law 909 = .ok (.iconst 0, 1) := by decide +kernel
theorem dL_law_910 : decode cL_law 910 = .ok (.ireturn, 1) := by decide +kernel
theorem dL_law_911 : decode cL_law 911 = .ok (.aload_n 1, 1) := by decide +kernel
theorem dL_law_912 : decode cL_law 912 = .ok (.aload_n 0, 1) := by decide +kernel
theorem dL_law_913 : decode cL_law 913 = .ok (.iload 4, 2) := by decide +kernel
theorem dL_law_915 : decode cL_law 915 = .ok (.iconst 1, 1) := by decide +kernel
theorem dL_law_916 : decode cL_law 916 = .ok (.iadd, 1) := by decide +kernel
theorem dL_law_917 : decode cL_law 917 = .ok (.iaload, 1) := by decide +kernel
theorem dL_law_918 : decode cL_law 918 = .ok (.invokevirtual 116, 3) := by decide +kernel
theorem dL_law_921 : decode cL_law 921 = .ok (.aload_n 2, 1) := by decide +kernel
theorem dL_law_922 : decode cL_law 922 = .ok (.aload_n 0, 1) := by decide +kernel
theorem dL_law_923 : decode cL_law 923 = .ok (.iload 4, 2) := by decide +kernel
theorem dL_law_925 : decode cL_law 925 = .ok (.iconst 1, 1) := by decide +kernel
theorem dL_law_926 : decode cL_law 926 = .ok (.iadd, 1) := by decide +kernel
theorem dL_law_927 : decode cL_law 927 = .ok (.iaload, 1) := by decide +kernel
theorem dL_law_928 : decode cL_law 928 = .ok (.invokevirtual 119, 3) := by decide +kernel
theorem dL_law_931 : decode cL_law 931 = .ok (.if_icmp .eq 409, 3) := by decide +kernel
theorem dL_law_934 : decode cL_law 934 = .ok (.iconst 0, 1) := by decide +kernel
theorem dL_law_935 : decode cL_law 935 = .ok (.ireturn, 1) := by decide +kernel
theorem dL_law_936 : decode cL_law 936 = .ok (.aload_n 1, 1) := by decide +kernel
theorem dL_law_937 : decode cL_law 937 = .ok (.aload_n 0, 1) := by decide +kernel
theorem dL_law_938 : decode cL_law 938 = .ok (.iload 4, 2) := by decide +kernel
theorem dL_law_940 : decode cL_law 940 = .ok (.iconst 1, 1) := by decide +kernel
theorem dL_law_941 : decode cL_law 941 = .ok (.iadd, 1) := by decide +kernel
theorem dL_law_942 : decode cL_law 942 = .ok (.iaload, 1) := by decide +kernel
theorem dL_law_943 : decode cL_law 943 = .ok (.invokevirtual 120, 3) := by decide +kernel
theorem dL_law_946 : decode cL_law 946 = .ok (.aload_n 2, 1) := by decide +kernel
theorem dL_law_947 : decode cL_law 947 = .ok (.aload_n 0, 1) := by decide +kernel
theorem dL_law_948 : decode cL_law 948 = .ok (.iload 4, 2) := by decide +kernel
theorem dL_law_950 : decode cL_law 950 = .ok (.iconst 1, 1) := by decide +kernel
theorem dL_law_951 : decode cL_law 951 = .ok (.iadd, 1) := by decide +kernel
theorem dL_law_952 : decode cL_law 952 = .ok (.iaload, 1) := by decide +kernel
theorem dL_law_953 : decode cL_law 953 = .ok (.invokevirtual 123, 3) := by decide +kernel
theorem dL_law_956 : decode cL_law 956 = .ok (.if_icmp .eq 384, 3) := by decide +kernel
theorem dL_law_959 : decode cL_law 959 = .ok (.iconst 0, 1) := by decide +kernel
theorem dL_law_960 : decode cL_law 960 = .ok (.ireturn, 1) := by decide +kernel
theorem dL_law_961 : decode cL_law 961 = .ok (.aload_n 1, 1) := by decide +kernel
theorem dL_law_962 : decode cL_law 962 = .ok (.aload_n 0, 1) := by decide +kernel
theorem dL_law_963 : decode cL_law 963 = .ok (.iload 4, 2) := by decide +kernel
theorem dL_law_965 : decode cL_law 965 = .ok (.iconst 1, 1) := by decide +kernel
theorem dL_law_966 : decode cL_law 966 = .ok (.iadd, 1) := by decide +kernel
theorem dL_law_967 : decode cL_law 967 = .ok (.iaload, 1) := by decide +kernel
theorem dL_law_968 : decode cL_law 968 = .ok (.invokevirtual 124, 3) := by decide +kernel
theorem dL_law_971 : decode cL_law 971 = .ok (.aload_n 2, 1) := by decide +kernel
theorem dL_law_972 : decode cL_law 972 = .ok (.aload_n 0, 1) := by decide +kernel
theorem dL_law_973 : decode cL_law 973 = .ok (.iload 4, 2) := by decide +kernel
theorem dL_law_975 : decode cL_law 975 = .ok (.iconst 1, 1) := by decide +kernel
theorem dL_law_976 : decode cL_law 976 = .ok (.iadd, 1) := by decide +kernel
theorem dL_law_977 : decode cL_law 977 = .ok (.iaload, 1) := by decide +kernel
theorem dL_law_978 : decode cL_law 978 = .ok (.invokevirtual 127, 3) := by decide +kernel
theorem dL_law_981 : decode cL_law 981 = .ok (.if_icmp .eq 359, 3) := by decide +kernel
theorem dL_law_984 : decode cL_law 984 = .ok (.iconst 0, 1) := by decide +kernel
theorem dL_law_985 : decode cL_law 985 = .ok (.ireturn, 1) := by decide +kernel
theorem dL_law_986 : decode cL_law 986 = .ok (.aload_n 1, 1) := by decide +kernel
theorem dL_law_987 : decode cL_law 987 = .ok (.aload_n 0, 1) := by decide +kernel
theorem dL_law_988 : decode cL_law 988 = .ok (.iload 4, 2) := by decide +kernel
theorem dL_law_990 : decode cL_law 990 = .ok (.iconst 1, 1) := by decide +kernel
theorem dL_law_991 : decode cL_law 991 = .ok (.iadd, 1) := by decide +kernel
theorem dL_law_992 : decode cL_law 992 = .ok (.iaload, 1) := by decide +kernel
theorem dL_law_993 : decode cL_law 993 = .ok (.aload_n 0, 1) := by decide +kernel
theorem dL_law_994 : decode cL_law 994 = .ok (.iload 4, 2) := by decide +kernel
theorem dL_law_996 : decode cL_law 996 = .ok (.iconst 2, 1) := by decide +kernel
theorem dL_law_997 : decode cL_law 997 = .ok (.iadd, 1) := by decide +kernel
theorem dL_law_998 : decode cL_law 998 = .ok (.iaload, 1) := by decide +kernel
theorem dL_law_999 : decode cL_law 999 = .ok (.invokevirtual 128, 3) := by decide +kernel
theorem dL_law_1002 : decode cL_law 1002 = .ok (.aload_n 2, 1) := by decide +kernel
theorem dL_law_1003 : decode cL_law 1003 = .ok (.aload_n 0, 1) := by decide +kernel
theorem dL_law_1004 : decode cL_law 1004 = .ok (.iload 4, 2) := by decide +kernel
theorem dL_law_1006 : decode cL_law 1006 = .ok (.iconst 1, 1) := by decide +kernel
theorem dL_law_1007 : decode cL_law 1007 = .ok (.iadd, 1) := by decide +kernel
theorem dL_law_1008 : decode cL_law 1008 = .ok (.iaload, 1) := by decide +kernel
theorem dL_law_1009 : decode cL_law 1009 = .ok (.aload_n 0, 1) := by decide +kernel
theorem dL_law_1010 : decode cL_law 1010 = .ok (.iload 4, 2) := by decide +kernel
theorem dL_law_1012 : decode cL_law 1012 = .ok (.iconst 2, 1) := by decide +kernel
theorem dL_law_1013 : decode cL_law 1013 = .ok (.iadd, 1) := by decide +kernel
theorem dL_law_1014 : decode cL_law 1014 = .ok (.iaload, 1) := by decide +kernel
theorem dL_law_1015 : decode cL_law 1015 = .ok (.invokevirtual 131, 3) := by decide +kernel
theorem dL_law_1018 : decode cL_law 1018 = .ok (.if_icmp .eq 322, 3) := by decide +kernel
theorem dL_law_1021 : decode cL_law 1021 = .ok (.iconst 0, 1) := by decide +kernel
theorem dL_law_1022 : decode cL_law 1022 = .ok (.ireturn, 1) := by decide +kernel
theorem dL_law_1023 : decode cL_law 1023 = .ok (.aload_n 1, 1) := by decide +kernel
theorem dL_law_1024 : decode cL_law 1024 = .ok (.aload_n 0, 1) := by decide +kernel
theorem dL_law_1025 : decode cL_law 1025 = .ok (.iload 4, 2) := by decide +kernel
theorem dL_law_1027 : decode cL_law 1027 = .ok (.iconst 1, 1) := by decide +kernel
theorem dL_law_1028 : decode cL_law 1028 = .ok (.iadd, 1) := by decide +kernel
theorem dL_law_1029 : decode cL_law 1029 = .ok (.iaload, 1) := by decide +kernel
theorem dL_law_1030 : decode cL_law 1030 = .ok (.invokevirtual 132, 3) := by decide +kernel
theorem dL_law_1033 : decode cL_law 1033 = .ok (.aload_n 2, 1) := by decide +kernel
theorem dL_law_1034 : decode cL_law 1034 = .ok (.aload_n 0, 1) := by decide +kernel
theorem dL_law_1035 : decode cL_law 1035 = .ok (.iload 4, 2) := by decide +kernel
theorem dL_law_1037 : decode cL_law 1037 = .ok (.iconst 1, 1) := by decide +kernel
theorem dL_law_1038 : decode cL_law 1038 = .ok (.iadd, 1) := by decide +kernel
theorem dL_law_1039 : decode cL_law 1039 = .ok (.iaload, 1) := by decide +kernel
theorem dL_law_1040 : decode cL_law 1040 = .ok (.invokevirtual 135, 3) := by decide +kernel
theorem dL_law_1043 : decode cL_law 1043 = .ok (.if_icmp .eq 297, 3) := by decide +kernel
theorem dL_law_1046 : decode cL_law 1046 = .ok (.iconst 0, 1) := by decide +kernel
theorem dL_law_1047 : decode cL_law 1047 = .ok (.ireturn, 1) := by decide +kernel
theorem dL_law_1048 : decode cL_law 1048 = .ok (.aload_n 1, 1) := by decide +kernel
theorem dL_law_1049 : decode cL_law 1049 = .ok (.aload_n 0, 1) := by decide +kernel
theorem dL_law_1050 : decode cL_law 1050 = .ok (.iload 4, 2) := by decide +kernel
theorem dL_law_1052 : decode cL_law 1052 = .ok (.iconst 1, 1) := by decide +kernel
theorem dL_law_1053 : decode cL_law 1053 = .ok (.iadd, 1) := by decide +kernel
theorem dL_law_1054 : decode cL_law 1054 = .ok (.iaload, 1) := by decide +kernel
theorem dL_law_1055 : decode cL_law 1055 = .ok (.aload_n 0, 1) := by decide +kernel
theorem dL_law_1056 : decode cL_law 1056 = .ok (.iload 4, 2) := by decide +kernel
theorem dL_law_1058 : decode cL_law 1058 = .ok (.iconst 2, 1) := by decide +kernel
theorem dL_law_1059 : decode cL_law 1059 = .ok (.iadd, 1) := by decide +kernel
theorem dL_law_1060 : decode cL_law 1060 = .ok (.iaload, 1) := by decide +kernel
theorem dL_law_1061 : decode cL_law 1061 = .ok (.aload_n 0, 1) := by decide +kernel
theorem dL_law_1062 : decode cL_law 1062 = .ok (.iload 4, 2) := by decide +kernel
theorem dL_law_1064 : decode cL_law 1064 = .ok (.iconst 3, 1) := by decide +kernel
theorem dL_law_1065 : decode cL_law 1065 = .ok (.iadd, 1) := by decide +kernel
theorem dL_law_1066 : decode cL_law 1066 = .ok (.iaload, 1) := by decide +kernel
theorem dL_law_1067 : decode cL_law 1067 = .ok (.aload_n 0, 1) := by decide +kernel
theorem dL_law_1068 : decode cL_law 1068 = .ok (.iload 4, 2) := by decide +kernel
theorem dL_law_1070 : decode cL_law 1070 = .ok (.iconst 4, 1) := by decide +kernel
theorem dL_law_1071 : decode cL_law 1071 = .ok (.iadd, 1) := by decide +kernel
theorem dL_law_1072 : decode cL_law 1072 = .ok (.iaload, 1) := by decide +kernel
theorem dL_law_1073 : decode cL_law 1073 = .ok (.invokevirtual 136, 3) := by decide +kernel
theorem dL_law_1076 : decode cL_law 1076 = .ok (.aload_n 2, 1) := by decide +kernel
theorem dL_law_1077 : decode cL_law 1077 = .ok (.aload_n 0, 1) := by decide +kernel
theorem dL_law_1078 : decode cL_law 1078 = .ok (.iload 4, 2) := by decide +kernel
theorem dL_law_1080 : decode cL_law 1080 = .ok (.iconst 1, 1) := by decide +kernel
theorem dL_law_1081 : decode cL_law 1081 = .ok (.iadd, 1) := by decide +kernel
theorem dL_law_1082 : decode cL_law 1082 = .ok (.iaload, 1) := by decide +kernel
theorem dL_law_1083 : decode cL_law 1083 = .ok (.aload_n 0, 1) := by decide +kernel
theorem dL_law_1084 : decode cL_law 1084 = .ok (.iload 4, 2) := by decide +kernel
theorem dL_law_1086 : decode cL_law 1086 = .ok (.iconst 2, 1) := by decide +kernel
theorem dL_law_1087 : decode cL_law 1087 = .ok (.iadd, 1) := by decide +kernel
theorem dL_law_1088 : decode cL_law 1088 = .ok (.iaload, 1) := by decide +kernel
theorem dL_law_1089 : decode cL_law 1089 = .ok (.aload_n 0, 1) := by decide +kernel
theorem dL_law_1090 : decode cL_law 1090 = .ok (.iload 4, 2) := by decide +kernel
theorem dL_law_1092 : decode cL_law 1092 = .ok (.iconst 3, 1) := by decide +kernel
theorem dL_law_1093 : decode cL_law 1093 = .ok (.iadd, 1) := by decide +kernel
theorem dL_law_1094 : decode cL_law 1094 = .ok (.iaload, 1) := by decide +kernel
theorem dL_law_1095 : decode cL_law 1095 = .ok (.aload_n 0, 1) := by decide +kernel
theorem dL_law_1096 : decode cL_law 1096 = .ok (.iload 4, 2) := by decide +kernel
theorem dL_law_1098 : decode cL_law 1098 = .ok (.iconst 4, 1) := by decide +kernel
theorem dL_law_1099 : decode cL_law 1099 = .ok (.iadd, 1) := by decide +kernel
theorem dL_law_1100 : decode cL_law 1100 = .ok (.iaload, 1) := by decide +kernel
theorem dL_law_1101 : decode cL_law 1101 = .ok (.invokevirtual 139, 3) := by decide +kernel
theorem dL_law_1104 : decode cL_law 1104 = .ok (.if_icmp .eq 236, 3) := by decide +kernel
theorem dL_law_1107 : decode cL_law 1107 = .ok (.iconst 0, 1) := by decide +kernel
theorem dL_law_1108 : decode cL_law 1108 = .ok (.ireturn, 1) := by decide +kernel
theorem dL_law_1109 : decode cL_law 1109 = .ok (.aload_n 1, 1) := by decide +kernel
theorem dL_law_1110 : decode cL_law 1110 = .ok (.aload_n 0, 1) := by decide +kernel
theorem dL_law_1111 : decode cL_law 1111 = .ok (.iload 4, 2) := by decide +kernel
theorem dL_law_1113 : decode cL_law 1113 = .ok (.iconst 1, 1) := by decide +kernel
theorem dL_law_1114 : decode cL_law 1114 = .ok (.iadd, 1) := by decide +kernel
theorem dL_law_1115 : decode cL_law 1115 = .ok (.iaload, 1) := by decide +kernel
theorem dL_law_1116 : decode cL_law 1116 = .ok (.aload_n 0, 1) := by decide +kernel
theorem dL_law_1117 : decode cL_law 1117 = .ok (.iload 4, 2) := by decide +kernel
theorem dL_law_1119 : decode cL_law 1119 = .ok (.iconst 2, 1) := by decide +kernel
theorem dL_law_1120 : decode cL_law 1120 = .ok (.iadd, 1) := by decide +kernel
theorem dL_law_1121 : decode cL_law 1121 = .ok (.iaload, 1) := by decide +kernel
theorem dL_law_1122 : decode cL_law 1122 = .ok (.aload_n 0, 1) := by decide +kernel
theorem dL_law_1123 : decode cL_law 1123 = .ok (.iload 4, 2) := by decide +kernel
theorem dL_law_1125 : decode cL_law 1125 = .ok (.iconst 3, 1) := by decide +kernel
theorem dL_law_1126 : decode cL_law 1126 = .ok (.iadd, 1) := by decide +kernel
theorem dL_law_1127 : decode cL_law 1127 = .ok (.iaload, 1) := by decide +kernel
theorem dL_law_1128 : decode cL_law 1128 = .ok (.aload_n 0, 1) := by decide +kernel
theorem dL_law_1129 : decode cL_law 1129 = .ok (.iload 4, 2) := by decide +kernel
theorem dL_law_1131 : decode cL_law 1131 = .ok (.iconst 4, 1) := by decide +kernel
theorem dL_law_1132 : decode cL_law 1132 = .ok (.iadd, 1) := by decide +kernel
theorem dL_law_1133 : decode cL_law 1133 = .ok (.iaload, 1) := by decide +kernel
theorem dL_law_1134 : decode cL_law 1134 = .ok (.invokevirtual 140, 3) := by decide +kernel
theorem dL_law_1137 : decode cL_law 1137 = .ok (.aload_n 2, 1) := by decide +kernel
theorem dL_law_1138 : decode cL_law 1138 = .ok (.aload_n 0, 1) := by decide +kernel
theorem dL_law_1139 : decode cL_law 1139 = .ok (.iload 4, 2) := by decide +kernel
theorem dL_law_1141 : decode cL_law 1141 = .ok (.iconst 1, 1) := by decide +kernel
theorem dL_law_1142 : decode cL_law 1142 = .ok (.iadd, 1) := by decide +kernel
theorem dL_law_1143 : decode cL_law 1143 = .ok (.iaload, 1) := by decide +kernel
theorem dL_law_1144 : decode cL_law 1144 = .ok (.aload_n 0, 1) := by decide +kernel
theorem dL_law_1145 : decode cL_law 1145 = .ok (.iload 4, 2) := by decide +kernel
theorem dL_law_1147 : decode cL_law 1147 = .ok (.iconst 2, 1) := by decide +kernel
theorem dL_law_1148 : decode cL_law 1148 = .ok (.iadd, 1) := by decide +kernel
theorem dL_law_1149 : decode cL_law 1149 = .ok (.iaload, 1) := by decide +kernel
theorem dL_law_1150 : decode cL_law 1150 = .ok (.aload_n 0, 1) := by decide +kernel
theorem dL_law_1151 : decode cL_law 1151 = .ok (.iload 4, 2) := by decide +kernel
theorem dL_law_1153 : decode cL_law 1153 = .ok (.iconst 3, 1) := by decide +kernel
theorem dL_law_1154 : decode cL_law 1154 = .ok (.iadd, 1) := by decide +kernel
theorem dL_law_1155 : decode cL_law 1155 = .ok (.iaload, 1) := by decide +kernel
theorem dL_law_1156 : decode cL_law 1156 = .ok (.aload_n 0, 1) := by decide +kernel
theorem dL_law_1157 : decode cL_law 1157 = .ok (.iload 4, 2) := by decide +kernel
theorem dL_law_1159 : decode cL_law 1159 = .ok (.iconst 4, 1) := by decide +kernel
theorem dL_law_1160 : decode cL_law 1160 = .ok (.iadd, 1) := by decide +kernel
theorem dL_law_1161 : decode cL_law 1161 = .ok (.iaload, 1) := by decide +kernel
theorem dL_law_1162 : decode cL_law 1162 = .ok (.invokevirtual 143, 3) := by decide +kernel
theorem dL_law_1165 : decode cL_law 1165 = .ok (.if_icmp .eq 175, 3) := by decide +kernel
theorem dL_law_1168 : decode cL_law 1168 = .ok (.iconst 0, 1) := by decide +kernel
theorem dL_law_1169 : decode cL_law 1169 = .ok (.ireturn, 1) := by decide +kernel
theorem dL_law_1170 : decode cL_law 1170 = .ok (.aload_n 1, 1) := by decide +kernel
theorem dL_law_1171 : decode cL_law 1171 = .ok (.aload_n 0, 1) := by decide +kernel
theorem dL_law_1172 : decode cL_law 1172 = .ok (.iload 4, 2) := by decide +kernel
theorem dL_law_1174 : decode cL_law 1174 = .ok (.iconst 1, 1) := by decide +kernel
theorem dL_law_1175 : decode cL_law 1175 = .ok (.iadd, 1) := by decide +kernel
theorem dL_law_1176 : decode cL_law 1176 = .ok (.iaload, 1) := by decide +kernel
theorem dL_law_1177 : decode cL_law 1177 = .ok (.invokevirtual 144, 3) := by decide +kernel
theorem dL_law_1180 : decode cL_law 1180 = .ok (.aload_n 2, 1) := by decide +kernel
theorem dL_law_1181 : decode cL_law 1181 = .ok (.aload_n 0, 1) := by decide +kernel
theorem dL_law_1182 : decode cL_law 1182 = .ok (.iload 4, 2) := by decide +kernel
theorem dL_law_1184 : decode cL_law 1184 = .ok (.iconst 1, 1) := by decide +kernel
theorem dL_law_1185 : decode cL_law 1185 = .ok (.iadd, 1) := by decide +kernel
theorem dL_law_1186 : decode cL_law 1186 = .ok (.iaload, 1) := by decide +kernel
theorem dL_law_1187 : decode cL_law 1187 = .ok (.invokevirtual 147, 3) := by decide +kernel
theorem dL_law_1190 : decode cL_law 1190 = .ok (.if_icmp .eq 150, 3) := by decide +kernel
theorem dL_law_1193 : decode cL_law 1193 = .ok (.iconst 0, 1) := by decide +kernel
theorem dL_law_1194 : decode cL_law 1194 = .ok (.ireturn, 1) := by decide +kernel
theorem dL_law_1195 : decode cL_law 1195 = .ok (.aload_n 1, 1) := by decide +kernel
theorem dL_law_1196 : decode cL_law 1196 = .ok (.aload_n 0, 1) := by decide +kernel
theorem dL_law_1197 : decode cL_law 1197 = .ok (.iload 4, 2) := by decide +kernel
theorem dL_law_1199 : decode cL_law 1199 = .ok (.iconst 1, 1) := by decide +kernel
theorem dL_law_1200 : decode cL_law 1200 = .ok (.iadd, 1) := by decide +kernel
theorem dL_law_1201 : decode cL_law 1201 = .ok (.iaload, 1) := by decide +kernel
theorem dL_law_1202 : decode cL_law 1202 = .ok (.invokevirtual 148, 3) := by decide +kernel
theorem dL_law_1205 : decode cL_law 1205 = .ok (.aload_n 2, 1) := by decide +kernel
theorem dL_law_1206 : decode cL_law 1206 = .ok (.aload_n 0, 1) := by decide +kernel
theorem dL_law_1207 : decode cL_law 1207 = .ok (.iload 4, 2) := by decide +kernel
theorem dL_law_1209 : decode cL_law 1209 = .ok (.iconst 1, 1) := by decide +kernel
theorem dL_law_1210 : decode cL_law 1210 = .ok (.iadd, 1) := by decide +kernel
theorem dL_law_1211 : decode cL_law 1211 = .ok (.iaload, 1) := by decide +kernel
theorem dL_law_1212 : decode cL_law 1212 = .ok (.invokevirtual 151, 3) := by decide +kernel
theorem dL_law_1215 : decode cL_law 1215 = .ok (.if_icmp .eq 125, 3) := by decide +kernel
theorem dL_law_1218 : decode cL_law 1218 = .ok (.iconst 0, 1) := by decide +kernel
theorem dL_law_1219 : decode cL_law 1219 = .ok (.ireturn, 1) := by decide +kernel
theorem dL_law_1220 : decode cL_law 1220 = .ok (.aload_n 1, 1) := by decide +kernel
theorem dL_law_1221 : decode cL_law 1221 = .ok (.invokevirtual 152, 3) := by decide +kernel
theorem dL_law_1224 : decode cL_law 1224 = .ok (.aload_n 2, 1) := by decide +kernel
theorem dL_law_1225 : decode cL_law 1225 = .ok (.invokevirtual 156, 3) := by decide +kernel
theorem dL_law_1228 : decode cL_law 1228 = .ok (.if_icmp .eq 112, 3) := by decide +kernel
theorem dL_law_1231 : decode cL_law 1231 = .ok (.iconst 0, 1) := by decide +kernel
theorem dL_law_1232 : decode cL_law 1232 = .ok (.ireturn, 1) := by decide +kernel
theorem dL_law_1233 : decode cL_law 1233 = .ok (.aload_n 1, 1) := by decide +kernel
theorem dL_law_1234 : decode cL_law 1234 = .ok (.invokevirtual 157, 3) := by decide +kernel
theorem dL_law_1237 : decode cL_law 1237 = .ok (.aload_n 2, 1) := by decide +kernel
theorem dL_law_1238 : decode cL_law 1238 = .ok (.invokevirtual 160, 3) := by decide +kernel
theorem dL_law_1241 : decode cL_law 1241 = .ok (.if_icmp .eq 99, 3) := by decide +kernel
theorem dL_law_1244 : decode cL_law 1244 = .ok (.iconst 0, 1) := by decide +kernel
theorem dL_law_1245 : decode cL_law 1245 = .ok (.ireturn, 1) := by decide +kernel
theorem dL_law_1246 : decode cL_law 1246 = .ok (.aload_n 1, 1) := by decide +kernel
theorem dL_law_1247 : decode cL_law 1247 = .ok (.aload_n 0, 1) := by decide +kernel
theorem dL_law_1248 : decode cL_law 1248 = .ok (.iload 4, 2) := by decide +kernel
theorem dL_law_1250 : decode cL_law 1250 = .ok (.iconst 1, 1) := by decide +kernel
theorem dL_law_1251 : decode cL_law 1251 = .ok (.iadd, 1) := by decide +kernel
theorem dL_law_1252 : decode cL_law 1252 = .ok (.iaload, 1) := by decide +kernel
theorem dL_law_1253 : decode cL_law 1253 = .ok (.aload_n 3, 1) := by decide +kernel
theorem dL_law_1254 : decode cL_law 1254 = .ok (.invokestatic 161, 3) := by decide +kernel
theorem dL_law_1257 : decode cL_law 1257 = .ok (.istore 5, 2) := by decide +kernel
theorem dL_law_1259 : decode cL_law 1259 = .ok (.aload_n 2, 1) := by decide +kernel
theorem dL_law_1260 : decode cL_law 1260 = .ok (.aload_n 0, 1) := by decide +kernel
theorem dL_law_1261 : decode cL_law 1261 = .ok (.iload 4, 2) := by decide +kernel
theorem dL_law_1263 : decode cL_law 1263 = .ok (.iconst 1, 1) := by decide +kernel
theorem dL_law_1264 : decode cL_law 1264 = .ok (.iadd, 1) := by decide +kernel
theorem dL_law_1265 : decode cL_law 1265 = .ok (.iaload, 1) := by decide +kernel
theorem dL_law_1266 : decode cL_law 1266 = .ok (.invokevirtual 166, 3) := by decide +kernel
theorem dL_law_1269 : decode cL_law 1269 = .ok (.istore 6, 2) := by decide +kernel
theorem dL_law_1271 : decode cL_law 1271 = .ok (.aload_n 2, 1) := by decide +kernel
theorem dL_law_1272 : decode cL_law 1272 = .ok (.invokevirtual 167, 3) := by decide +kernel
theorem dL_law_1275 : decode cL_law 1275 = .ok (.iload 5, 2) := by decide +kernel
theorem dL_law_1277 : decode cL_law 1277 = .ok (.if_icmp .eq 5, 3) := by decide +kernel
theorem dL_law_1280 : decode cL_law 1280 = .ok (.iconst 0, 1) := by decide +kernel
theorem dL_law_1281 : decode cL_law 1281 = .ok (.ireturn, 1) := by decide +kernel
theorem dL_law_1282 : decode cL_law 1282 = .ok (.iload 5, 2) := by decide +kernel
theorem dL_law_1284 : decode cL_law 1284 = .ok (.ifCond .ne 15, 3) := by decide +kernel
theorem dL_law_1287 : decode cL_law 1287 = .ok (.aload_n 3, 1) := by decide +kernel
theorem dL_law_1288 : decode cL_law 1288 = .ok (.iconst 0, 1) := by decide +kernel
theorem dL_law_1289 : decode cL_law 1289 = .ok (.laload, 1) := by decide +kernel
theorem dL_law_1290 : decode cL_law 1290 = .ok (.iload 6, 2) := by decide +kernel
theorem dL_law_1292 : decode cL_law 1292 = .ok (.i2l, 1) := by decide +kernel
theorem dL_law_1293 : decode cL_law 1293 = .ok (.lcmp, 1) := by decide +kernel
theorem dL_law_1294 : decode cL_law 1294 = .ok (.ifCond .eq 5, 3) := by decide +kernel
theorem dL_law_1297 : decode cL_law 1297 = .ok (.iconst 0, 1) := by decide +kernel
theorem dL_law_1298 : decode cL_law 1298 = .ok (.ireturn, 1) := by decide +kernel
theorem dL_law_1299 : decode cL_law 1299 = .ok (.goto 41, 3) := by decide +kernel
theorem dL_law_1302 : decode cL_law 1302 = .ok (.aload_n 1, 1) := by decide +kernel
theorem dL_law_1303 : decode cL_law 1303 = .ok (.aload_n 0, 1) := by decide +kernel
theorem dL_law_1304 : decode cL_law 1304 = .ok (.iload 4, 2) := by decide +kernel
theorem dL_law_1306 : decode cL_law 1306 = .ok (.iconst 1, 1) := by decide +kernel
theorem dL_law_1307 : decode cL_law 1307 = .ok (.iadd, 1) := by decide +kernel
theorem dL_law_1308 : decode cL_law 1308 = .ok (.iaload, 1) := by decide +kernel
theorem dL_law_1309 : decode cL_law 1309 = .ok (.invokevirtual 170, 3) := by decide +kernel
theorem dL_law_1312 : decode cL_law 1312 = .ok (.aload_n 2, 1) := by decide +kernel
theorem dL_law_1313 : decode cL_law 1313 = .ok (.aload_n 0, 1) := by decide +kernel
theorem dL_law_1314 : decode cL_law 1314 = .ok (.iload 4, 2) := by decide +kernel
theorem dL_law_1316 : decode cL_law 1316 = .ok (.iconst 1, 1) := by decide +kernel
theorem dL_law_1317 : decode cL_law 1317 = .ok (.iadd, 1) := by decide +kernel
theorem dL_law_1318 : decode cL_law 1318 = .ok (.iaload, 1) := by decide +kernel
theorem dL_law_1319 : decode cL_law 1319 = .ok (.invokevirtual 173, 3) := by decide +kernel
theorem dL_law_1322 : decode cL_law 1322 = .ok (.if_icmp .eq 18, 3) := by decide +kernel
theorem dL_law_1325 : decode cL_law 1325 = .ok (.iconst 0, 1) := by decide +kernel
theorem dL_law_1326 : decode cL_law 1326 = .ok (.ireturn, 1) := by decide +kernel
theorem dL_law_1327 : decode cL_law 1327 = .ok (.aload_n 1, 1) := by decide +kernel
theorem dL_law_1328 : decode cL_law 1328 = .ok (.invokevirtual 174, 3) := by decide +kernel
theorem dL_law_1331 : decode cL_law 1331 = .ok (.aload_n 2, 1) := by decide +kernel
theorem dL_law_1332 : decode cL_law 1332 = .ok (.invokevirtual 177, 3) := by decide +kernel
theorem dL_law_1335 : decode cL_law 1335 = .ok (.if_icmp .eq 5, 3) := by decide +kernel
theorem dL_law_1338 : decode cL_law 1338 = .ok (.iconst 0, 1) := by decide +kernel
theorem dL_law_1339 : decode cL_law 1339 = .ok (.ireturn, 1) := by decide +kernel
theorem dL_law_1340 : decode cL_law 1340 = .ok (.iinc 4 6, 3) := by decide +kernel
theorem dL_law_1343 : decode cL_law 1343 = .ok (.goto (-1320), 3) := by decide +kernel
theorem dL_law_1346 : decode cL_law 1346 = .ok (.iconst 1, 1) := by decide +kernel
theorem dL_law_1347 : decode cL_law 1347 = .ok (.ireturn, 1) := by decide +kernel
