theorem dX4_plansShow_103 : decode cX4_plansShow 103 = .ok (.iload_n 3, 1) := by decide +kernel
theorem dX4_plansShow_104 : decode cX4_plansShow 104 = .ok (.aload_n 0, 1) := by decide +kernel
theorem dX4_plansShow_105 : decode cX4_plansShow 105 = .ok (.getfield 7, 3) := by decide +kernel
theorem dX4_plansShow_108 : decode cX4_plansShow 108 = .ok (.iconst 0, 1) := by decide +kernel
theorem dX4_plansShow_109 : decode cX4_plansShow 109 = .ok (.aload_n 0, 1) := by decide +kernel
theorem dX4_plansShow_110 : decode cX4_plansShow 110 = .ok (.getfield 7, 3) := by decide +kernel
theorem dX4_plansShow_113 : decode cX4_plansShow 113 = .ok (.bipush 74, 2) := by decide +kernel
theorem dX4_plansShow_115 : decode cX4_plansShow 115 = .ok (.iload_n 1, 1) := by decide +kernel
theorem dX4_plansShow_116 : decode cX4_plansShow 116 = .ok (.iadd, 1) := by decide +kernel
theorem dX4_plansShow_117 : decode cX4_plansShow 117 = .ok (.iaload, 1) := by decide +kernel
theorem dX4_plansShow_118 : decode cX4_plansShow 118 = .ok (.iadd, 1) := by decide +kernel
theorem dX4_plansShow_119 : decode cX4_plansShow 119 = .ok (.iaload, 1) := by decide +kernel
theorem dX4_plansShow_120 : decode cX4_plansShow 120 = .ok (.if_icmp .ge 81, 3) := by decide +kernel
theorem dX4_plansShow_123 : decode cX4_plansShow 123 = .ok (.iload_n 2, 1) := by decide +kernel
theorem dX4_plansShow_124 : decode cX4_plansShow 124 = .ok (.istore 4, 2) := by decide +kernel
theorem dX4_plansShow_126 : decode cX4_plansShow 126 = .ok (.aload_n 0, 1) := by decide +kernel
theorem dX4_plansShow_127 : decode cX4_plansShow 127 = .ok (.iload_n 1, 1) := by decide +kernel
theorem dX4_plansShow_128 : decode cX4_plansShow 128 = .ok (.iload_n 3, 1) := by decide +kernel
theorem dX4_plansShow_129 : decode cX4_plansShow 129 = .ok (.iload 4, 2) := by decide +kernel
theorem dX4_plansShow_131 : decode cX4_plansShow 131 = .ok (.invokevirtual 125, 3) := by decide +kernel
theorem dX4_plansShow_134 : decode cX4_plansShow 134 = .ok (.istore_n 2, 1) := by decide +kernel
theorem dX4_plansShow_135 : decode cX4_plansShow 135 = .ok (.aload_n 0, 1) := by decide +kernel
theorem dX4_plansShow_136 : decode cX4_plansShow 136 = .ok (.getfield 47, 3) := by decide +kernel
theorem dX4_plansShow_139 : decode cX4_plansShow 139 = .ok (.iload_n 1, 1) := by decide +kernel
theorem dX4_plansShow_140 : decode cX4_plansShow 140 = .ok (.dup2, 1) := by decide +kernel
theorem dX4_plansShow_141 : decode cX4_plansShow 141 = .ok (.iaload, 1) := by decide +kernel
theorem dX4_plansShow_142 : decode cX4_plansShow 142 = .ok (.iload_n 3, 1) := by decide +kernel
theorem dX4_plansShow_143 : decode cX4_plansShow 143 = .ok (.ifCond .ne 18, 3) := by decide +kernel
theorem dX4_plansShow_146 : decode cX4_plansShow 146 = .ok (.aload_n 0, 1) := by decide +kernel
theorem dX4_plansShow_147 : decode cX4_plansShow 147 = .ok (.getfield 34, 3) := by decide +kernel
theorem dX4_plansShow_150 : decode cX4_plansShow 150 = .ok (.bipush 6, 2) := by decide +kernel
theorem dX4_plansShow_152 : decode cX4_plansShow 152 = .ok (.iload_n 1, 1) := by decide +kernel
theorem dX4_plansShow_153 : decode cX4_plansShow 153 = .ok (.imul, 1) := by decide +kernel
theorem dX4_plansShow_154 : decode cX4_plansShow 154 = .ok (.iaload, 1) := by decide +kernel
theorem dX4_plansShow_155 : decode cX4_plansShow 155 = .ok (.iload 4, 2) := by decide +kernel
theorem dX4_plansShow_157 : decode cX4_plansShow 157 = .ok (.isub, 1) := by decide +kernel
theorem dX4_plansShow_158 : decode cX4_plansShow 158 = .ok (.goto 4, 3) := by decide +kernel
theorem dX4_plansShow_161 : decode cX4_plansShow 161 = .ok (.iconst 0, 1) := by decide +kernel
theorem dX4_plansShow_162 : decode cX4_plansShow 162 = .ok (.iadd, 1) := by decide +kernel
theorem dX4_plansShow_163 : decode cX4_plansShow 163 = .ok (.iastore, 1) := by decide +kernel
theorem dX4_plansShow_164 : decode cX4_plansShow 164 = .ok (.aload_n 0, 1) := by decide +kernel
theorem dX4_plansShow_165 : decode cX4_plansShow 165 = .ok (.getfield 50, 3) := by decide +kernel
theorem dX4_plansShow_168 : decode cX4_plansShow 168 = .ok (.iload_n 1, 1) := by decide +kernel
theorem dX4_plansShow_169 : decode cX4_plansShow 169 = .ok (.dup2, 1) := by decide +kernel
theorem dX4_plansShow_170 : decode cX4_plansShow 170 = .ok (.iaload, 1) := by decide +kernel
theorem dX4_plansShow_171 : decode cX4_plansShow 171 = .ok (.iload_n 3, 1) := by decide +kernel
theorem dX4_plansShow_172 : decode cX4_plansShow 172 = .ok (.ifCond .ne 7, 3) := by decide +kernel
theorem dX4_plansShow_175 : decode cX4_plansShow 175 = .ok (.iconst 0, 1) := by decide +kernel
theorem dX4_plansShow_176 : decode cX4_plansShow 176 = .ok (.goto 17, 3) := by decide +kernel
theorem dX4_plansShow_179 : decode cX4_plansShow 179 = .ok (.aload_n 0, 1) := by decide +kernel
theorem dX4_plansShow_180 : decode cX4_plansShow 180 = .ok (.getfield 34, 3) := by decide +kernel
theorem dX4_plansShow_183 : decode cX4_plansShow 183 = .ok (.bipush 6, 2) := by decide +kernel
theorem dX4_plansShow_185 : decode cX4_plansShow 185 = .ok (.iload_n 1, 1) := by decide +kernel
theorem dX4_plansShow_186 : decode cX4_plansShow 186 = .ok (.imul, 1) := by decide +kernel
theorem dX4_plansShow_187 : decode cX4_plansShow 187 = .ok (.iload_n 3, 1) := by decide +kernel
theorem dX4_plansShow_188 : decode cX4_plansShow 188 = .ok (.iadd, 1) := by decide +kernel
theorem dX4_plansShow_189 : decode cX4_plansShow 189 = .ok (.iaload, 1) := by decide +kernel
theorem dX4_plansShow_190 : decode cX4_plansShow 190 = .ok (.iload 4, 2) := by decide +kernel
theorem dX4_plansShow_192 : decode cX4_plansShow 192 = .ok (.isub, 1) := by decide +kernel
theorem dX4_plansShow_193 : decode cX4_plansShow 193 = .ok (.iadd, 1) := by decide +kernel
theorem dX4_plansShow_194 : decode cX4_plansShow 194 = .ok (.iastore, 1) := by decide +kernel
theorem dX4_plansShow_195 : decode cX4_plansShow 195 = .ok (.iinc 3 1, 3) := by decide +kernel
theorem dX4_plansShow_198 : decode cX4_plansShow 198 = .ok (.goto (-95), 3) := by decide +kernel
theorem dX4_plansShow_201 : decode cX4_plansShow 201 = .ok (.aload_n 0, 1) := by decide +kernel
theorem dX4_plansShow_202 : decode cX4_plansShow 202 = .ok (.getfield 44, 3) := by decide +kernel
theorem dX4_plansShow_205 : decode cX4_plansShow 205 = .ok (.iload_n 1, 1) := by decide +kernel
theorem dX4_plansShow_206 : decode cX4_plansShow 206 = .ok (.iload_n 2, 1) := by decide +kernel
theorem dX4_plansShow_207 : decode cX4_plansShow 207 = .ok (.iastore, 1) := by decide +kernel
theorem dX4_plansShow_208 : decode cX4_plansShow 208 = .ok (.return_, 1) := by decide +kernel
theorem dX4_plans_0 : decode cX4_plans 0 = .ok (.iconst 0, 1) := by decide +kernel
theorem dX4_plans_1 : decode cX4_plans 1 = .ok (.istore_n 1, 1) := by decide +kernel
theorem dX4_plans_2 : decode cX4_plans 2 = .ok (.iload_n 1, 1) := by decide +kernel
theorem dX4_plans_3 : decode cX4_plans 3 = .ok (.bipush 24, 2) := by decide +kernel
theorem dX4_plans_5 : decode cX4_plans 5 = .ok (.if_icmp .ge 34, 3) := by decide +kernel
theorem dX4_plans_8 : decode cX4_plans 8 = .ok (.aload_n 0, 1) := by decide +kernel
theorem dX4_plans_9 : decode cX4_plans 9 = .ok (.getfield 16, 3) := by decide +kernel
theorem dX4_plans_12 : decode cX4_plans 12 = .ok (.iload_n 1, 1) := by decide +kernel
theorem dX4_plans_13 : decode cX4_plans 13 = .ok (.aload_n 0, 1) := by decide +kernel
theorem dX4_plans_14 : decode cX4_plans 14 = .ok (.getfield 7, 3) := by decide +kernel
theorem dX4_plans_17 : decode cX4_plans 17 = .ok (.bipush 52, 2) := by decide +kernel
theorem dX4_plans_19 : decode cX4_plans 19 = .ok (.iload_n 1, 1) := by decide +kernel
theorem dX4_plans_20 : decode cX4_plans 20 = .ok (.bipush 6, 2) := by decide +kernel
theorem dX4_plans_22 : decode cX4_plans 22 = .ok (.idiv, 1) := by decide +kernel
theorem dX4_plans_23 : decode cX4_plans 23 = .ok (.iadd, 1) := by decide +kernel
theorem dX4_plans_24 : decode cX4_plans 24 = .ok (.iaload, 1) := by decide +kernel
theorem dX4_plans_25 : decode cX4_plans 25 = .ok (.iastore, 1) := by decide +kernel
theorem dX4_plans_26 : decode cX4_plans 26 = .ok (.aload_n 0, 1) := by decide +kernel
theorem dX4_plans_27 : decode cX4_plans 27 = .ok (.getfield 19, 3) := by decide +kernel
theorem dX4_plans_30 : decode cX4_plans 30 = .ok (.iload_n 1, 1) := by decide +kernel
theorem dX4_plans_31 : decode cX4_plans 31 = .ok (.iconst 0, 1) := by decide +kernel
theorem dX4_plans_32 : decode cX4_plans 32 = .ok (.iastore, 1) := by decide +kernel
theorem dX4_plans_33 : decode cX4_plans 33 = .ok (.iinc 1 1, 3) := by decide +kernel
theorem dX4_plans_36 : decode cX4_plans 36 = .ok (.goto (-34), 3) := by decide +kernel
theorem dX4_plans_39 : decode cX4_plans 39 = .ok (.iconst 0, 1) := by decide +kernel
theorem dX4_plans_40 : decode cX4_plans 40 = .ok (.istore_n 1, 1) := by decide +kernel
theorem dX4_plans_41 : decode cX4_plans 41 = .ok (.iload_n 1, 1) := by decide +kernel
theorem dX4_plans_42 : decode cX4_plans 42 = .ok (.iconst 3, 1) := by decide +kernel
theorem dX4_plans_43 : decode cX4_plans 43 = .ok (.if_icmp .ge 16, 3) := by decide +kernel
theorem dX4_plans_46 : decode cX4_plans 46 = .ok (.aload_n 0, 1) := by decide +kernel
theorem dX4_plans_47 : decode cX4_plans 47 = .ok (.getfield 22, 3) := by decide +kernel
theorem dX4_plans_50 : decode cX4_plans 50 = .ok (.iload_n 1, 1) := by decide +kernel
theorem dX4_plans_51 : decode cX4_plans 51 = .ok (.iconst 0, 1) := by decide +kernel
theorem dX4_plans_52 : decode cX4_plans 52 = .ok (.iastore, 1) := by decide +kernel
theorem dX4_plans_53 : decode cX4_plans 53 = .ok (.iinc 1 1, 3) := by decide +kernel
theorem dX4_plans_56 : decode cX4_plans 56 = .ok (.goto (-15), 3) := by decide +kernel
theorem dX4_plans_59 : decode cX4_plans 59 = .ok (.iconst 0, 1) := by decide +kernel
theorem dX4_plans_60 : decode cX4_plans 60 = .ok (.istore_n 1, 1) := by decide +kernel
theorem dX4_plans_61 : decode cX4_plans 61 = .ok (.iload_n 1, 1) := by decide +kernel
theorem dX4_plans_62 : decode cX4_plans 62 = .ok (.iconst 5, 1) := by decide +kernel
theorem dX4_plans_63 : decode cX4_plans 63 = .ok (.if_icmp .ge 30, 3) := by decide +kernel
theorem dX4_plans_66 : decode cX4_plans 66 = .ok (.aload_n 0, 1) := by decide +kernel
theorem dX4_plans_67 : decode cX4_plans 67 = .ok (.getfield 25, 3) := by decide +kernel
theorem dX4_plans_70 : decode cX4_plans 70 = .ok (.iload_n 1, 1) := by decide +kernel
theorem dX4_plans_71 : decode cX4_plans 71 = .ok (.iconst 0, 1) := by decide +kernel
theorem dX4_plans_72 : decode cX4_plans 72 = .ok (.iastore, 1) := by decide +kernel
theorem dX4_plans_73 : decode cX4_plans 73 = .ok (.aload_n 0, 1) := by decide +kernel
theorem dX4_plans_74 : decode cX4_plans 74 = .ok (.getfield 28, 3) := by decide +kernel
theorem dX4_plans_77 : decode cX4_plans 77 = .ok (.iload_n 1, 1) := by decide +kernel
theorem dX4_plans_78 : decode cX4_plans 78 = .ok (.iconst (-1), 1) := by decide +kernel
theorem dX4_plans_79 : decode cX4_plans 79 = .ok (.iastore, 1) := by decide +kernel
theorem dX4_plans_80 : decode cX4_plans 80 = .ok (.aload_n 0, 1) := by decide +kernel
theorem dX4_plans_81 : decode cX4_plans 81 = .ok (.getfield 31, 3) := by decide +kernel
theorem dX4_plans_84 : decode cX4_plans 84 = .ok (.iload_n 1, 1) := by decide +kernel
theorem dX4_plans_85 : decode cX4_plans 85 = .ok (.iconst 0, 1) := by decide +kernel
theorem dX4_plans_86 : decode cX4_plans 86 = .ok (.iastore, 1) := by decide +kernel
theorem dX4_plans_87 : decode cX4_plans 87 = .ok (.iinc 1 1, 3) := by decide +kernel
theorem dX4_plans_90 : decode cX4_plans 90 = .ok (.goto (-29), 3) := by decide +kernel
theorem dX4_plans_93 : decode cX4_plans 93 = .ok (.aload_n 0, 1) := by decide +kernel
theorem dX4_plans_94 : decode cX4_plans 94 = .ok (.iconst 0, 1) := by decide +kernel
theorem dX4_plans_95 : decode cX4_plans 95 = .ok (.putfield 105, 3) := by decide +kernel
theorem dX4_plans_98 : decode cX4_plans 98 = .ok (.aload_n 0, 1) := by decide +kernel
theorem dX4_plans_99 : decode cX4_plans 99 = .ok (.iconst 0, 1) := by decide +kernel
theorem dX4_plans_100 : decode cX4_plans 100 = .ok (.putfield 122, 3) := by decide +kernel
theorem dX4_plans_103 : decode cX4_plans 103 = .ok (.iconst 0, 1) := by decide +kernel
theorem dX4_plans_104 : decode cX4_plans 104 = .ok (.istore_n 1, 1) := by decide +kernel
theorem dX4_plans_105 : decode cX4_plans 105 = .ok (.iconst 0, 1) := by decide +kernel
theorem dX4_plans_106 : decode cX4_plans 106 = .ok (.istore_n 2, 1) := by decide +kernel
theorem dX4_plans_107 : decode cX4_plans 107 = .ok (.iconst 0, 1) := by decide +kernel
theorem dX4_plans_108 : decode cX4_plans 108 = .ok (.istore_n 3, 1) := by decide +kernel
theorem dX4_plans_109 : decode cX4_plans 109 = .ok (.iload_n 3, 1) := by decide +kernel
theorem dX4_plans_110 : decode cX4_plans 110 = .ok (.aload_n 0, 1) := by decide +kernel
theorem dX4_plans_111 : decode cX4_plans 111 = .ok (.getfield 7, 3) := by decide +kernel
theorem dX4_plans_114 : decode cX4_plans 114 = .ok (.bipush 67, 2) := by decide +kernel
theorem dX4_plans_116 : decode cX4_plans 116 = .ok (.iaload, 1) := by decide +kernel
theorem dX4_plans_117 : decode cX4_plans 117 = .ok (.if_icmp .ge 139, 3) := by decide +kernel
theorem dX4_plans_120 : decode cX4_plans 120 = .ok (.bipush (-4), 2) := by decide +kernel
theorem dX4_plans_122 : decode cX4_plans 122 = .ok (.istore 4, 2) := by decide +kernel
theorem dX4_plans_124 : decode cX4_plans 124 = .ok (.iconst 0, 1) := by decide +kernel
theorem dX4_plans_125 : decode cX4_plans 125 = .ok (.istore 5, 2) := by decide +kernel
theorem dX4_plans_127 : decode cX4_plans 127 = .ok (.iload 5, 2) := by decide +kernel
theorem dX4_plans_129 : decode cX4_plans 129 = .ok (.aload_n 0, 1) := by decide +kernel
theorem dX4_plans_130 : decode cX4_plans 130 = .ok (.getfield 7, 3) := by decide +kernel
theorem dX4_plans_133 : decode cX4_plans 133 = .ok (.bipush 67, 2) := by decide +kernel
theorem dX4_plans_135 : decode cX4_plans 135 = .ok (.iaload, 1) := by decide +kernel
theorem dX4_plans_136 : decode cX4_plans 136 = .ok (.if_icmp .ge 67, 3) := by decide +kernel
theorem dX4_plans_139 : decode cX4_plans 139 = .ok (.iload_n 1, 1) := by decide +kernel
theorem dX4_plans_140 : decode cX4_plans 140 = .ok (.iload 5, 2) := by decide +kernel
theorem dX4_plans_142 : decode cX4_plans 142 = .ok (.ishr, 1) := by decide +kernel
theorem dX4_plans_143 : decode cX4_plans 143 = .ok (.iconst 1, 1) := by decide +kernel
theorem dX4_plans_144 : decode cX4_plans 144 = .ok (.iand, 1) := by decide +kernel
theorem dX4_plans_145 : decode cX4_plans 145 = .ok (.ifCond .ne 7, 3) := by decide +kernel
theorem dX4_plans_148 : decode cX4_plans 148 = .ok (.iconst 1, 1) := by decide +kernel
theorem dX4_plans_149 : decode cX4_plans 149 = .ok (.goto 4, 3) := by decide +kernel
theorem dX4_plans_152 : decode cX4_plans 152 = .ok (.iconst 0, 1) := by decide +kernel
theorem dX4_plans_153 : decode cX4_plans 153 = .ok (.istore 6, 2) := by decide +kernel
theorem dX4_plans_155 : decode cX4_plans 155 = .ok (.iload 6, 2) := by decide +kernel
theorem dX4_plans_157 : decode cX4_plans 157 = .ok (.ifCond .eq 36, 3) := by decide +kernel
theorem dX4_plans_160 : decode cX4_plans 160 = .ok (.iload 4, 2) := by decide +kernel
theorem dX4_plans_162 : decode cX4_plans 162 = .ok (.ifCond .lt 26, 3) := by decide +kernel
theorem dX4_plans_165 : decode cX4_plans 165 = .ok (.aload_n 0, 1) := by decide +kernel
theorem dX4_plans_166 : decode cX4_plans 166 = .ok (.getfield 7, 3) := by decide +kernel
theorem dX4_plans_169 : decode cX4_plans 169 = .ok (.bipush 80, 2) := by decide +kernel
theorem dX4_plans_171 : decode cX4_plans 171 = .ok (.iload 5, 2) := by decide +kernel
theorem dX4_plans_173 : decode cX4_plans 173 = .ok (.iadd, 1) := by decide +kernel
theorem dX4_plans_174 : decode cX4_plans 174 = .ok (.iaload, 1) := by decide +kernel
theorem dX4_plans_175 : decode cX4_plans 175 = .ok (.aload_n 0, 1) := by decide +kernel
theorem dX4_plans_176 : decode cX4_plans 176 = .ok (.getfield 7, 3) := by decide +kernel
theorem dX4_plans_179 : decode cX4_plans 179 = .ok (.bipush 80, 2) := by decide +kernel
theorem dX4_plans_181 : decode cX4_plans 181 = .ok (.iload 4, 2) := by decide +kernel
theorem dX4_plans_183 : decode cX4_plans 183 = .ok (.iadd, 1) := by decide +kernel
theorem dX4_plans_184 : decode cX4_plans 184 = .ok (.iaload, 1) := by decide +kernel
theorem dX4_plans_185 : decode cX4_plans 185 = .ok (.if_icmp .ge 8, 3) := by decide +kernel
theorem dX4_plans_188 : decode cX4_plans 188 = .ok (.iload 5, 2) := by decide +kernel
theorem dX4_plans_190 : decode cX4_plans 190 = .ok (.goto 5, 3) := by decide +kernel
theorem dX4_plans_193 : decode cX4_plans 193 = .ok (.iload 4, 2) := by decide +kernel
theorem dX4_plans_195 : decode cX4_plans 195 = .ok (.istore 4, 2) := by decide +kernel
theorem dX4_plans_197 : decode cX4_plans 197 = .ok (.iinc 5 1, 3) := by decide +kernel
theorem dX4_plans_200 : decode cX4_plans 200 = .ok (.goto (-73), 3) := by decide +kernel
theorem dX4_plans_203 : decode cX4_plans 203 = .ok (.iload_n 1, 1) := by decide +kernel
theorem dX4_plans_204 : decode cX4_plans 204 = .ok (.iconst 1, 1) := by decide +kernel
theorem dX4_plans_205 : decode cX4_plans 205 = .ok (.iload 4, 2) := by decide +kernel
theorem dX4_plans_207 : decode cX4_plans 207 = .ok (.ishl, 1) := by decide +kernel
theorem dX4_plans_208 : decode cX4_plans 208 = .ok (.ior, 1) := by decide +kernel
theorem dX4_plans_209 : decode cX4_plans 209 = .ok (.istore_n 1, 1) := by decide +kernel
theorem dX4_plans_210 : decode cX4_plans 210 = .ok (.aload_n 0, 1) := by decide +kernel
theorem dX4_plans_211 : decode cX4_plans 211 = .ok (.iload 4, 2) := by decide +kernel
theorem dX4_plans_213 : decode cX4_plans 213 = .ok (.invokevirtual 129, 3) := by decide +kernel
theorem dX4_plans_216 : decode cX4_plans 216 = .ok (.iload_n 2, 1) := by decide +kernel
theorem dX4_plans_217 : decode cX4_plans 217 = .ok (.aload_n 0, 1) := by decide +kernel
theorem dX4_plans_218 : decode cX4_plans 218 = .ok (.getfield 40, 3) := by decide +kernel
theorem dX4_plans_221 : decode cX4_plans 221 = .ok (.iload 4, 2) := by decide +kernel
theorem dX4_plans_223 : decode cX4_plans 223 = .ok (.baload, 1) := by decide +kernel
theorem dX4_plans_224 : decode cX4_plans 224 = .ok (.ifCond .eq 21, 3) := by decide +kernel
theorem dX4_plans_227 : decode cX4_plans 227 = .ok (.aload_n 0, 1) := by decide +kernel
theorem dX4_plans_228 : decode cX4_plans 228 = .ok (.getfield 47, 3) := by decide +kernel
theorem dX4_plans_231 : decode cX4_plans 231 = .ok (.iload 4, 2) := by decide +kernel
theorem dX4_plans_233 : decode cX4_plans 233 = .ok (.iaload, 1) := by decide +kernel
theorem dX4_plans_234 : decode cX4_plans 234 = .ok (.aload_n 0, 1) := by decide +kernel
theorem dX4_plans_235 : decode cX4_plans 235 = .ok (.getfield 50, 3) := by decide +kernel
theorem dX4_plans_238 : decode cX4_plans 238 = .ok (.iload 4, 2) := by decide +kernel
theorem dX4_plans_240 : decode cX4_plans 240 = .ok (.iaload, 1) := by decide +kernel
theorem dX4_plans_241 : decode cX4_plans 241 = .ok (.iadd, 1) := by decide +kernel
theorem dX4_plans_242 : decode cX4_plans 242 = .ok (.goto 6, 3) := by decide +kernel
theorem dX4_plans_245 : decode cX4_plans 245 = .ok (.sipush 1000, 3) := by decide +kernel
theorem dX4_plans_248 : decode cX4_plans 248 = .ok (.iadd, 1) := by decide +kernel
theorem dX4_plans_249 : decode cX4_plans 249 = .ok (.istore_n 2, 1) := by decide +kernel
theorem dX4_plans_250 : decode cX4_plans 250 = .ok (.iinc 3 1, 3) := by decide +kernel
theorem dX4_plans_253 : decode cX4_plans 253 = .ok (.goto (-144), 3) := by decide +kernel
theorem dX4_plans_256 : decode cX4_plans 256 = .ok (.iload_n 2, 1) := by decide +kernel
theorem dX4_plans_257 : decode cX4_plans 257 = .ok (.ireturn, 1) := by decide +kernel
theorem dX4_startOf_0 : decode cX4_startOf 0 = .ok (.aload_n 0, 1) := by decide +kernel
theorem dX4_startOf_1 : decode cX4_startOf 1 = .ok (.iload_n 1, 1) := by decide +kernel
theorem dX4_startOf_2 : decode cX4_startOf 2 = .ok (.iload_n 2, 1) := by decide +kernel
theorem dX4_startOf_3 : decode cX4_startOf 3 = .ok (.invokevirtual 99, 3) := by decide +kernel
theorem dX4_startOf_6 : decode cX4_startOf 6 = .ok (.ifCond .ne 5, 3) := by decide +kernel
theorem dX4_startOf_9 : decode cX4_startOf 9 = .ok (.iconst (-1), 1) := by decide +kernel
theorem dX4_startOf_10 : decode cX4_startOf 10 = .ok (.ireturn, 1) := by decide +kernel
theorem dX4_startOf_11 : decode cX4_startOf 11 = .ok (.aload_n 0, 1) := by decide +kernel
theorem dX4_startOf_12 : decode cX4_startOf 12 = .ok (.invokevirtual 132, 3) := by decide +kernel
theorem dX4_startOf_15 : decode cX4_startOf 15 = .ok (.pop, 1) := by decide +kernel
theorem dX4_startOf_16 : decode cX4_startOf 16 = .ok (.aload_n 0, 1) := by decide +kernel
theorem dX4_startOf_17 : decode cX4_startOf 17 = .ok (.getfield 40, 3) := by decide +kernel
theorem dX4_startOf_20 : decode cX4_startOf 20 = .ok (.iload_n 1, 1) := by decide +kernel
theorem dX4_startOf_21 : decode cX4_startOf 21 = .ok (.baload, 1) := by decide +kernel
theorem dX4_startOf_22 : decode cX4_startOf 22 = .ok (.ifCond .eq 17, 3) := by decide +kernel
theorem dX4_startOf_25 : decode cX4_startOf 25 = .ok (.aload_n 0, 1) := by decide +kernel
theorem dX4_startOf_26 : decode cX4_startOf 26 = .ok (.getfield 34, 3) := by decide +kernel
theorem dX4_startOf_29 : decode cX4_startOf 29 = .ok (.bipush 6, 2) := by decide +kernel
theorem dX4_startOf_31 : decode cX4_startOf 31 = .ok (.iload_n 1, 1) := by decide +kernel
theorem dX4_startOf_32 : decode cX4_startOf 32 = .ok (.imul, 1) := by decide +kernel
theorem dX4_startOf_33 : decode cX4_startOf 33 = .ok (.iload_n 2, 1) := by decide +kernel
theorem dX4_startOf_34 : decode cX4_startOf 34 = .ok (.iadd, 1) := by decide +kernel
theorem dX4_startOf_35 : decode cX4_startOf 35 = .ok (.iaload, 1) := by decide +kernel
theorem dX4_startOf_36 : decode cX4_startOf 36 = .ok (.goto 5, 3) := by decide +kernel
theorem dX4_startOf_39 : decode cX4_startOf 39 = .ok (.bipush (-4), 2) := by decide +kernel
theorem dX4_startOf_41 : decode cX4_startOf 41 = .ok (.ireturn, 1) := by decide +kernel
theorem dX4_machineOf_0 : decode cX4_machineOf 0 = .ok (.aload_n 0, 1) := by decide +kernel
theorem dX4_machineOf_1 : decode cX4_machineOf 1 = .ok (.iload_n 1, 1) := by decide +kernel
theorem dX4_machineOf_2 : decode cX4_machineOf 2 = .ok (.iload_n 2, 1) := by decide +kernel
theorem dX4_machineOf_3 : decode cX4_machineOf 3 = .ok (.invokevirtual 99, 3) := by decide +kernel
theorem dX4_machineOf_6 : decode cX4_machineOf 6 = .ok (.ifCond .ne 5, 3) := by decide +kernel
theorem dX4_machineOf_9 : decode cX4_machineOf 9 = .ok (.iconst (-1), 1) := by decide +kernel
theorem dX4_machineOf_10 : decode cX4_machineOf 10 = .ok (.ireturn, 1) := by decide +kernel
theorem dX4_machineOf_11 : decode cX4_machineOf 11 = .ok (.aload_n 0, 1) := by decide +kernel
theorem dX4_machineOf_12 : decode cX4_machineOf 12 = .ok (.invokevirtual 132, 3) := by decide +kernel
theorem dX4_machineOf_15 : decode cX4_machineOf 15 = .ok (.pop, 1) := by decide +kernel
theorem dX4_machineOf_16 : decode cX4_machineOf 16 = .ok (.aload_n 0, 1) := by decide +kernel
theorem dX4_machineOf_17 : decode cX4_machineOf 17 = .ok (.getfield 40, 3) := by decide +kernel
theorem dX4_machineOf_20 : decode cX4_machineOf 20 = .ok (.iload_n 1, 1) := by decide +kernel
theorem dX4_machineOf_21 : decode cX4_machineOf 21 = .ok (.baload, 1) := by decide +kernel
theorem dX4_machineOf_22 : decode cX4_machineOf 22 = .ok (.ifCond .eq 17, 3) := by decide +kernel
theorem dX4_machineOf_25 : decode cX4_machineOf 25 = .ok (.aload_n 0, 1) := by decide +kernel
theorem dX4_machineOf_26 : decode cX4_machineOf 26 = .ok (.getfield 37, 3) := by decide +kernel
theorem dX4_machineOf_29 : decode cX4_machineOf 29 = .ok (.bipush 6, 2) := by decide +kernel
theorem dX4_machineOf_31 : decode cX4_machineOf 31 = .ok (.iload_n 1, 1) := by decide +kernel
theorem dX4_machineOf_32 : decode cX4_machineOf 32 = .ok (.imul, 1) := by decide +kernel
theorem dX4_machineOf_33 : decode cX4_machineOf 33 = .ok (.iload_n 2, 1) := by decide +kernel
theorem dX4_machineOf_34 : decode cX4_machineOf 34 = .ok (.iadd, 1) := by decide +kernel
theorem dX4_machineOf_35 : decode cX4_machineOf 35 = .ok (.iaload, 1) := by decide +kernel
theorem dX4_machineOf_36 : decode cX4_machineOf 36 = .ok (.goto 5, 3) := by decide +kernel
theorem dX4_machineOf_39 : decode cX4_machineOf 39 = .ok (.bipush (-4), 2) := by decide +kernel
theorem dX4_machineOf_41 : decode cX4_machineOf 41 = .ok (.ireturn, 1) := by decide +kernel
theorem dX4_endOf_0 : decode cX4_endOf 0 = .ok (.aload_n 0, 1) := by decide +kernel
theorem dX4_endOf_1 : decode cX4_endOf 1 = .ok (.iload_n 1, 1) := by decide +kernel
theorem dX4_endOf_2 : decode cX4_endOf 2 = .ok (.invokevirtual 92, 3) := by decide +kernel
theorem dX4_endOf_5 : decode cX4_endOf 5 = .ok (.ifCond .ne 5, 3) := by decide +kernel
theorem dX4_endOf_8 : decode cX4_endOf 8 = .ok (.iconst (-1), 1) := by decide +kernel
theorem dX4_endOf_9 : decode cX4_endOf 9 = .ok (.ireturn, 1) := by decide +kernel
theorem dX4_endOf_10 : decode cX4_endOf 10 = .ok (.aload_n 0, 1) := by decide +kernel
theorem dX4_endOf_11 : decode cX4_endOf 11 = .ok (.invokevirtual 132, 3) := by decide +kernel
theorem dX4_endOf_14 : decode cX4_endOf 14 = .ok (.pop, 1) := by decide +kernel
theorem dX4_endOf_15 : decode cX4_endOf 15 = .ok (.aload_n 0, 1) := by decide +kernel
theorem dX4_endOf_16 : decode cX4_endOf 16 = .ok (.getfield 40, 3) := by decide +kernel
theorem dX4_endOf_19 : decode cX4_endOf 19 = .ok (.iload_n 1, 1) := by decide +kernel
theorem dX4_endOf_20 : decode cX4_endOf 20 = .ok (.baload, 1) := by decide +kernel
theorem dX4_endOf_21 : decode cX4_endOf 21 = .ok (.ifCond .eq 12, 3) := by decide +kernel
theorem dX4_endOf_24 : decode cX4_endOf 24 = .ok (.aload_n 0, 1) := by decide +kernel
theorem dX4_endOf_25 : decode cX4_endOf 25 = .ok (.getfield 44, 3) := by decide +kernel
theorem dX4_endOf_28 : decode cX4_endOf 28 = .ok (.iload_n 1, 1) := by decide +kernel
theorem dX4_endOf_29 : decode cX4_endOf 29 = .ok (.iaload, 1) := by decide +kernel
theorem dX4_endOf_30 : decode cX4_endOf 30 = .ok (.goto 5, 3) := by decide +kernel
theorem dX4_endOf_33 : decode cX4_endOf 33 = .ok (.bipush (-4), 2) := by decide +kernel
theorem dX4_endOf_35 : decode cX4_endOf 35 = .ok (.ireturn, 1) := by decide +kernel
theorem dX4_delayOf_0 : decode cX4_delayOf 0 = .ok (.aload_n 0, 1) := by decide +kernel
theorem dX4_delayOf_1 : decode cX4_delayOf 1 = .ok (.iload_n 1, 1) := by decide +kernel
theorem dX4_delayOf_2 : decode cX4_delayOf 2 = .ok (.invokevirtual 92, 3) := by decide +kernel
theorem dX4_delayOf_5 : decode cX4_delayOf 5 = .ok (.ifCond .ne 5, 3) := by decide +kernel
theorem dX4_delayOf_8 : decode cX4_delayOf 8 = .ok (.iconst (-1), 1) := by decide +kernel
theorem dX4_delayOf_9 : decode cX4_delayOf 9 = .ok (.ireturn, 1) := by decide +kernel
theorem dX4_delayOf_10 : decode cX4_delayOf 10 = .ok (.aload_n 0, 1) := by decide +kernel
theorem dX4_delayOf_11 : decode cX4_delayOf 11 = .ok (.invokevirtual 132, 3) := by decide +kernel
theorem dX4_delayOf_14 : decode cX4_delayOf 14 = .ok (.pop, 1) := by decide +kernel
theorem dX4_delayOf_15 : decode cX4_delayOf 15 = .ok (.aload_n 0, 1) := by decide +kernel
theorem dX4_delayOf_16 : decode cX4_delayOf 16 = .ok (.getfield 47, 3) := by decide +kernel
theorem dX4_delayOf_19 : decode cX4_delayOf 19 = .ok (.iload_n 1, 1) := by decide +kernel
theorem dX4_delayOf_20 : decode cX4_delayOf 20 = .ok (.iaload, 1) := by decide +kernel
theorem dX4_delayOf_21 : decode cX4_delayOf 21 = .ok (.ireturn, 1) := by decide +kernel
theorem dX4_gapOf_0 : decode cX4_gapOf 0 = .ok (.aload_n 0, 1) := by decide +kernel
theorem dX4_gapOf_1 : decode cX4_gapOf 1 = .ok (.iload_n 1, 1) := by decide +kernel
theorem dX4_gapOf_2 : decode cX4_gapOf 2 = .ok (.invokevirtual 92, 3) := by decide +kernel
theorem dX4_gapOf_5 : decode cX4_gapOf 5 = .ok (.ifCond .ne 5, 3) := by decide +kernel
theorem dX4_gapOf_8 : decode cX4_gapOf 8 = .ok (.iconst (-1), 1) := by decide +kernel
theorem dX4_gapOf_9 : decode cX4_gapOf 9 = .ok (.ireturn, 1) := by decide +kernel
theorem dX4_gapOf_10 : decode cX4_gapOf 10 = .ok (.aload_n 0, 1) := by decide +kernel
theorem dX4_gapOf_11 : decode cX4_gapOf 11 = .ok (.invokevirtual 132, 3) := by decide +kernel
theorem dX4_gapOf_14 : decode cX4_gapOf 14 = .ok (.pop, 1) := by decide +kernel
theorem dX4_gapOf_15 : decode cX4_gapOf 15 = .ok (.aload_n 0, 1) := by decide +kernel
theorem dX4_gapOf_16 : decode cX4_gapOf 16 = .ok (.getfield 50, 3) := by decide +kernel
theorem dX4_gapOf_19 : decode cX4_gapOf 19 = .ok (.iload_n 1, 1) := by decide +kernel
theorem dX4_gapOf_20 : decode cX4_gapOf 20 = .ok (.iaload, 1) := by decide +kernel
theorem dX4_gapOf_21 : decode cX4_gapOf 21 = .ok (.ireturn, 1) := by decide +kernel
theorem dX4_loss_0 : decode cX4_loss 0 = .ok (.aload_n 0, 1) := by decide +kernel
theorem dX4_loss_1 : decode cX4_loss 1 = .ok (.invokevirtual 132, 3) := by decide +kernel
theorem dX4_loss_4 : decode cX4_loss 4 = .ok (.ireturn, 1) := by decide +kernel
theorem dX4_carriedReels_0 : decode cX4_carriedReels 0 = .ok (.aload_n 0, 1) := by decide +kernel
theorem dX4_carriedReels_1 : decode cX4_carriedReels 1 = .ok (.invokevirtual 132, 3) := by decide +kernel
theorem dX4_carriedReels_4 : decode cX4_carriedReels 4 = .ok (.pop, 1) := by decide +kernel
theorem dX4_carriedReels_5 : decode cX4_carriedReels 5 = .ok (.aload_n 0, 1) := by decide +kernel
theorem dX4_carriedReels_6 : decode cX4_carriedReels 6 = .ok (.getfield 105, 3) := by decide +kernel
theorem dX4_carriedReels_9 : decode cX4_carriedReels 9 = .ok (.ireturn, 1) := by decide +kernel
theorem dX4_plateChanges_0 : decode cX4_plateChanges 0 = .ok (.aload_n 0, 1) := by decide +kernel
theorem dX4_plateChanges_1 : decode cX4_plateChanges 1 = .ok (.invokevirtual 132, 3) := by decide +kernel
theorem dX4_plateChanges_4 : decode cX4_plateChanges 4 = .ok (.pop, 1) := by decide +kernel
theorem dX4_plateChanges_5 : decode cX4_plateChanges 5 = .ok (.aload_n 0, 1) := by decide +kernel
theorem dX4_plateChanges_6 : decode cX4_plateChanges 6 = .ok (.getfield 122, 3) := by decide +kernel
theorem dX4_plateChanges_9 : decode cX4_plateChanges 9 = .ok (.ireturn, 1) := by decide +kernel
theorem dX4_machineTime_0 : decode cX4_machineTime 0 = .ok (.aload_n 0, 1) := by decide +kernel
theorem dX4_machineTime_1 : decode cX4_machineTime 1 = .ok (.iload_n 1, 1) := by decide +kernel
theorem dX4_machineTime_2 : decode cX4_machineTime 2 = .ok (.invokevirtual 82, 3) := by decide +kernel
theorem dX4_machineTime_5 : decode cX4_machineTime 5 = .ok (.ifCond .ne 5, 3) := by decide +kernel
theorem dX4_machineTime_8 : decode cX4_machineTime 8 = .ok (.iconst (-1), 1) := by decide +kernel
theorem dX4_machineTime_9 : decode cX4_machineTime 9 = .ok (.ireturn, 1) := by decide +kernel
theorem dX4_machineTime_10 : decode cX4_machineTime 10 = .ok (.aload_n 0, 1) := by decide +kernel
theorem dX4_machineTime_11 : decode cX4_machineTime 11 = .ok (.invokevirtual 132, 3) := by decide +kernel
theorem dX4_machineTime_14 : decode cX4_machineTime 14 = .ok (.pop, 1) := by decide +kernel
theorem dX4_machineTime_15 : decode cX4_machineTime 15 = .ok (.aload_n 0, 1) := by decide +kernel
theorem dX4_machineTime_16 : decode cX4_machineTime 16 = .ok (.getfield 31, 3) := by decide +kernel
theorem dX4_machineTime_19 : decode cX4_machineTime 19 = .ok (.iload_n 1, 1) := by decide +kernel
theorem dX4_machineTime_20 : decode cX4_machineTime 20 = .ok (.iaload, 1) := by decide +kernel
theorem dX4_machineTime_21 : decode cX4_machineTime 21 = .ok (.ireturn, 1) := by decide +kernel
theorem dX4_setsAside_0 : decode cX4_setsAside 0 = .ok (.iconst 0, 1) := by decide +kernel
theorem dX4_setsAside_1 : decode cX4_setsAside 1 = .ok (.istore_n 1, 1) := by decide +kernel
theorem dX4_setsAside_2 : decode cX4_setsAside 2 = .ok (.iload_n 1, 1) := by decide +kernel
theorem dX4_setsAside_3 : decode cX4_setsAside 3 = .ok (.bipush 111, 2) := by decide +kernel
theorem dX4_setsAside_5 : decode cX4_setsAside 5 = .ok (.if_icmp .ge 21, 3) := by decide +kernel
theorem dX4_setsAside_8 : decode cX4_setsAside 8 = .ok (.aload_n 0, 1) := by decide +kernel
theorem dX4_setsAside_9 : decode cX4_setsAside 9 = .ok (.getfield 53, 3) := by decide +kernel
theorem dX4_setsAside_12 : decode cX4_setsAside 12 = .ok (.iload_n 1, 1) := by decide +kernel
theorem dX4_setsAside_13 : decode cX4_setsAside 13 = .ok (.aload_n 0, 1) := by decide +kernel
theorem dX4_setsAside_14 : decode cX4_setsAside 14 = .ok (.getfield 7, 3) := by decide +kernel
theorem dX4_setsAside_17 : decode cX4_setsAside 17 = .ok (.iload_n 1, 1) := by decide +kernel
theorem dX4_setsAside_18 : decode cX4_setsAside 18 = .ok (.iaload, 1) := by decide +kernel
theorem dX4_setsAside_19 : decode cX4_setsAside 19 = .ok (.iastore, 1) := by decide +kernel
theorem dX4_setsAside_20 : decode cX4_setsAside 20 = .ok (.iinc 1 1, 3) := by decide +kernel
theorem dX4_setsAside_23 : decode cX4_setsAside 23 = .ok (.goto (-21), 3) := by decide +kernel
theorem dX4_setsAside_26 : decode cX4_setsAside 26 = .ok (.return_, 1) := by decide +kernel
theorem dX4_takesBack_0 : decode cX4_takesBack 0 = .ok (.iconst 0, 1) := by decide +kernel
theorem dX4_takesBack_1 : decode cX4_takesBack 1 = .ok (.istore_n 1, 1) := by decide +kernel
theorem dX4_takesBack_2 : decode cX4_takesBack 2 = .ok (.iload_n 1, 1) := by decide +kernel
theorem dX4_takesBack_3 : decode cX4_takesBack 3 = .ok (.bipush 111, 2) := by decide +kernel
theorem dX4_takesBack_5 : decode cX4_takesBack 5 = .ok (.if_icmp .ge 21, 3) := by decide +kernel
theorem dX4_takesBack_8 : decode cX4_takesBack 8 = .ok (.aload_n 0, 1) := by decide +kernel
theorem dX4_takesBack_9 : decode cX4_takesBack 9 = .ok (.getfield 7, 3) := by decide +kernel
theorem dX4_takesBack_12 : decode cX4_takesBack 12 = .ok (.iload_n 1, 1) := by decide +kernel
theorem dX4_takesBack_13 : decode cX4_takesBack 13 = .ok (.aload_n 0, 1) := by decide +kernel
theorem dX4_takesBack_14 : decode cX4_takesBack 14 = .ok (.getfield 53, 3) := by decide +kernel
theorem dX4_takesBack_17 : decode cX4_takesBack 17 = .ok (.iload_n 1, 1) := by decide +kernel
theorem dX4_takesBack_18 : decode cX4_takesBack 18 = .ok (.iaload, 1) := by decide +kernel
theorem dX4_takesBack_19 : decode cX4_takesBack 19 = .ok (.iastore, 1) := by decide +kernel
theorem dX4_takesBack_20 : decode cX4_takesBack 20 = .ok (.iinc 1 1, 3) := by decide +kernel
theorem dX4_takesBack_23 : decode cX4_takesBack 23 = .ok (.goto (-21), 3) := by decide +kernel
theorem dX4_takesBack_26 : decode cX4_takesBack 26 = .ok (.return_, 1) := by decide +kernel
theorem dX4_leastShift_0 : decode cX4_leastShift 0 = .ok (.aload_n 0, 1) := by decide +kernel
theorem dX4_leastShift_1 : decode cX4_leastShift 1 = .ok (.iload_n 1, 1) := by decide +kernel
theorem dX4_leastShift_2 : decode cX4_leastShift 2 = .ok (.invokevirtual 92, 3) := by decide +kernel
theorem dX4_leastShift_5 : decode cX4_leastShift 5 = .ok (.ifCond .ne 5, 3) := by decide +kernel
theorem dX4_leastShift_8 : decode cX4_leastShift 8 = .ok (.iconst (-1), 1) := by decide +kernel
theorem dX4_leastShift_9 : decode cX4_leastShift 9 = .ok (.ireturn, 1) := by decide +kernel
theorem dX4_leastShift_10 : decode cX4_leastShift 10 = .ok (.aload_n 0, 1) := by decide +kernel
theorem dX4_leastShift_11 : decode cX4_leastShift 11 = .ok (.invokevirtual 136, 3) := by decide +kernel
theorem dX4_leastShift_14 : decode cX4_leastShift 14 = .ok (.bipush (-4), 2) := by decide +kernel
theorem dX4_leastShift_16 : decode cX4_leastShift 16 = .ok (.istore_n 2, 1) := by decide +kernel
theorem dX4_leastShift_17 : decode cX4_leastShift 17 = .ok (.iconst 0, 1) := by decide +kernel
theorem dX4_leastShift_18 : decode cX4_leastShift 18 = .ok (.istore_n 3, 1) := by decide +kernel
theorem dX4_leastShift_19 : decode cX4_leastShift 19 = .ok (.iload_n 3, 1) := by decide +kernel
theorem dX4_leastShift_20 : decode cX4_leastShift 20 = .ok (.sipush 180, 3) := by decide +kernel
theorem dX4_leastShift_23 : decode cX4_leastShift 23 = .ok (.if_icmp .gt 64, 3) := by decide +kernel
theorem dX4_leastShift_26 : decode cX4_leastShift 26 = .ok (.iload_n 2, 1) := by decide +kernel
theorem dX4_leastShift_27 : decode cX4_leastShift 27 = .ok (.ifCond .ge 60, 3) := by decide +kernel
theorem dX4_leastShift_30 : decode cX4_leastShift 30 = .ok (.aload_n 0, 1) := by decide +kernel
theorem dX4_leastShift_31 : decode cX4_leastShift 31 = .ok (.getfield 53, 3) := by decide +kernel
theorem dX4_leastShift_34 : decode cX4_leastShift 34 = .ok (.bipush 80, 2) := by decide +kernel
theorem dX4_leastShift_36 : decode cX4_leastShift 36 = .ok (.iload_n 1, 1) := by decide +kernel
theorem dX4_leastShift_37 : decode cX4_leastShift 37 = .ok (.iadd, 1) := by decide +kernel
theorem dX4_leastShift_38 : decode cX4_leastShift 38 = .ok (.iaload, 1) := by decide +kernel
theorem dX4_leastShift_39 : decode cX4_leastShift 39 = .ok (.iload_n 3, 1) := by decide +kernel
theorem dX4_leastShift_40 : decode cX4_leastShift 40 = .ok (.iadd, 1) := by decide +kernel
theorem dX4_leastShift_41 : decode cX4_leastShift 41 = .ok (.sipush 1439, 3) := by decide +kernel
theorem dX4_leastShift_44 : decode cX4_leastShift 44 = .ok (.if_icmp .gt 43, 3) := by decide +kernel
theorem dX4_leastShift_47 : decode cX4_leastShift 47 = .ok (.aload_n 0, 1) := by decide +kernel
theorem dX4_leastShift_48 : decode cX4_leastShift 48 = .ok (.getfield 7, 3) := by decide +kernel
theorem dX4_leastShift_51 : decode cX4_leastShift 51 = .ok (.bipush 80, 2) := by decide +kernel
theorem dX4_leastShift_53 : decode cX4_leastShift 53 = .ok (.iload_n 1, 1) := by decide +kernel
theorem dX4_leastShift_54 : decode cX4_leastShift 54 = .ok (.iadd, 1) := by decide +kernel
theorem dX4_leastShift_55 : decode cX4_leastShift 55 = .ok (.aload_n 0, 1) := by decide +kernel
theorem dX4_leastShift_56 : decode cX4_leastShift 56 = .ok (.getfield 53, 3) := by decide +kernel
theorem dX4_leastShift_59 : decode cX4_leastShift 59 = .ok (.bipush 80, 2) := by decide +kernel
theorem dX4_leastShift_61 : decode cX4_leastShift 61 = .ok (.iload_n 1, 1) := by decide +kernel
theorem dX4_leastShift_62 : decode cX4_leastShift 62 = .ok (.iadd, 1) := by decide +kernel
theorem dX4_leastShift_63 : decode cX4_leastShift 63 = .ok (.iaload, 1) := by decide +kernel
theorem dX4_leastShift_64 : decode cX4_leastShift 64 = .ok (.iload_n 3, 1) := by decide +kernel
theorem dX4_leastShift_65 : decode cX4_leastShift 65 = .ok (.iadd, 1) := by decide +kernel
theorem dX4_leastShift_66 : decode cX4_leastShift 66 = .ok (.iastore, 1) := by decide +kernel
theorem dX4_leastShift_67 : decode cX4_leastShift 67 = .ok (.aload_n 0, 1) := by decide +kernel
theorem dX4_leastShift_68 : decode cX4_leastShift 68 = .ok (.invokevirtual 132, 3) := by decide +kernel
theorem dX4_leastShift_71 : decode cX4_leastShift 71 = .ok (.ifCond .ne 7, 3) := by decide +kernel
theorem dX4_leastShift_74 : decode cX4_leastShift 74 = .ok (.iload_n 3, 1) := by decide +kernel
theorem dX4_leastShift_75 : decode cX4_leastShift 75 = .ok (.goto 5, 3) := by decide +kernel
theorem dX4_leastShift_78 : decode cX4_leastShift 78 = .ok (.bipush (-4), 2) := by decide +kernel
theorem dX4_leastShift_80 : decode cX4_leastShift 80 = .ok (.istore_n 2, 1) := by decide +kernel
theorem dX4_leastShift_81 : decode cX4_leastShift 81 = .ok (.iinc 3 1, 3) := by decide +kernel
theorem dX4_leastShift_84 : decode cX4_leastShift 84 = .ok (.goto (-65), 3) := by decide +kernel
theorem dX4_leastShift_87 : decode cX4_leastShift 87 = .ok (.aload_n 0, 1) := by decide +kernel
theorem dX4_leastShift_88 : decode cX4_leastShift 88 = .ok (.invokevirtual 139, 3) := by decide +kernel
theorem dX4_leastShift_91 : decode cX4_leastShift 91 = .ok (.iload_n 2, 1) := by decide +kernel
theorem dX4_leastShift_92 : decode cX4_leastShift 92 = .ok (.ireturn, 1) := by decide +kernel
theorem dX4_removalGain_0 : decode cX4_removalGain 0 = .ok (.aload_n 0, 1) := by decide +kernel
theorem dX4_removalGain_1 : decode cX4_removalGain 1 = .ok (.iload_n 1, 1) := by decide +kernel
theorem dX4_removalGain_2 : decode cX4_removalGain 2 = .ok (.invokevirtual 92, 3) := by decide +kernel
theorem dX4_removalGain_5 : decode cX4_removalGain 5 = .ok (.ifCond .ne 6, 3) := by decide +kernel
theorem dX4_removalGain_8 : decode cX4_removalGain 8 = .ok (.ldc 142, 2) := by decide +kernel
theorem dX4_removalGain_10 : decode cX4_removalGain 10 = .ok (.ireturn, 1) := by decide +kernel
theorem dX4_removalGain_11 : decode cX4_removalGain 11 = .ok (.aload_n 0, 1) := by decide +kernel
theorem dX4_removalGain_12 : decode cX4_removalGain 12 = .ok (.invokevirtual 132, 3) := by decide +kernel
theorem dX4_removalGain_15 : decode cX4_removalGain 15 = .ok (.istore_n 2, 1) := by decide +kernel
theorem dX4_removalGain_16 : decode cX4_removalGain 16 = .ok (.aload_n 0, 1) := by decide +kernel
theorem dX4_removalGain_17 : decode cX4_removalGain 17 = .ok (.invokevirtual 136, 3) := by decide +kernel
theorem dX4_removalGain_20 : decode cX4_removalGain 20 = .ok (.aload_n 0, 1) := by decide +kernel
theorem dX4_removalGain_21 : decode cX4_removalGain 21 = .ok (.iload_n 1, 1) := by decide +kernel
theorem dX4_removalGain_22 : decode cX4_removalGain 22 = .ok (.invokevirtual 95, 3) := by decide +kernel
theorem dX4_removalGain_25 : decode cX4_removalGain 25 = .ok (.aload_n 0, 1) := by decide +kernel
theorem dX4_removalGain_26 : decode cX4_removalGain 26 = .ok (.invokevirtual 132, 3) := by decide +kernel
theorem dX4_removalGain_29 : decode cX4_removalGain 29 = .ok (.istore_n 3, 1) := by decide +kernel
theorem dX4_removalGain_30 : decode cX4_removalGain 30 = .ok (.aload_n 0, 1) := by decide +kernel
theorem dX4_removalGain_31 : decode cX4_removalGain 31 = .ok (.invokevirtual 139, 3) := by decide +kernel
theorem dX4_removalGain_34 : decode cX4_removalGain 34 = .ok (.iload_n 2, 1) := by decide +kernel
theorem dX4_removalGain_35 : decode cX4_removalGain 35 = .ok (.iload_n 3, 1) := by decide +kernel
theorem dX4_removalGain_36 : decode cX4_removalGain 36 = .ok (.isub, 1) := by decide +kernel
theorem dX4_removalGain_37 : decode cX4_removalGain 37 = .ok (.ireturn, 1) := by decide +kernel
theorem dX4_bestHomes_0 : decode cX4_bestHomes 0 = .ok (.aload_n 0, 1) := by decide +kernel
theorem dX4_bestHomes_1 : decode cX4_bestHomes 1 = .ok (.invokevirtual 136, 3) := by decide +kernel
theorem dX4_bestHomes_4 : decode cX4_bestHomes 4 = .ok (.iconst 0, 1) := by decide +kernel
theorem dX4_bestHomes_5 : decode cX4_bestHomes 5 = .ok (.istore_n 1, 1) := by decide +kernel
theorem dX4_bestHomes_6 : decode cX4_bestHomes 6 = .ok (.iconst 0, 1) := by decide +kernel
theorem dX4_bestHomes_7 : decode cX4_bestHomes 7 = .ok (.istore_n 2, 1) := by decide +kernel
theorem dX4_bestHomes_8 : decode cX4_bestHomes 8 = .ok (.iconst 0, 1) := by decide +kernel
theorem dX4_bestHomes_9 : decode cX4_bestHomes 9 = .ok (.istore_n 3, 1) := by decide +kernel
theorem dX4_bestHomes_10 : decode cX4_bestHomes 10 = .ok (.iload_n 3, 1) := by decide +kernel
theorem dX4_bestHomes_11 : decode cX4_bestHomes 11 = .ok (.bipush 16, 2) := by decide +kernel
theorem dX4_bestHomes_13 : decode cX4_bestHomes 13 = .ok (.if_icmp .ge 61, 3) := by decide +kernel
theorem dX4_bestHomes_16 : decode cX4_bestHomes 16 = .ok (.iconst 0, 1) := by decide +kernel
theorem dX4_bestHomes_17 : decode cX4_bestHomes 17 = .ok (.istore 4, 2) := by decide +kernel
theorem dX4_bestHomes_19 : decode cX4_bestHomes 19 = .ok (.iload 4, 2) := by decide +kernel
theorem dX4_bestHomes_21 : decode cX4_bestHomes 21 = .ok (.iconst 4, 1) := by decide +kernel
theorem dX4_bestHomes_22 : decode cX4_bestHomes 22 = .ok (.if_icmp .ge 25, 3) := by decide +kernel
theorem dX4_bestHomes_25 : decode cX4_bestHomes 25 = .ok (.aload_n 0, 1) := by decide +kernel
theorem dX4_bestHomes_26 : decode cX4_bestHomes 26 = .ok (.getfield 7, 3) := by decide +kernel
theorem dX4_bestHomes_29 : decode cX4_bestHomes 29 = .ok (.bipush 52, 2) := by decide +kernel
theorem dX4_bestHomes_31 : decode cX4_bestHomes 31 = .ok (.iload 4, 2) := by decide +kernel
theorem dX4_bestHomes_33 : decode cX4_bestHomes 33 = .ok (.iadd, 1) := by decide +kernel
theorem dX4_bestHomes_34 : decode cX4_bestHomes 34 = .ok (.iload_n 3, 1) := by decide +kernel
theorem dX4_bestHomes_35 : decode cX4_bestHomes 35 = .ok (.iload 4, 2) := by decide +kernel
theorem dX4_bestHomes_37 : decode cX4_bestHomes 37 = .ok (.ishr, 1) := by decide +kernel
theorem dX4_bestHomes_38 : decode cX4_bestHomes 38 = .ok (.iconst 1, 1) := by decide +kernel
theorem dX4_bestHomes_39 : decode cX4_bestHomes 39 = .ok (.iand, 1) := by decide +kernel
theorem dX4_bestHomes_40 : decode cX4_bestHomes 40 = .ok (.iastore, 1) := by decide +kernel
theorem dX4_bestHomes_41 : decode cX4_bestHomes 41 = .ok (.iinc 4 1, 3) := by decide +kernel
theorem dX4_bestHomes_44 : decode cX4_bestHomes 44 = .ok (.goto (-25), 3) := by decide +kernel
theorem dX4_bestHomes_47 : decode cX4_bestHomes 47 = .ok (.aload_n 0, 1) := by decide +kernel
theorem dX4_bestHomes_48 : decode cX4_bestHomes 48 = .ok (.invokevirtual 132, 3) := by decide +kernel
theorem dX4_bestHomes_51 : decode cX4_bestHomes 51 = .ok (.istore 4, 2) := by decide +kernel
theorem dX4_bestHomes_53 : decode cX4_bestHomes 53 = .ok (.iload_n 3, 1) := by decide +kernel
theorem dX4_bestHomes_54 : decode cX4_bestHomes 54 = .ok (.ifCond .eq 9, 3) := by decide +kernel
theorem dX4_bestHomes_57 : decode cX4_bestHomes 57 = .ok (.iload 4, 2) := by decide +kernel
theorem dX4_bestHomes_59 : decode cX4_bestHomes 59 = .ok (.iload_n 2, 1) := by decide +kernel
theorem dX4_bestHomes_60 : decode cX4_bestHomes 60 = .ok (.if_icmp .ge 8, 3) := by decide +kernel
theorem dX4_bestHomes_63 : decode cX4_bestHomes 63 = .ok (.iload_n 3, 1) := by decide +kernel
theorem dX4_bestHomes_64 : decode cX4_bestHomes 64 = .ok (.istore_n 1, 1) := by decide +kernel
theorem dX4_bestHomes_65 : decode cX4_bestHomes 65 = .ok (.iload 4, 2) := by decide +kernel
theorem dX4_bestHomes_67 : decode cX4_bestHomes 67 = .ok (.istore_n 2, 1) := by decide +kernel
theorem dX4_bestHomes_68 : decode cX4_bestHomes 68 = .ok (.iinc 3 1, 3) := by decide +kernel
theorem dX4_bestHomes_71 : decode cX4_bestHomes 71 = .ok (.goto (-61), 3) := by decide +kernel
theorem dX4_bestHomes_74 : decode cX4_bestHomes 74 = .ok (.aload_n 0, 1) := by decide +kernel
theorem dX4_bestHomes_75 : decode cX4_bestHomes 75 = .ok (.invokevirtual 139, 3) := by decide +kernel
theorem dX4_bestHomes_78 : decode cX4_bestHomes 78 = .ok (.iload_n 1, 1) := by decide +kernel
theorem dX4_bestHomes_79 : decode cX4_bestHomes 79 = .ok (.ireturn, 1) := by decide +kernel
theorem dX4_missingMachines_0 : decode cX4_missingMachines 0 = .ok (.iload_n 1, 1) := by decide +kernel
theorem dX4_missingMachines_1 : decode cX4_missingMachines 1 = .ok (.invokestatic 79, 3) := by decide +kernel
theorem dX4_missingMachines_4 : decode cX4_missingMachines 4 = .ok (.ifCond .ne 5, 3) := by decide +kernel
theorem dX4_missingMachines_7 : decode cX4_missingMachines 7 = .ok (.iconst (-1), 1) := by decide +kernel
theorem dX4_missingMachines_8 : decode cX4_missingMachines 8 = .ok (.ireturn, 1) := by decide +kernel
theorem dX4_missingMachines_9 : decode cX4_missingMachines 9 = .ok (.aload_n 0, 1) := by decide +kernel
theorem dX4_missingMachines_10 : decode cX4_missingMachines 10 = .ok (.invokevirtual 136, 3) := by decide +kernel
theorem dX4_missingMachines_13 : decode cX4_missingMachines 13 = .ok (.bipush (-4), 2) := by decide +kernel
theorem dX4_missingMachines_15 : decode cX4_missingMachines 15 = .ok (.istore_n 2, 1) := by decide +kernel
theorem dX4_missingMachines_16 : decode cX4_missingMachines 16 = .ok (.iconst 0, 1) := by decide +kernel
theorem dX4_missingMachines_17 : decode cX4_missingMachines 17 = .ok (.istore_n 3, 1) := by decide +kernel
theorem dX4_missingMachines_18 : decode cX4_missingMachines 18 = .ok (.iload_n 2, 1) := by decide +kernel
theorem dX4_missingMachines_19 : decode cX4_missingMachines 19 = .ok (.ifCond .ge 72, 3) := by decide +kernel
theorem dX4_missingMachines_22 : decode cX4_missingMachines 22 = .ok (.aload_n 0, 1) := by decide +kernel
theorem dX4_missingMachines_23 : decode cX4_missingMachines 23 = .ok (.getfield 7, 3) := by decide +kernel
theorem dX4_missingMachines_26 : decode cX4_missingMachines 26 = .ok (.bipush 56, 2) := by decide +kernel
theorem dX4_missingMachines_28 : decode cX4_missingMachines 28 = .ok (.iaload, 1) := by decide +kernel
theorem dX4_missingMachines_29 : decode cX4_missingMachines 29 = .ok (.iconst 5, 1) := by decide +kernel
theorem dX4_missingMachines_30 : decode cX4_missingMachines 30 = .ok (.if_icmp .gt 61, 3) := by decide +kernel
theorem dX4_missingMachines_33 : decode cX4_missingMachines 33 = .ok (.aload_n 0, 1) := by decide +kernel
theorem dX4_missingMachines_34 : decode cX4_missingMachines 34 = .ok (.invokevirtual 132, 3) := by decide +kernel
theorem dX4_missingMachines_37 : decode cX4_missingMachines 37 = .ok (.ifCond .ne 7, 3) := by decide +kernel
theorem dX4_missingMachines_40 : decode cX4_missingMachines 40 = .ok (.iload_n 3, 1) := by decide +kernel
theorem dX4_missingMachines_41 : decode cX4_missingMachines 41 = .ok (.goto 5, 3) := by decide +kernel
theorem dX4_missingMachines_44 : decode cX4_missingMachines 44 = .ok (.bipush (-4), 2) := by decide +kernel
theorem dX4_missingMachines_46 : decode cX4_missingMachines 46 = .ok (.istore_n 2, 1) := by decide +kernel
theorem dX4_missingMachines_47 : decode cX4_missingMachines 47 = .ok (.aload_n 0, 1) := by decide +kernel
theorem dX4_missingMachines_48 : decode cX4_missingMachines 48 = .ok (.getfield 7, 3) := by decide +kernel
theorem dX4_missingMachines_51 : decode cX4_missingMachines 51 = .ok (.bipush 56, 2) := by decide +kernel
theorem dX4_missingMachines_53 : decode cX4_missingMachines 53 = .ok (.iaload, 1) := by decide +kernel
theorem dX4_missingMachines_54 : decode cX4_missingMachines 54 = .ok (.iconst 5, 1) := by decide +kernel
theorem dX4_missingMachines_55 : decode cX4_missingMachines 55 = .ok (.if_icmp .ge 19, 3) := by decide +kernel
theorem dX4_missingMachines_58 : decode cX4_missingMachines 58 = .ok (.aload_n 0, 1) := by decide +kernel
theorem dX4_missingMachines_59 : decode cX4_missingMachines 59 = .ok (.getfield 7, 3) := by decide +kernel
theorem dX4_missingMachines_62 : decode cX4_missingMachines 62 = .ok (.bipush 57, 2) := by decide +kernel
theorem dX4_missingMachines_64 : decode cX4_missingMachines 64 = .ok (.aload_n 0, 1) := by decide +kernel
theorem dX4_missingMachines_65 : decode cX4_missingMachines 65 = .ok (.getfield 7, 3) := by decide +kernel
theorem dX4_missingMachines_68 : decode cX4_missingMachines 68 = .ok (.bipush 56, 2) := by decide +kernel
theorem dX4_missingMachines_70 : decode cX4_missingMachines 70 = .ok (.iaload, 1) := by decide +kernel
theorem dX4_missingMachines_71 : decode cX4_missingMachines 71 = .ok (.iadd, 1) := by decide +kernel
theorem dX4_missingMachines_72 : decode cX4_missingMachines 72 = .ok (.iload_n 1, 1) := by decide +kernel
theorem dX4_missingMachines_73 : decode cX4_missingMachines 73 = .ok (.iastore, 1) := by decide +kernel
theorem dX4_missingMachines_74 : decode cX4_missingMachines 74 = .ok (.aload_n 0, 1) := by decide +kernel
theorem dX4_missingMachines_75 : decode cX4_missingMachines 75 = .ok (.getfield 7, 3) := by decide +kernel
theorem dX4_missingMachines_78 : decode cX4_missingMachines 78 = .ok (.bipush 56, 2) := by decide +kernel
theorem dX4_missingMachines_80 : decode cX4_missingMachines 80 = .ok (.dup2, 1) := by decide +kernel
theorem dX4_missingMachines_81 : decode cX4_missingMachines 81 = .ok (.iaload, 1) := by decide +kernel
theorem dX4_missingMachines_82 : decode cX4_missingMachines 82 = .ok (.iconst 1, 1) := by decide +kernel
theorem dX4_missingMachines_83 : decode cX4_missingMachines 83 = .ok (.iadd, 1) := by decide +kernel
theorem dX4_missingMachines_84 : decode cX4_missingMachines 84 = .ok (.iastore, 1) := by decide +kernel
theorem dX4_missingMachines_85 : decode cX4_missingMachines 85 = .ok (.iinc 3 1, 3) := by decide +kernel
theorem dX4_missingMachines_88 : decode cX4_missingMachines 88 = .ok (.goto (-70), 3) := by decide +kernel
theorem dX4_missingMachines_91 : decode cX4_missingMachines 91 = .ok (.aload_n 0, 1) := by decide +kernel
theorem dX4_missingMachines_92 : decode cX4_missingMachines 92 = .ok (.invokevirtual 139, 3) := by decide +kernel
theorem dX4_missingMachines_95 : decode cX4_missingMachines 95 = .ok (.iload_n 2, 1) := by decide +kernel
theorem dX4_missingMachines_96 : decode cX4_missingMachines 96 = .ok (.ireturn, 1) := by decide +kernel
theorem dJ9_max_7cf53_0 : decode cJ9_max_7cf53 0 = .ok (.iload_n 0, 1) := by decide +kernel
theorem dJ9_max_7cf53_1 : decode cJ9_max_7cf53 1 = .ok (.iload_n 1, 1) := by decide +kernel
theorem dJ9_max_7cf53_2 : decode cJ9_max_7cf53 2 = .ok (.if_icmp .lt 7, 3) := by decide +kernel
theorem dJ9_max_7cf53_5 : decode cJ9_max_7cf53 5 = .ok (.iload_n 0, 1) := by decide +kernel
theorem dJ9_max_7cf53_6 : decode cJ9_max_7cf53 6 = .ok (.goto 4, 3) := by decide +kernel
theorem dJ9_max_7cf53_9 : decode cJ9_max_7cf53 9 = .ok (.iload_n 1, 1) := by decide +kernel
theorem dJ9_max_7cf53_10 : decode cJ9_max_7cf53 10 = .ok (.ireturn, 1) := by decide +kernel
theorem dJ9_min_7cf53_0 : decode cJ9_min_7cf53 0 = .ok (.iload_n 0, 1) := by decide +kernel
theorem dJ9_min_7cf53_1 : decode cJ9_min_7cf53 1 = .ok (.iload_n 1, 1) := by decide +kernel
theorem dJ9_min_7cf53_2 : decode cJ9_min_7cf53 2 = .ok (.if_icmp .gt 7, 3) := by decide +kernel
theorem dJ9_min_7cf53_5 : decode cJ9_min_7cf53 5 = .ok (.iload_n 0, 1) := by decide +kernel
theorem dJ9_min_7cf53_6 : decode cJ9_min_7cf53 6 = .ok (.goto 4, 3) := by decide +kernel
theorem dJ9_min_7cf53_9 : decode cJ9_min_7cf53 9 = .ok (.iload_n 1, 1) := by decide +kernel
theorem dJ9_min_7cf53_10 : decode cJ9_min_7cf53 10 = .ok (.ireturn, 1) := by decide +kernel
theorem dL_law_0 : decode cL_law 0 = .ok (.new 7, 3) := by decide +kernel
theorem dL_law_3 : decode cL_law 3 = .ok (.dup, 1) := by decide +kernel
theorem dL_law_4 : decode cL_law 4 = .ok (.invokespecial 9, 3) := by decide +kernel
theorem dL_law_7 : decode cL_law 7 = .ok (.astore_n 1, 1) := by decide +kernel
theorem dL_law_8 : decode cL_law 8 = .ok (.new 10, 3) := by decide +kernel
theorem dL_law_11 : decode cL_law 11 = .ok (.dup, 1) := by decide +kernel
theorem dL_law_12 : decode cL_law 12 = .ok (.invokespecial 12, 3) := by decide +kernel
theorem dL_law_15 : decode cL_law 15 = .ok (.astore_n 2, 1) := by decide +kernel
theorem dL_law_16 : decode cL_law 16 = .ok (.iconst 0, 1) := by decide +kernel
theorem dL_law_17 : decode cL_law 17 = .ok (.istore_n 3, 1) := by decide +kernel
theorem dL_law_18 : decode cL_law 18 = .ok (.iload_n 3, 1) := by decide +kernel
theorem dL_law_19 : decode cL_law 19 = .ok (.aload_n 0, 1) := by decide +kernel
theorem dL_law_20 : decode cL_law 20 = .ok (.arraylength, 1) := by decide +kernel
theorem dL_law_21 : decode cL_law 21 = .ok (.iconst 4, 1) := by decide +kernel
theorem dL_law_22 : decode cL_law 22 = .ok (.isub, 1) := by decide +kernel
theorem dL_law_23 : decode cL_law 23 = .ok (.if_icmp .gt 837, 3) := by decide +kernel
theorem dL_law_26 : decode cL_law 26 = .ok (.aload_n 0, 1) := by decide +kernel
theorem dL_law_27 : decode cL_law 27 = .ok (.iload_n 3, 1) := by decide +kernel
theorem dL_law_28 : decode cL_law 28 = .ok (.iaload, 1) := by decide +kernel
theorem dL_law_29 : decode cL_law 29 = .ok (.bipush 31, 2) := by decide +kernel
theorem dL_law_31 : decode cL_law 31 = .ok (.iand, 1) := by decide +kernel
theorem dL_law_32 : decode cL_law 32 = .ok (.tableswitch 822 0 27 #[128, 171, 194, 227, 250, 273, 296, 319, 342, 375, 418, 441, 474, 517, 530, 563, 596, 619, 642, 665, 678, 691, 704, 727, 750, 773, 786, 809], 128) := by decide +kernel
theorem dL_law_160 : decode cL_law 160 = .ok (.aload_n 1, 1) := by decide +kernel
theorem dL_law_161 : decode cL_law 161 = .ok (.aload_n 0, 1) := by decide +kernel
theorem dL_law_162 : decode cL_law 162 = .ok (.iload_n 3, 1) := by decide +kernel
theorem dL_law_163 : decode cL_law 163 = .ok (.iconst 1, 1) := by decide +kernel
theorem dL_law_164 : decode cL_law 164 = .ok (.iadd, 1) := by decide +kernel
theorem dL_law_165 : decode cL_law 165 = .ok (.iaload, 1) := by decide +kernel
theorem dL_law_166 : decode cL_law 166 = .ok (.aload_n 0, 1) := by decide +kernel
theorem dL_law_167 : decode cL_law 167 = .ok (.iload_n 3, 1) := by decide +kernel
theorem dL_law_168 : decode cL_law 168 = .ok (.iconst 2, 1) := by decide +kernel
theorem dL_law_169 : decode cL_law 169 = .ok (.iadd, 1) := by decide +kernel
theorem dL_law_170 : decode cL_law 170 = .ok (.iaload, 1) := by decide +kernel
theorem dL_law_171 : decode cL_law 171 = .ok (.aload_n 0, 1) := by decide +kernel
theorem dL_law_172 : decode cL_law 172 = .ok (.iload_n 3, 1) := by decide +kernel
theorem dL_law_173 : decode cL_law 173 = .ok (.iconst 3, 1) := by decide +kernel
theorem dL_law_174 : decode cL_law 174 = .ok (.iadd, 1) := by decide +kernel
theorem dL_law_175 : decode cL_law 175 = .ok (.iaload, 1) := by decide +kernel
theorem dL_law_176 : decode cL_law 176 = .ok (.invokevirtual 13, 3) := by decide +kernel
theorem dL_law_179 : decode cL_law 179 = .ok (.aload_n 2, 1) := by decide +kernel
theorem dL_law_180 : decode cL_law 180 = .ok (.aload_n 0, 1) := by decide +kernel
theorem dL_law_181 : decode cL_law 181 = .ok (.iload_n 3, 1) := by decide +kernel
theorem dL_law_182 : decode cL_law 182 = .ok (.iconst 1, 1) := by decide +kernel
theorem dL_law_183 : decode cL_law 183 = .ok (.iadd, 1) := by decide +kernel
theorem dL_law_184 : decode cL_law 184 = .ok (.iaload, 1) := by decide +kernel
theorem dL_law_185 : decode cL_law 185 = .ok (.aload_n 0, 1) := by decide +kernel
theorem dL_law_186 : decode cL_law 186 = .ok (.iload_n 3, 1) := by decide +kernel
theorem dL_law_187 : decode cL_law 187 = .ok (.iconst 2, 1) := by decide +kernel
theorem dL_law_188 : decode cL_law 188 = .ok (.iadd, 1) := by decide +kernel
theorem dL_law_189 : decode cL_law 189 = .ok (.iaload, 1) := by decide +kernel
theorem dL_law_190 : decode cL_law 190 = .ok (.aload_n 0, 1) := by decide +kernel
theorem dL_law_191 : decode cL_law 191 = .ok (.iload_n 3, 1) := by decide +kernel
theorem dL_law_192 : decode cL_law 192 = .ok (.iconst 3, 1) := by decide +kernel
theorem dL_law_193 : decode cL_law 193 = .ok (.iadd, 1) := by decide +kernel
theorem dL_law_194 : decode cL_law 194 = .ok (.iaload, 1) := by decide +kernel
theorem dL_law_195 : decode cL_law 195 = .ok (.invokevirtual 17, 3) := by decide +kernel
theorem dL_law_198 : decode cL_law 198 = .ok (.if_icmp .eq 656, 3) := by decide +kernel
theorem dL_law_201 : decode cL_law 201 = .ok (.iconst 0, 1) := by decide +kernel
theorem dL_law_202 : decode cL_law 202 = .ok (.ireturn, 1) := by decide +kernel
theorem dL_law_203 : decode cL_law 203 = .ok (.aload_n 1, 1) := by decide +kernel
theorem dL_law_204 : decode cL_law 204 = .ok (.aload_n 0, 1) := by decide +kernel
theorem dL_law_205 : decode cL_law 205 = .ok (.iload_n 3, 1) := by decide +kernel
theorem dL_law_206 : decode cL_law 206 = .ok (.iconst 1, 1) := by decide +kernel
theorem dL_law_207 : decode cL_law 207 = .ok (.iadd, 1) := by decide +kernel
theorem dL_law_208 : decode cL_law 208 = .ok (.iaload, 1) := by decide +kernel
theorem dL_law_209 : decode cL_law 209 = .ok (.invokevirtual 18, 3) := by decide +kernel
theorem dL_law_212 : decode cL_law 212 = .ok (.aload_n 2, 1) := by decide +kernel
theorem dL_law_213 : decode cL_law 213 = .ok (.aload_n 0, 1) := by decide +kernel
theorem dL_law_214 : decode cL_law 214 = .ok (.iload_n 3, 1) := by decide +kernel
theorem dL_law_215 : decode cL_law 215 = .ok (.iconst 1, 1) := by decide +kernel
theorem dL_law_216 : decode cL_law 216 = .ok (.iadd, 1) := by decide +kernel
theorem dL_law_217 : decode cL_law 217 = .ok (.iaload, 1) := by decide +kernel
theorem dL_law_218 : decode cL_law 218 = .ok (.invokevirtual 22, 3) := by decide +kernel
theorem dL_law_221 : decode cL_law 221 = .ok (.if_icmp .eq 633, 3) := by decide +kernel
theorem dL_law_224 : decode cL_law 224 = .ok (.iconst 0, 1) := by decide +kernel
theorem dL_law_225 : decode cL_law 225 = .ok (.ireturn, 1) := by decide +kernel
theorem dL_law_226 : decode cL_law 226 = .ok (.aload_n 1, 1) := by decide +kernel
theorem dL_law_227 : decode cL_law 227 = .ok (.aload_n 0, 1) := by decide +kernel
theorem dL_law_228 : decode cL_law 228 = .ok (.iload_n 3, 1) := by decide +kernel
theorem dL_law_229 : decode cL_law 229 = .ok (.iconst 1, 1) := by decide +kernel
theorem dL_law_230 : decode cL_law 230 = .ok (.iadd, 1) := by decide +kernel
theorem dL_law_231 : decode cL_law 231 = .ok (.iaload, 1) := by decide +kernel
theorem dL_law_232 : decode cL_law 232 = .ok (.aload_n 0, 1) := by decide +kernel
theorem dL_law_233 : decode cL_law 233 = .ok (.iload_n 3, 1) := by decide +kernel
theorem dL_law_234 : decode cL_law 234 = .ok (.iconst 2, 1) := by decide +kernel
theorem dL_law_235 : decode cL_law 235 = .ok (.iadd, 1) := by decide +kernel
theorem dL_law_236 : decode cL_law 236 = .ok (.iaload, 1) := by decide +kernel
theorem dL_law_237 : decode cL_law 237 = .ok (.invokevirtual 23, 3) := by decide +kernel
theorem dL_law_240 : decode cL_law 240 = .ok (.aload_n 2, 1) := by decide +kernel
theorem dL_law_241 : decode cL_law 241 = .ok (.aload_n 0, 1) := by decide +kernel
theorem dL_law_242 : decode cL_law 242 = .ok (.iload_n 3, 1) := by decide +kernel
theorem dL_law_243 : decode cL_law 243 = .ok (.iconst 1, 1) := by decide +kernel
theorem dL_law_244 : decode cL_law 244 = .ok (.iadd, 1) := by decide +kernel
theorem dL_law_245 : decode cL_law 245 = .ok (.iaload, 1) := by decide +kernel
theorem dL_law_246 : decode cL_law 246 = .ok (.aload_n 0, 1) := by decide +kernel
theorem dL_law_247 : decode cL_law 247 = .ok (.iload_n 3, 1) := by decide +kernel
theorem dL_law_248 : decode cL_law 248 = .ok (.iconst 2, 1) := by decide +kernel
theorem dL_law_249 : decode cL_law 249 = .ok (.iadd, 1) := by decide +kernel
theorem dL_law_250 : decode cL_law 250 = .ok (.iaload, 1) := by decide +kernel
theorem dL_law_251 : decode cL_law 251 = .ok (.invokevirtual 27, 3) := by decide +kernel
theorem dL_law_254 : decode cL_law 254 = .ok (.if_icmp .eq 600, 3) := by decide +kernel
theorem dL_law_257 : decode cL_law 257 = .ok (.iconst 0, 1) := by decide +kernel
theorem dL_law_258 : decode cL_law 258 = .ok (.ireturn, 1) := by decide +kernel
theorem dL_law_259 : decode cL_law 259 = .ok (.aload_n 1, 1) := by decide +kernel
theorem dL_law_260 : decode cL_law 260 = .ok (.aload_n 0, 1) := by decide +kernel
theorem dL_law_261 : decode cL_law 261 = .ok (.iload_n 3, 1) := by decide +kernel
theorem dL_law_262 : decode cL_law 262 = .ok (.iconst 1, 1) := by decide +kernel
theorem dL_law_263 : decode cL_law 263 = .ok (.iadd, 1) := by decide +kernel
theorem dL_law_264 : decode cL_law 264 = .ok (.iaload, 1) := by decide +kernel
theorem dL_law_265 : decode cL_law 265 = .ok (.invokevirtual 28, 3) := by decide +kernel
theorem dL_law_268 : decode cL_law 268 = .ok (.aload_n 2, 1) := by decide +kernel
theorem dL_law_269 : decode cL_law 269 = .ok (.aload_n 0, 1) := by decide +kernel
theorem dL_law_270 : decode cL_law 270 = .ok (.iload_n 3, 1) := by decide +kernel
theorem dL_law_271 : decode cL_law 271 = .ok (.iconst 1, 1) := by decide +kernel
theorem dL_law_272 : decode cL_law 272 = .ok (.iadd, 1) := by decide +kernel
theorem dL_law_273 : decode cL_law 273 = .ok (.iaload, 1) := by decide +kernel
theorem dL_law_274 : decode cL_law 274 = .ok (.invokevirtual 31, 3) := by decide +kernel
theorem dL_law_277 : decode cL_law 277 = .ok (.if_icmp .eq 577, 3) := by decide +kernel
theorem dL_law_280 : decode cL_law 280 = .ok (.iconst 0, 1) := by decide +kernel
theorem dL_law_281 : decode cL_law 281 = .ok (.ireturn, 1) := by decide +kernel
theorem dL_law_282 : decode cL_law 282 = .ok (.aload_n 1, 1) := by decide +kernel
theorem dL_law_283 : decode cL_law 283 = .ok (.aload_n 0, 1) := by decide +kernel
theorem dL_law_284 : decode cL_law 284 = .ok (.iload_n 3, 1) := by decide +kernel
theorem dL_law_285 : decode cL_law 285 = .ok (.iconst 1, 1) := by decide +kernel
theorem dL_law_286 : decode cL_law 286 = .ok (.iadd, 1) := by decide +kernel
theorem dL_law_287 : decode cL_law 287 = .ok (.iaload, 1) := by decide +kernel
theorem dL_law_288 : decode cL_law 288 = .ok (.invokevirtual 32, 3) := by decide +kernel
theorem dL_law_291 : decode cL_law 291 = .ok (.aload_n 2, 1) := by decide +kernel
theorem dL_law_292 : decode cL_law 292 = .ok (.aload_n 0, 1) := by decide +kernel
theorem dL_law_293 : decode cL_law 293 = .ok (.iload_n 3, 1) := by decide +kernel
theorem dL_law_294 : decode cL_law 294 = .ok (.iconst 1, 1) := by decide +kernel
theorem dL_law_295 : decode cL_law 295 = .ok (.iadd, 1) := by decide +kernel
theorem dL_law_296 : decode cL_law 296 = .ok (.iaload, 1) := by decide +kernel
theorem dL_law_297 : decode cL_law 297 = .ok (.invokevirtual 35, 3) := by decide +kernel
theorem dL_law_300 : decode cL_law 300 = .ok (.if_icmp .eq 554, 3) := by decide +kernel
theorem dL_law_303 : decode cL_law 303 = .ok (.iconst 0, 1) := by decide +kernel
theorem dL_law_304 : decode cL_law 304 = .ok (.ireturn, 1) := by decide +kernel
theorem dL_law_305 : decode cL_law 305 = .ok (.aload_n 1, 1) := by decide +kernel
theorem dL_law_306 : decode cL_law 306 = .ok (.aload_n 0, 1) := by decide +kernel
theorem dL_law_307 : decode cL_law 307 = .ok (.iload_n 3, 1) := by decide +kernel
theorem dL_law_308 : decode cL_law 308 = .ok (.iconst 1, 1) := by decide +kernel
theorem dL_law_309 : decode cL_law 309 = .ok (.iadd, 1) := by decide +kernel
theorem dL_law_310 : decode cL_law 310 = .ok (.iaload, 1) := by decide +kernel
theorem dL_law_311 : decode cL_law 311 = .ok (.invokevirtual 36, 3) := by decide +kernel
theorem dL_law_314 : decode cL_law 314 = .ok (.aload_n 2, 1) := by decide +kernel
theorem dL_law_315 : decode cL_law 315 = .ok (.aload_n 0, 1) := by decide +kernel
theorem dL_law_316 : decode cL_law 316 = .ok (.iload_n 3, 1) := by decide +kernel
theorem dL_law_317 : decode cL_law 317 = .ok (.iconst 1, 1) := by decide +kernel
theorem dL_law_318 : decode cL_law 318 = .ok (.iadd, 1) := by decide +kernel
theorem dL_law_319 : decode cL_law 319 = .ok (.iaload, 1) := by decide +kernel
theorem dL_law_320 : decode cL_law 320 = .ok (.invokevirtual 39, 3) := by decide +kernel
theorem dL_law_323 : decode cL_law 323 = .ok (.if_icmp .eq 531, 3) := by decide +kernel
theorem dL_law_326 : decode cL_law 326 = .ok (.iconst 0, 1) := by decide +kernel
theorem dL_law_327 : decode cL_law 327 = .ok (.ireturn, 1) := by decide +kernel
theorem dL_law_328 : decode cL_law 328 = .ok (.aload_n 1, 1) := by decide +kernel
theorem dL_law_329 : decode cL_law 329 = .ok (.aload_n 0, 1) := by decide +kernel
theorem dL_law_330 : decode cL_law 330 = .ok (.iload_n 3, 1) := by decide +kernel
theorem dL_law_331 : decode cL_law 331 = .ok (.iconst 1, 1) := by decide +kernel
theorem dL_law_332 : decode cL_law 332 = .ok (.iadd, 1) := by decide +kernel
theorem dL_law_333 : decode cL_law 333 = .ok (.iaload, 1) := by decide +kernel
theorem dL_law_334 : decode cL_law 334 = .ok (.invokevirtual 40, 3) := by decide +kernel
theorem dL_law_337 : decode cL_law 337 = .ok (.aload_n 2, 1) := by decide +kernel
theorem dL_law_338 : decode cL_law 338 = .ok (.aload_n 0, 1) := by decide +kernel
theorem dL_law_339 : decode cL_law 339 = .ok (.iload_n 3, 1) := by decide +kernel
theorem dL_law_340 : decode cL_law 340 = .ok (.iconst 1, 1) := by decide +kernel
theorem dL_law_341 : decode cL_law 341 = .ok (.iadd, 1) := by decide +kernel
theorem dL_law_342 : decode cL_law 342 = .ok (.iaload, 1) := by decide +kernel
theorem dL_law_343 : decode cL_law 343 = .ok (.invokevirtual 43, 3) := by decide +kernel
theorem dL_law_346 : decode cL_law 346 = .ok (.if_icmp .eq 508, 3) := by decide +kernel
theorem dL_law_349 : decode cL_law 349 = .ok (.iconst 0, 1) := by decide +kernel
theorem dL_law_350 : decode cL_law 350 = .ok (.ireturn, 1) := by decide +kernel
theorem dL_law_351 : decode cL_law 351 = .ok (.aload_n 1, 1) := by decide +kernel
theorem dL_law_352 : decode cL_law 352 = .ok (.aload_n 0, 1) := by decide +kernel
theorem dL_law_353 : decode cL_law 353 = .ok (.iload_n 3, 1) := by decide +kernel
theorem dL_law_354 : decode cL_law 354 = .ok (.iconst 1, 1) := by decide +kernel
theorem dL_law_355 : decode cL_law 355 = .ok (.iadd, 1) := by decide +kernel
theorem dL_law_356 : decode cL_law 356 = .ok (.iaload, 1) := by decide +kernel
theorem dL_law_357 : decode cL_law 357 = .ok (.invokevirtual 44, 3) := by decide +kernel
theorem dL_law_360 : decode cL_law 360 = .ok (.aload_n 2, 1) := by decide +kernel
theorem dL_law_361 : decode cL_law 361 = .ok (.aload_n 0, 1) := by decide +kernel
theorem dL_law_362 : decode cL_law 362 = .ok (.iload_n 3, 1) := by decide +kernel
theorem dL_law_363 : decode cL_law 363 = .ok (.iconst 1, 1) := by decide +kernel
theorem dL_law_364 : decode cL_law 364 = .ok (.iadd, 1) := by decide +kernel
theorem dL_law_365 : decode cL_law 365 = .ok (.iaload, 1) := by decide +kernel
theorem dL_law_366 : decode cL_law 366 = .ok (.invokevirtual 47, 3) := by decide +kernel
theorem dL_law_369 : decode cL_law 369 = .ok (.if_icmp .eq 485, 3) := by decide +kernel
theorem dL_law_372 : decode cL_law 372 = .ok (.iconst 0, 1) := by decide +kernel
theorem dL_law_373 : decode cL_law 373 = .ok (.ireturn, 1) := by decide +kernel
theorem dL_law_374 : decode cL_law 374 = .ok (.aload_n 1, 1) := by decide +kernel
theorem dL_law_375 : decode cL_law 375 = .ok (.aload_n 0, 1) := by decide +kernel
theorem dL_law_376 : decode cL_law 376 = .ok (.iload_n 3, 1) := by decide +kernel
theorem dL_law_377 : decode cL_law 377 = .ok (.iconst 1, 1) := by decide +kernel
theorem dL_law_378 : decode cL_law 378 = .ok (.iadd, 1) := by decide +kernel
theorem dL_law_379 : decode cL_law 379 = .ok (.iaload, 1) := by decide +kernel
theorem dL_law_380 : decode cL_law 380 = .ok (.aload_n 0, 1) := by decide +kernel
theorem dL_law_381 : decode cL_law 381 = .ok (.iload_n 3, 1) := by decide +kernel
theorem dL_law_382 : decode cL_law 382 = .ok (.iconst 2, 1) := by decide +kernel
theorem dL_law_383 : decode cL_law 383 = .ok (.iadd, 1) := by decide +kernel
theorem dL_law_384 : decode cL_law 384 = .ok (.iaload, 1) := by decide +kernel
theorem dL_law_385 : decode cL_law 385 = .ok (.invokevirtual 48, 3) := by decide +kernel
theorem dL_law_388 : decode cL_law 388 = .ok (.aload_n 2, 1) := by decide +kernel
theorem dL_law_389 : decode cL_law 389 = .ok (.aload_n 0, 1) := by decide +kernel
theorem dL_law_390 : decode cL_law 390 = .ok (.iload_n 3, 1) := by decide +kernel
theorem dL_law_391 : decode cL_law 391 = .ok (.iconst 1, 1) := by decide +kernel
theorem dL_law_392 : decode cL_law 392 = .ok (.iadd, 1) := by decide +kernel
theorem dL_law_393 : decode cL_law 393 = .ok (.iaload, 1) := by decide +kernel
theorem dL_law_394 : decode cL_law 394 = .ok (.aload_n 0, 1) := by decide +kernel
theorem dL_law_395 : decode cL_law 395 = .ok (.iload_n 3, 1) := by decide +kernel
theorem dL_law_396 : decode cL_law 396 = .ok (.iconst 2, 1) := by decide +kernel
theorem dL_law_397 : decode cL_law 397 = .ok (.iadd, 1) := by decide +kernel
theorem dL_law_398 : decode cL_law 398 = .ok (.iaload, 1) := by decide +kernel
theorem dL_law_399 : decode cL_law 399 = .ok (.invokevirtual 51, 3) := by decide +kernel
theorem dL_law_402 : decode cL_law 402 = .ok (.if_icmp .eq 452, 3) := by decide +kernel
theorem dL_law_405 : decode cL_law 405 = .ok (.iconst 0, 1) := by decide +kernel
theorem dL_law_406 : decode cL_law 406 = .ok (.ireturn, 1) := by decide +kernel
theorem dL_law_407 : decode cL_law 407 = .ok (.aload_n 1, 1) := by decide +kernel
theorem dL_law_408 : decode cL_law 408 = .ok (.aload_n 0, 1) := by decide +kernel
theorem dL_law_409 : decode cL_law 409 = .ok (.iload_n 3, 1) := by decide +kernel
theorem dL_law_410 : decode cL_law 410 = .ok (.iconst 1, 1) := by decide +kernel
theorem dL_law_411 : decode cL_law 411 = .ok (.iadd, 1) := by decide +kernel
theorem dL_law_412 : decode cL_law 412 = .ok (.iaload, 1) := by decide +kernel
theorem dL_law_413 : decode cL_law 413 = .ok (.aload_n 0, 1) := by decide +kernel
theorem dL_law_414 : decode cL_law 414 = .ok (.iload_n 3, 1) := by decide +kernel
theorem dL_law_415 : decode cL_law 415 = .ok (.iconst 2, 1) := by decide +kernel
theorem dL_law_416 : decode cL_law 416 = .ok (.iadd, 1) := by decide +kernel
theorem dL_law_417 : decode cL_law 417 = .ok (.iaload, 1) := by decide +kernel
theorem dL_law_418 : decode cL_law 418 = .ok (.aload_n 0, 1) := by decide +kernel
theorem dL_law_419 : decode cL_law 419 = .ok (.iload_n 3, 1) := by decide +kernel
theorem dL_law_420 : decode cL_law 420 = .ok (.iconst 3, 1) := by decide +kernel
theorem dL_law_421 : decode cL_law 421 = .ok (.iadd, 1) := by decide +kernel
theorem dL_law_422 : decode cL_law 422 = .ok (.iaload, 1) := by decide +kernel
theorem dL_law_423 : decode cL_law 423 = .ok (.invokevirtual 52, 3) := by decide +kernel
theorem dL_law_426 : decode cL_law 426 = .ok (.aload_n 2, 1) := by decide +kernel
theorem dL_law_427 : decode cL_law 427 = .ok (.aload_n 0, 1) := by decide +kernel
theorem dL_law_428 : decode cL_law 428 = .ok (.iload_n 3, 1) := by decide +kernel
theorem dL_law_429 : decode cL_law 429 = .ok (.iconst 1, 1) := by decide +kernel
theorem dL_law_430 : decode cL_law 430 = .ok (.iadd, 1) := by decide +kernel
theorem dL_law_431 : decode cL_law 431 = .ok (.iaload, 1) := by decide +kernel
theorem dL_law_432 : decode cL_law 432 = .ok (.aload_n 0, 1) := by decide +kernel
theorem dL_law_433 : decode cL_law 433 = .ok (.iload_n 3, 1) := by decide +kernel
theorem dL_law_434 : decode cL_law 434 = .ok (.iconst 2, 1) := by decide +kernel
theorem dL_law_435 : decode cL_law 435 = .ok (.iadd, 1) := by decide +kernel
theorem dL_law_436 : decode cL_law 436 = .ok (.iaload, 1) := by decide +kernel
theorem dL_law_437 : decode cL_law 437 = .ok (.aload_n 0, 1) := by decide +kernel
theorem dL_law_438 : decode cL_law 438 = .ok (.iload_n 3, 1) := by decide +kernel
theorem dL_law_439 : decode cL_law 439 = .ok (.iconst 3, 1) := by decide +kernel
theorem dL_law_440 : decode cL_law 440 = .ok (.iadd, 1) := by decide +kernel
theorem dL_law_441 : decode cL_law 441 = .ok (.iaload, 1) := by decide +kernel
theorem dL_law_442 : decode cL_law 442 = .ok (.invokevirtual 55, 3) := by decide +kernel
theorem dL_law_445 : decode cL_law 445 = .ok (.if_icmp .eq 409, 3) := by decide +kernel
theorem dL_law_448 : decode cL_law 448 = .ok (.iconst 0, 1) := by decide +kernel
theorem dL_law_449 : decode cL_law 449 = .ok (.ireturn, 1) := by decide +kernel
theorem dL_law_450 : decode cL_law 450 = .ok (.aload_n 1, 1) := by decide +kernel
theorem dL_law_451 : decode cL_law 451 = .ok (.aload_n 0, 1) := by decide +kernel
theorem dL_law_452 : decode cL_law 452 = .ok (.iload_n 3, 1) := by decide +kernel
theorem dL_law_453 : decode cL_law 453 = .ok (.iconst 1, 1) := by decide +kernel
theorem dL_law_454 : decode cL_law 454 = .ok (.iadd, 1) := by decide +kernel
theorem dL_law_455 : decode cL_law 455 = .ok (.iaload, 1) := by decide +kernel
theorem dL_law_456 : decode cL_law 456 = .ok (.invokevirtual 56, 3) := by decide +kernel
theorem dL_law_459 : decode cL_law 459 = .ok (.aload_n 2, 1) := by decide +kernel
theorem dL_law_460 : decode cL_law 460 = .ok (.aload_n 0, 1) := by decide +kernel
theorem dL_law_461 : decode cL_law 461 = .ok (.iload_n 3, 1) := by decide +kernel
theorem dL_law_462 : decode cL_law 462 = .ok (.iconst 1, 1) := by decide +kernel
theorem dL_law_463 : decode cL_law 463 = .ok (.iadd, 1) := by decide +kernel
theorem dL_law_464 : decode cL_law 464 = .ok (.iaload, 1) := by decide +kernel
theorem dL_law_465 : decode cL_law 465 = .ok (.invokevirtual 59, 3) := by decide +kernel
theorem dL_law_468 : decode cL_law 468 = .ok (.if_icmp .eq 386, 3) := by decide +kernel
theorem dL_law_471 : decode cL_law 471 = .ok (.iconst 0, 1) := by decide +kernel
theorem dL_law_472 : decode cL_law 472 = .ok (.ireturn, 1) := by decide +kernel
theorem dL_law_473 : decode cL_law 473 = .ok (.aload_n 1, 1) := by decide +kernel
theorem dL_law_474 : decode cL_law 474 = .ok (.aload_n 0, 1) := by decide +kernel
theorem dL_law_475 : decode cL_law 475 = .ok (.iload_n 3, 1) := by decide +kernel
theorem dL_law_476 : decode cL_law 476 = .ok (.iconst 1, 1) := by decide +kernel
theorem dL_law_477 : decode cL_law 477 = .ok (.iadd, 1) := by decide +kernel
theorem dL_law_478 : decode cL_law 478 = .ok (.iaload, 1) := by decide +kernel
theorem dL_law_479 : decode cL_law 479 = .ok (.aload_n 0, 1) := by decide +kernel
theorem dL_law_480 : decode cL_law 480 = .ok (.iload_n 3, 1) := by decide +kernel
theorem dL_law_481 : decode cL_law 481 = .ok (.iconst 2, 1) := by decide +kernel
theorem dL_law_482 : decode cL_law 482 = .ok (.iadd, 1) := by decide +kernel
theorem dL_law_483 : decode cL_law 483 = .ok (.iaload, 1) := by decide +kernel
theorem dL_law_484 : decode cL_law 484 = .ok (.invokevirtual 60, 3) := by decide +kernel
theorem dL_law_487 : decode cL_law 487 = .ok (.aload_n 2, 1) := by decide +kernel
theorem dL_law_488 : decode cL_law 488 = .ok (.aload_n 0, 1) := by decide +kernel
theorem dL_law_489 : decode cL_law 489 = .ok (.iload_n 3, 1) := by decide +kernel
theorem dL_law_490 : decode cL_law 490 = .ok (.iconst 1, 1) := by decide +kernel
theorem dL_law_491 : decode cL_law 491 = .ok (.iadd, 1) := by decide +kernel
theorem dL_law_492 : decode cL_law 492 = .ok (.iaload, 1) := by decide +kernel
theorem dL_law_493 : decode cL_law 493 = .ok (.aload_n 0, 1) := by decide +kernel
theorem dL_law_494 : decode cL_law 494 = .ok (.iload_n 3, 1) := by decide +kernel
theorem dL_law_495 : decode cL_law 495 = .ok (.iconst 2, 1) := by decide +kernel
theorem dL_law_496 : decode cL_law 496 = .ok (.iadd, 1) := by decide +kernel
theorem dL_law_497 : decode cL_law 497 = .ok (.iaload, 1) := by decide +kernel
theorem dL_law_498 : decode cL_law 498 = .ok (.invokevirtual 63, 3) := by decide +kernel
theorem dL_law_501 : decode cL_law 501 = .ok (.if_icmp .eq 353, 3) := by decide +kernel
theorem dL_law_504 : decode cL_law 504 = .ok (.iconst 0, 1) := by decide +kernel
theorem dL_law_505 : decode cL_law 505 = .ok (.ireturn, 1) := by decide +kernel
theorem dL_law_506 : decode cL_law 506 = .ok (.aload_n 1, 1) := by decide +kernel
theorem dL_law_507 : decode cL_law 507 = .ok (.aload_n 0, 1) := by decide +kernel
theorem dL_law_508 : decode cL_law 508 = .ok (.iload_n 3, 1) := by decide +kernel
theorem dL_law_509 : decode cL_law 509 = .ok (.iconst 1, 1) := by decide +kernel
theorem dL_law_510 : decode cL_law 510 = .ok (.iadd, 1) := by decide +kernel
theorem dL_law_511 : decode cL_law 511 = .ok (.iaload, 1) := by decide +kernel
theorem dL_law_512 : decode cL_law 512 = .ok (.aload_n 0, 1) := by decide +kernel
theorem dL_law_513 : decode cL_law 513 = .ok (.iload_n 3, 1) := by decide +kernel
theorem dL_law_514 : decode cL_law 514 = .ok (.iconst 2, 1) := by decide +kernel
theorem dL_law_515 : decode cL_law 515 = .ok (.iadd, 1) := by decide +kernel
theorem dL_law_516 : decode cL_law 516 = .ok (.iaload, 1) := by decide +kernel
theorem dL_law_517 : decode cL_law 517 = .ok (.aload_n 0, 1) := by decide +kernel
theorem dL_law_518 : decode cL_law 518 = .ok (.iload_n 3, 1) := by decide +kernel
theorem dL_law_519 : decode cL_law 519 = .ok (.iconst 3, 1) := by decide +kernel
theorem dL_law_520 : decode cL_law 520 = .ok (.iadd, 1) := by decide +kernel
theorem dL_law_521 : decode cL_law 521 = .ok (.iaload, 1) := by decide +kernel
theorem dL_law_522 : decode cL_law 522 = .ok (.invokevirtual 64, 3) := by decide +kernel
theorem dL_law_525 : decode cL_law 525 = .ok (.aload_n 2, 1) := by decide +kernel
theorem dL_law_526 : decode cL_law 526 = .ok (.aload_n 0, 1) := by decide +kernel
theorem dL_law_527 : decode cL_law 527 = .ok (.iload_n 3, 1) := by decide +kernel
theorem dL_law_528 : decode cL_law 528 = .ok (.iconst 1, 1) := by decide +kernel
theorem dL_law_529 : decode cL_law 529 = .ok (.iadd, 1) := by decide +kernel
theorem dL_law_530 : decode cL_law 530 = .ok (.iaload, 1) := by decide +kernel
theorem dL_law_531 : decode cL_law 531 = .ok (.aload_n 0, 1) := by decide +kernel
theorem dL_law_532 : decode cL_law 532 = .ok (.iload_n 3, 1) := by decide +kernel
theorem dL_law_533 : decode cL_law 533 = .ok (.iconst 2, 1) := by decide +kernel
theorem dL_law_534 : decode cL_law 534 = .ok (.iadd, 1) := by decide +kernel
theorem dL_law_535 : decode cL_law 535 = .ok (.iaload, 1) := by decide +kernel
theorem dL_law_536 : decode cL_law 536 = .ok (.aload_n 0, 1) := by decide +kernel
theorem dL_law_537 : decode cL_law 537 = .ok (.iload_n 3, 1) := by decide +kernel
theorem dL_law_538 : decode cL_law 538 = .ok (.iconst 3, 1) := by decide +kernel
theorem dL_law_539 : decode cL_law 539 = .ok (.iadd, 1) := by decide +kernel
theorem dL_law_540 : decode cL_law 540 = .ok (.iaload, 1) := by decide +kernel
theorem dL_law_541 : decode cL_law 541 = .ok (.invokevirtual 67, 3) := by decide +kernel
theorem dL_law_544 : decode cL_law 544 = .ok (.if_icmp .eq 310, 3) := by decide +kernel
theorem dL_law_547 : decode cL_law 547 = .ok (.iconst 0, 1) := by decide +kernel
theorem dL_law_548 : decode cL_law 548 = .ok (.ireturn, 1) := by decide +kernel
theorem dL_law_549 : decode cL_law 549 = .ok (.aload_n 1, 1) := by decide +kernel
theorem dL_law_550 : decode cL_law 550 = .ok (.invokevirtual 68, 3) := by decide +kernel
theorem dL_law_553 : decode cL_law 553 = .ok (.aload_n 2, 1) := by decide +kernel
theorem dL_law_554 : decode cL_law 554 = .ok (.invokevirtual 72, 3) := by decide +kernel
theorem dL_law_557 : decode cL_law 557 = .ok (.if_icmp .eq 297, 3) := by decide +kernel
theorem dL_law_560 : decode cL_law 560 = .ok (.iconst 0, 1) := by decide +kernel
theorem dL_law_561 : decode cL_law 561 = .ok (.ireturn, 1) := by decide +kernel
theorem dL_law_562 : decode cL_law 562 = .ok (.aload_n 1, 1) := by decide +kernel
theorem dL_law_563 : decode cL_law 563 = .ok (.aload_n 0, 1) := by decide +kernel
theorem dL_law_564 : decode cL_law 564 = .ok (.iload_n 3, 1) := by decide +kernel
theorem dL_law_565 : decode cL_law 565 = .ok (.iconst 1, 1) := by decide +kernel
theorem dL_law_566 : decode cL_law 566 = .ok (.iadd, 1) := by decide +kernel
theorem dL_law_567 : decode cL_law 567 = .ok (.iaload, 1) := by decide +kernel
theorem dL_law_568 : decode cL_law 568 = .ok (.aload_n 0, 1) := by decide +kernel
theorem dL_law_569 : decode cL_law 569 = .ok (.iload_n 3, 1) := by decide +kernel
theorem dL_law_570 : decode cL_law 570 = .ok (.iconst 2, 1) := by decide +kernel
theorem dL_law_571 : decode cL_law 571 = .ok (.iadd, 1) := by decide +kernel
theorem dL_law_572 : decode cL_law 572 = .ok (.iaload, 1) := by decide +kernel
theorem dL_law_573 : decode cL_law 573 = .ok (.invokevirtual 73, 3) := by decide +kernel
theorem dL_law_576 : decode cL_law 576 = .ok (.aload_n 2, 1) := by decide +kernel
theorem dL_law_577 : decode cL_law 577 = .ok (.aload_n 0, 1) := by decide +kernel
theorem dL_law_578 : decode cL_law 578 = .ok (.iload_n 3, 1) := by decide +kernel
theorem dL_law_579 : decode cL_law 579 = .ok (.iconst 1, 1) := by decide +kernel
theorem dL_law_580 : decode cL_law 580 = .ok (.iadd, 1) := by decide +kernel
theorem dL_law_581 : decode cL_law 581 = .ok (.iaload, 1) := by decide +kernel
theorem dL_law_582 : decode cL_law 582 = .ok (.aload_n 0, 1) := by decide +kernel
theorem dL_law_583 : decode cL_law 583 = .ok (.iload_n 3, 1) := by decide +kernel
theorem dL_law_584 : decode cL_law 584 = .ok (.iconst 2, 1) := by decide +kernel
theorem dL_law_585 : decode cL_law 585 = .ok (.iadd, 1) := by decide +kernel
theorem dL_law_586 : decode cL_law 586 = .ok (.iaload, 1) := by decide +kernel
theorem dL_law_587 : decode cL_law 587 = .ok (.invokevirtual 76, 3) := by decide +kernel
theorem dL_law_590 : decode cL_law 590 = .ok (.if_icmp .eq 264, 3) := by decide +kernel
theorem dL_law_593 : decode cL_law 593 = .ok (.iconst 0, 1) := by decide +kernel
theorem dL_law_594 : decode cL_law 594 = .ok (.ireturn, 1) := by decide +kernel
theorem dL_law_595 : decode cL_law 595 = .ok (.aload_n 1, 1) := by decide +kernel
theorem dL_law_596 : decode cL_law 596 = .ok (.aload_n 0, 1) := by decide +kernel
theorem dL_law_597 : decode cL_law 597 = .ok (.iload_n 3, 1) := by decide +kernel
theorem dL_law_598 : decode cL_law 598 = .ok (.iconst 1, 1) := by decide +kernel
theorem dL_law_599 : decode cL_law 599 = .ok (.iadd, 1) := by decide +kernel
theorem dL_law_600 : decode cL_law 600 = .ok (.iaload, 1) := by decide +kernel
theorem dL_law_601 : decode cL_law 601 = .ok (.aload_n 0, 1) := by decide +kernel
theorem dL_law_602 : decode cL_law 602 = .ok (.iload_n 3, 1) := by decide +kernel
theorem dL_law_603 : decode cL_law 603 = .ok (.iconst 2, 1) := by decide +kernel
theorem dL_law_604 : decode cL_law 604 = .ok (.iadd, 1) := by decide +kernel
theorem dL_law_605 : decode cL_law 605 = .ok (.iaload, 1) := by decide +kernel
theorem dL_law_606 : decode cL_law 606 = .ok (.invokevirtual 77, 3) := by decide +kernel
theorem dL_law_609 : decode cL_law 609 = .ok (.aload_n 2, 1) := by decide +kernel
theorem dL_law_610 : decode cL_law 610 = .ok (.aload_n 0, 1) := by decide +kernel
theorem dL_law_611 : decode cL_law 611 = .ok (.iload_n 3, 1) := by decide +kernel
theorem dL_law_612 : decode cL_law 612 = .ok (.iconst 1, 1) := by decide +kernel
theorem dL_law_613 : decode cL_law 613 = .ok (.iadd, 1) := by decide +kernel
theorem dL_law_614 : decode cL_law 614 = .ok (.iaload, 1) := by decide +kernel
theorem dL_law_615 : decode cL_law 615 = .ok (.aload_n 0, 1) := by decide +kernel
theorem dL_law_616 : decode cL_law 616 = .ok (.iload_n 3, 1) := by decide +kernel
theorem dL_law_617 : decode cL_law 617 = .ok (.iconst 2, 1) := by decide +kernel
theorem dL_law_618 : decode cL_law 618 = .ok (.iadd, 1) := by decide +kernel
theorem dL_law_619 : decode cL_law 619 = .ok (.iaload, 1) := by decide +kernel
theorem dL_law_620 : decode cL_law 620 = .ok (.invokevirtual 80, 3) := by decide +kernel
theorem dL_law_623 : decode cL_law 623 = .ok (.if_icmp .eq 231, 3) := by decide +kernel
theorem dL_law_626 : decode cL_law 626 = .ok (.iconst 0, 1) := by decide +kernel
theorem dL_law_627 : decode cL_law 627 = .ok (.ireturn, 1) := by decide +kernel
theorem dL_law_628 : decode cL_law 628 = .ok (.aload_n 1, 1) := by decide +kernel
theorem dL_law_629 : decode cL_law 629 = .ok (.aload_n 0, 1) := by decide +kernel
theorem dL_law_630 : decode cL_law 630 = .ok (.iload_n 3, 1) := by decide +kernel
theorem dL_law_631 : decode cL_law 631 = .ok (.iconst 1, 1) := by decide +kernel
theorem dL_law_632 : decode cL_law 632 = .ok (.iadd, 1) := by decide +kernel
theorem dL_law_633 : decode cL_law 633 = .ok (.iaload, 1) := by decide +kernel
theorem dL_law_634 : decode cL_law 634 = .ok (.invokevirtual 81, 3) := by decide +kernel
theorem dL_law_637 : decode cL_law 637 = .ok (.aload_n 2, 1) := by decide +kernel
theorem dL_law_638 : decode cL_law 638 = .ok (.aload_n 0, 1) := by decide +kernel
theorem dL_law_639 : decode cL_law 639 = .ok (.iload_n 3, 1) := by decide +kernel
theorem dL_law_640 : decode cL_law 640 = .ok (.iconst 1, 1) := by decide +kernel
theorem dL_law_641 : decode cL_law 641 = .ok (.iadd, 1) := by decide +kernel
theorem dL_law_642 : decode cL_law 642 = .ok (.iaload, 1) := by decide +kernel
theorem dL_law_643 : decode cL_law 643 = .ok (.invokevirtual 84, 3) := by decide +kernel
theorem dL_law_646 : decode cL_law 646 = .ok (.if_icmp .eq 208, 3) := by decide +kernel
theorem dL_law_649 : decode cL_law 649 = .ok (.iconst 0, 1) := by decide +kernel
theorem dL_law_650 : decode cL_law 650 = .ok (.ireturn, 1) := by decide +kernel
theorem dL_law_651 : decode cL_law 651 = .ok (.aload_n 1, 1) := by decide +kernel
theorem dL_law_652 : decode cL_law 652 = .ok (.aload_n 0, 1) := by decide +kernel
theorem dL_law_653 : decode cL_law 653 = .ok (.iload_n 3, 1) := by decide +kernel
theorem dL_law_654 : decode cL_law 654 = .ok (.iconst 1, 1) := by decide +kernel
theorem dL_law_655 : decode cL_law 655 = .ok (.iadd, 1) := by decide +kernel
theorem dL_law_656 : decode cL_law 656 = .ok (.iaload, 1) := by decide +kernel
theorem dL_law_657 : decode cL_law 657 = .ok (.invokevirtual 85, 3) := by decide +kernel
theorem dL_law_660 : decode cL_law 660 = .ok (.aload_n 2, 1) := by decide +kernel
theorem dL_law_661 : decode cL_law 661 = .ok (.aload_n 0, 1) := by decide +kernel
theorem dL_law_662 : decode cL_law 662 = .ok (.iload_n 3, 1) := by decide +kernel
theorem dL_law_663 : decode cL_law 663 = .ok (.iconst 1, 1) := by decide +kernel
theorem dL_law_664 : decode cL_law 664 = .ok (.iadd, 1) := by decide +kernel
theorem dL_law_665 : decode cL_law 665 = .ok (.iaload, 1) := by decide +kernel
theorem dL_law_666 : decode cL_law 666 = .ok (.invokevirtual 88, 3) := by decide +kernel
theorem dL_law_669 : decode cL_law 669 = .ok (.if_icmp .eq 185, 3) := by decide +kernel
theorem dL_law_672 : decode cL_law 672 = .ok (.iconst 0, 1) := by decide +kernel
theorem dL_law_673 : decode cL_law 673 = .ok (.ireturn, 1) := by decide +kernel
theorem dL_law_674 : decode cL_law 674 = .ok (.aload_n 1, 1) := by decide +kernel
theorem dL_law_675 : decode cL_law 675 = .ok (.aload_n 0, 1) := by decide +kernel
theorem dL_law_676 : decode cL_law 676 = .ok (.iload_n 3, 1) := by decide +kernel
theorem dL_law_677 : decode cL_law 677 = .ok (.iconst 1, 1) := by decide +kernel
theorem dL_law_678 : decode cL_law 678 = .ok (.iadd, 1) := by decide +kernel
theorem dL_law_679 : decode cL_law 679 = .ok (.iaload, 1) := by decide +kernel
theorem dL_law_680 : decode cL_law 680 = .ok (.invokevirtual 89, 3) := by decide +kernel
theorem dL_law_683 : decode cL_law 683 = .ok (.aload_n 2, 1) := by decide +kernel
theorem dL_law_684 : decode cL_law 684 = .ok (.aload_n 0, 1) := by decide +kernel
theorem dL_law_685 : decode cL_law 685 = .ok (.iload_n 3, 1) := by decide +kernel
theorem dL_law_686 : decode cL_law 686 = .ok (.iconst 1, 1) := by decide +kernel
theorem dL_law_687 : decode cL_law 687 = .ok (.iadd, 1) := by decide +kernel
theorem dL_law_688 : decode cL_law 688 = .ok (.iaload, 1) := by decide +kernel
theorem dL_law_689 : decode cL_law 689 = .ok (.invokevirtual 92, 3) := by decide +kernel
theorem dL_law_692 : decode cL_law 692 = .ok (.if_icmp .eq 162, 3) := by decide +kernel
theorem dL_law_695 : decode cL_law 695 = .ok (.iconst 0, 1) := by decide +kernel
theorem dL_law_696 : decode cL_law 696 = .ok (.ireturn, 1) := by decide +kernel
theorem dL_law_697 : decode cL_law 697 = .ok (.aload_n 1, 1) := by decide +kernel
theorem dL_law_698 : decode cL_law 698 = .ok (.invokevirtual 93, 3) := by decide +kernel
theorem dL_law_701 : decode cL_law 701 = .ok (.aload_n 2, 1) := by decide +kernel
theorem dL_law_702 : decode cL_law 702 = .ok (.invokevirtual 96, 3) := by decide +kernel
theorem dL_law_705 : decode cL_law 705 = .ok (.if_icmp .eq 149, 3) := by decide +kernel
theorem dL_law_708 : decode cL_law 708 = .ok (.iconst 0, 1) := by decide +kernel
theorem dL_law_709 : decode cL_law 709 = .ok (.ireturn, 1) := by decide +kernel
theorem dL_law_710 : decode cL_law 710 = .ok (.aload_n 1, 1) := by decide +kernel
theorem dL_law_711 : decode cL_law 711 = .ok (.invokevirtual 97, 3) := by decide +kernel
theorem dL_law_714 : decode cL_law 714 = .ok (.aload_n 2, 1) := by decide +kernel
theorem dL_law_715 : decode cL_law 715 = .ok (.invokevirtual 100, 3) := by decide +kernel
theorem dL_law_718 : decode cL_law 718 = .ok (.if_icmp .eq 136, 3) := by decide +kernel
theorem dL_law_721 : decode cL_law 721 = .ok (.iconst 0, 1) := by decide +kernel
theorem dL_law_722 : decode cL_law 722 = .ok (.ireturn, 1) := by decide +kernel
theorem dL_law_723 : decode cL_law 723 = .ok (.aload_n 1, 1) := by decide +kernel
theorem dL_law_724 : decode cL_law 724 = .ok (.invokevirtual 101, 3) := by decide +kernel
theorem dL_law_727 : decode cL_law 727 = .ok (.aload_n 2, 1) := by decide +kernel
theorem dL_law_728 : decode cL_law 728 = .ok (.invokevirtual 104, 3) := by decide +kernel
theorem dL_law_731 : decode cL_law 731 = .ok (.if_icmp .eq 123, 3) := by decide +kernel
theorem dL_law_734 : decode cL_law 734 = .ok (.iconst 0, 1) := by decide +kernel
theorem dL_law_735 : decode cL_law 735 = .ok (.ireturn, 1) := by decide +kernel
theorem dL_law_736 : decode cL_law 736 = .ok (.aload_n 1, 1) := by decide +kernel
theorem dL_law_737 : decode cL_law 737 = .ok (.aload_n 0, 1) := by decide +kernel
theorem dL_law_738 : decode cL_law 738 = .ok (.iload_n 3, 1) := by decide +kernel
theorem dL_law_739 : decode cL_law 739 = .ok (.iconst 1, 1) := by decide +kernel
theorem dL_law_740 : decode cL_law 740 = .ok (.iadd, 1) := by decide +kernel
theorem dL_law_741 : decode cL_law 741 = .ok (.iaload, 1) := by decide +kernel
theorem dL_law_742 : decode cL_law 742 = .ok (.invokevirtual 105, 3) := by decide +kernel
theorem dL_law_745 : decode cL_law 745 = .ok (.aload_n 2, 1) := by decide +kernel
theorem dL_law_746 : decode cL_law 746 = .ok (.aload_n 0, 1) := by decide +kernel
theorem dL_law_747 : decode cL_law 747 = .ok (.iload_n 3, 1) := by decide +kernel
theorem dL_law_748 : decode cL_law 748 = .ok (.iconst 1, 1) := by decide +kernel
theorem dL_law_749 : decode cL_law 749 = .ok (.iadd, 1) := by decide +kernel
theorem dL_law_750 : decode cL_law 750 = .ok (.iaload, 1) := by decide +kernel
theorem dL_law_751 : decode cL_law 751 = .ok (.invokevirtual 108, 3) := by decide +kernel
theorem dL_law_754 : decode cL_law 754 = .ok (.if_icmp .eq 100, 3) := by decide +kernel
theorem dL_law_757 : decode cL_law 757 = .ok (.iconst 0, 1) := by decide +kernel
theorem dL_law_758 : decode cL_law 758 = .ok (.ireturn, 1) := by decide +kernel
theorem dL_law_759 : decode cL_law 759 = .ok (.aload_n 1, 1) := by decide +kernel
theorem dL_law_760 : decode cL_law 760 = .ok (.aload_n 0, 1) := by decide +kernel
theorem dL_law_761 : decode cL_law 761 = .ok (.iload_n 3, 1) := by decide +kernel
theorem dL_law_762 : decode cL_law 762 = .ok (.iconst 1, 1) := by decide +kernel
theorem dL_law_763 : decode cL_law 763 = .ok (.iadd, 1) := by decide +kernel
theorem dL_law_764 : decode cL_law 764 = .ok (.iaload, 1) := by decide +kernel
theorem dL_law_765 : decode cL_law 765 = .ok (.invokevirtual 109, 3) := by decide +kernel
theorem dL_law_768 : decode cL_law 768 = .ok (.aload_n 2, 1) := by decide +kernel
theorem dL_law_769 : decode cL_law 769 = .ok (.aload_n 0, 1) := by decide +kernel
theorem dL_law_770 : decode cL_law 770 = .ok (.iload_n 3, 1) := by decide +kernel
theorem dL_law_771 : decode cL_law 771 = .ok (.iconst 1, 1) := by decide +kernel
theorem dL_law_772 : decode cL_law 772 = .ok (.iadd, 1) := by decide +kernel
theorem dL_law_773 : decode cL_law 773 = .ok (.iaload, 1) := by decide +kernel
theorem dL_law_774 : decode cL_law 774 = .ok (.invokevirtual 112, 3) := by decide +kernel
theorem dL_law_777 : decode cL_law 777 = .ok (.if_icmp .eq 77, 3) := by decide +kernel
theorem dL_law_780 : decode cL_law 780 = .ok (.iconst 0, 1) := by decide +kernel
theorem dL_law_781 : decode cL_law 781 = .ok (.ireturn, 1) := by decide +kernel
theorem dL_law_782 : decode cL_law 782 = .ok (.aload_n 1, 1) := by decide +kernel
theorem dL_law_783 : decode cL_law 783 = .ok (.aload_n 0, 1) := by decide +kernel
theorem dL_law_784 : decode cL_law 784 = .ok (.iload_n 3, 1) := by decide +kernel
theorem dL_law_785 : decode cL_law 785 = .ok (.iconst 1, 1) := by decide +kernel
theorem dL_law_786 : decode cL_law 786 = .ok (.iadd, 1) := by decide +kernel
theorem dL_law_787 : decode cL_law 787 = .ok (.iaload, 1) := by decide +kernel
theorem dL_law_788 : decode cL_law 788 = .ok (.invokevirtual 113, 3) := by decide +kernel
theorem dL_law_791 : decode cL_law 791 = .ok (.aload_n 2, 1) := by decide +kernel
theorem dL_law_792 : decode cL_law 792 = .ok (.aload_n 0, 1) := by decide +kernel
theorem dL_law_793 : decode cL_law 793 = .ok (.iload_n 3, 1) := by decide +kernel
theorem dL_law_794 : decode cL_law 794 = .ok (.iconst 1, 1) := by decide +kernel
theorem dL_law_795 : decode cL_law 795 = .ok (.iadd, 1) := by decide +kernel
theorem dL_law_796 : decode cL_law 796 = .ok (.iaload, 1) := by decide +kernel
theorem dL_law_797 : decode cL_law 797 = .ok (.invokevirtual 116, 3) := by decide +kernel
theorem dL_law_800 : decode cL_law 800 = .ok (.if_icmp .eq 54, 3) := by decide +kernel
theorem dL_law_803 : decode cL_law 803 = .ok (.iconst 0, 1) := by decide +kernel
theorem dL_law_804 : decode cL_law 804 = .ok (.ireturn, 1) := by decide +kernel
theorem dL_law_805 : decode cL_law 805 = .ok (.aload_n 1, 1) := by decide +kernel
theorem dL_law_806 : decode cL_law 806 = .ok (.invokevirtual 117, 3) := by decide +kernel
theorem dL_law_809 : decode cL_law 809 = .ok (.aload_n 2, 1) := by decide +kernel
theorem dL_law_810 : decode cL_law 810 = .ok (.invokevirtual 120, 3) := by decide +kernel
theorem dL_law_813 : decode cL_law 813 = .ok (.if_icmp .eq 41, 3) := by decide +kernel
theorem dL_law_816 : decode cL_law 816 = .ok (.iconst 0, 1) := by decide +kernel
theorem dL_law_817 : decode cL_law 817 = .ok (.ireturn, 1) := by decide +kernel
theorem dL_law_818 : decode cL_law 818 = .ok (.aload_n 1, 1) := by decide +kernel
theorem dL_law_819 : decode cL_law 819 = .ok (.aload_n 0, 1) := by decide +kernel
theorem dL_law_820 : decode cL_law 820 = .ok (.iload_n 3, 1) := by decide +kernel
theorem dL_law_821 : decode cL_law 821 = .ok (.iconst 1, 1) := by decide +kernel
theorem dL_law_822 : decode cL_law 822 = .ok (.iadd, 1) := by decide +kernel
theorem dL_law_823 : decode cL_law 823 = .ok (.iaload, 1) := by decide +kernel
theorem dL_law_824 : decode cL_law 824 = .ok (.invokevirtual 121, 3) := by decide +kernel
theorem dL_law_827 : decode cL_law 827 = .ok (.aload_n 2, 1) := by decide +kernel
theorem dL_law_828 : decode cL_law 828 = .ok (.aload_n 0, 1) := by decide +kernel
theorem dL_law_829 : decode cL_law 829 = .ok (.iload_n 3, 1) := by decide +kernel
theorem dL_law_830 : decode cL_law 830 = .ok (.iconst 1, 1) := by decide +kernel
theorem dL_law_831 : decode cL_law 831 = .ok (.iadd, 1) := by decide +kernel
theorem dL_law_832 : decode cL_law 832 = .ok (.iaload, 1) := by decide +kernel
theorem dL_law_833 : decode cL_law 833 = .ok (.invokevirtual 124, 3) := by decide +kernel
theorem dL_law_836 : decode cL_law 836 = .ok (.if_icmp .eq 18, 3) := by decide +kernel
theorem dL_law_839 : decode cL_law 839 = .ok (.iconst 0, 1) := by decide +kernel
theorem dL_law_840 : decode cL_law 840 = .ok (.ireturn, 1) := by decide +kernel
theorem dL_law_841 : decode cL_law 841 = .ok (.aload_n 1, 1) := by decide +kernel
theorem dL_law_842 : decode cL_law 842 = .ok (.invokevirtual 125, 3) := by decide +kernel
theorem dL_law_845 : decode cL_law 845 = .ok (.aload_n 2, 1) := by decide +kernel
theorem dL_law_846 : decode cL_law 846 = .ok (.invokevirtual 128, 3) := by decide +kernel
theorem dL_law_849 : decode cL_law 849 = .ok (.if_icmp .eq 5, 3) := by decide +kernel
theorem dL_law_852 : decode cL_law 852 = .ok (.iconst 0, 1) := by decide +kernel
theorem dL_law_853 : decode cL_law 853 = .ok (.ireturn, 1) := by decide +kernel
theorem dL_law_854 : decode cL_law 854 = .ok (.iinc 3 4, 3) := by decide +kernel
theorem dL_law_857 : decode cL_law 857 = .ok (.goto (-839), 3) := by decide +kernel
theorem dL_law_860 : decode cL_law 860 = .ok (.iconst 1, 1) := by decide +kernel
theorem dL_law_861 : decode cL_law 861 = .ok (.ireturn, 1) := by decide +kernel
abbrev vwCl : List vw_C := [(RX0, TX0, 16), (RX1, TX1, 2), (RX2, TX2, 16), (RX3, TX3, 4), (RX4, TX4, 18)]
