theorem dX0_init_0 : decode cX0_init 0 = .ok (.aload_n 0, 1) := by decide +kernel
theorem dX0_init_1 : decode cX0_init 1 = .ok (.invokespecial 3, 3) := by decide +kernel
theorem dX0_init_4 : decode cX0_init 4 = .ok (.aload_n 0, 1) := by decide +kernel
theorem dX0_init_5 : decode cX0_init 5 = .ok (.iconst 4, 1) := by decide +kernel
theorem dX0_init_6 : decode cX0_init 6 = .ok (.newarray .int, 2) := by decide +kernel
theorem dX0_init_8 : decode cX0_init 8 = .ok (.putfield 9, 3) := by decide +kernel
theorem dX0_init_11 : decode cX0_init 11 = .ok (.aload_n 0, 1) := by decide +kernel
theorem dX0_init_12 : decode cX0_init 12 = .ok (.bipush 24, 2) := by decide +kernel
theorem dX0_init_14 : decode cX0_init 14 = .ok (.newarray .int, 2) := by decide +kernel
theorem dX0_init_16 : decode cX0_init 16 = .ok (.putfield 15, 3) := by decide +kernel
theorem dX0_init_19 : decode cX0_init 19 = .ok (.aload_n 0, 1) := by decide +kernel
theorem dX0_init_20 : decode cX0_init 20 = .ok (.bipush 24, 2) := by decide +kernel
theorem dX0_init_22 : decode cX0_init 22 = .ok (.newarray .int, 2) := by decide +kernel
theorem dX0_init_24 : decode cX0_init 24 = .ok (.putfield 18, 3) := by decide +kernel
theorem dX0_init_27 : decode cX0_init 27 = .ok (.aload_n 0, 1) := by decide +kernel
theorem dX0_init_28 : decode cX0_init 28 = .ok (.iconst 4, 1) := by decide +kernel
theorem dX0_init_29 : decode cX0_init 29 = .ok (.newarray .int, 2) := by decide +kernel
theorem dX0_init_31 : decode cX0_init 31 = .ok (.putfield 21, 3) := by decide +kernel
theorem dX0_init_34 : decode cX0_init 34 = .ok (.aload_n 0, 1) := by decide +kernel
theorem dX0_init_35 : decode cX0_init 35 = .ok (.iconst 3, 1) := by decide +kernel
theorem dX0_init_36 : decode cX0_init 36 = .ok (.putfield 24, 3) := by decide +kernel
theorem dX0_init_39 : decode cX0_init 39 = .ok (.aload_n 0, 1) := by decide +kernel
theorem dX0_init_40 : decode cX0_init 40 = .ok (.iconst 5, 1) := by decide +kernel
theorem dX0_init_41 : decode cX0_init 41 = .ok (.newarray .int, 2) := by decide +kernel
theorem dX0_init_43 : decode cX0_init 43 = .ok (.putfield 28, 3) := by decide +kernel
theorem dX0_init_46 : decode cX0_init 46 = .ok (.aload_n 0, 1) := by decide +kernel
theorem dX0_init_47 : decode cX0_init 47 = .ok (.iconst 1, 1) := by decide +kernel
theorem dX0_init_48 : decode cX0_init 48 = .ok (.putfield 31, 3) := by decide +kernel
theorem dX0_init_51 : decode cX0_init 51 = .ok (.aload_n 0, 1) := by decide +kernel
theorem dX0_init_52 : decode cX0_init 52 = .ok (.iconst 4, 1) := by decide +kernel
theorem dX0_init_53 : decode cX0_init 53 = .ok (.newarray .int, 2) := by decide +kernel
theorem dX0_init_55 : decode cX0_init 55 = .ok (.putfield 34, 3) := by decide +kernel
theorem dX0_init_58 : decode cX0_init 58 = .ok (.aload_n 0, 1) := by decide +kernel
theorem dX0_init_59 : decode cX0_init 59 = .ok (.iconst 0, 1) := by decide +kernel
theorem dX0_init_60 : decode cX0_init 60 = .ok (.putfield 37, 3) := by decide +kernel
theorem dX0_init_63 : decode cX0_init 63 = .ok (.aload_n 0, 1) := by decide +kernel
theorem dX0_init_64 : decode cX0_init 64 = .ok (.bipush 6, 2) := by decide +kernel
theorem dX0_init_66 : decode cX0_init 66 = .ok (.newarray .int, 2) := by decide +kernel
theorem dX0_init_68 : decode cX0_init 68 = .ok (.putfield 40, 3) := by decide +kernel
theorem dX0_init_71 : decode cX0_init 71 = .ok (.aload_n 0, 1) := by decide +kernel
theorem dX0_init_72 : decode cX0_init 72 = .ok (.bipush 6, 2) := by decide +kernel
theorem dX0_init_74 : decode cX0_init 74 = .ok (.newarray .int, 2) := by decide +kernel
theorem dX0_init_76 : decode cX0_init 76 = .ok (.putfield 43, 3) := by decide +kernel
theorem dX0_init_79 : decode cX0_init 79 = .ok (.aload_n 0, 1) := by decide +kernel
theorem dX0_init_80 : decode cX0_init 80 = .ok (.bipush 6, 2) := by decide +kernel
theorem dX0_init_82 : decode cX0_init 82 = .ok (.newarray .int, 2) := by decide +kernel
theorem dX0_init_84 : decode cX0_init 84 = .ok (.putfield 46, 3) := by decide +kernel
theorem dX0_init_87 : decode cX0_init 87 = .ok (.aload_n 0, 1) := by decide +kernel
theorem dX0_init_88 : decode cX0_init 88 = .ok (.iconst 0, 1) := by decide +kernel
theorem dX0_init_89 : decode cX0_init 89 = .ok (.putfield 49, 3) := by decide +kernel
theorem dX0_init_92 : decode cX0_init 92 = .ok (.aload_n 0, 1) := by decide +kernel
theorem dX0_init_93 : decode cX0_init 93 = .ok (.bipush 8, 2) := by decide +kernel
theorem dX0_init_95 : decode cX0_init 95 = .ok (.newarray .int, 2) := by decide +kernel
theorem dX0_init_97 : decode cX0_init 97 = .ok (.putfield 52, 3) := by decide +kernel
theorem dX0_init_100 : decode cX0_init 100 = .ok (.aload_n 0, 1) := by decide +kernel
theorem dX0_init_101 : decode cX0_init 101 = .ok (.bipush 8, 2) := by decide +kernel
theorem dX0_init_103 : decode cX0_init 103 = .ok (.newarray .int, 2) := by decide +kernel
theorem dX0_init_105 : decode cX0_init 105 = .ok (.putfield 55, 3) := by decide +kernel
theorem dX0_init_108 : decode cX0_init 108 = .ok (.aload_n 0, 1) := by decide +kernel
theorem dX0_init_109 : decode cX0_init 109 = .ok (.bipush 8, 2) := by decide +kernel
theorem dX0_init_111 : decode cX0_init 111 = .ok (.newarray .int, 2) := by decide +kernel
theorem dX0_init_113 : decode cX0_init 113 = .ok (.putfield 58, 3) := by decide +kernel
theorem dX0_init_116 : decode cX0_init 116 = .ok (.aload_n 0, 1) := by decide +kernel
theorem dX0_init_117 : decode cX0_init 117 = .ok (.getfield 28, 3) := by decide +kernel
theorem dX0_init_120 : decode cX0_init 120 = .ok (.iconst 2, 1) := by decide +kernel
theorem dX0_init_121 : decode cX0_init 121 = .ok (.iconst 1, 1) := by decide +kernel
theorem dX0_init_122 : decode cX0_init 122 = .ok (.iastore, 1) := by decide +kernel
theorem dX0_init_123 : decode cX0_init 123 = .ok (.getstatic 61, 3) := by decide +kernel
theorem dX0_init_126 : decode cX0_init 126 = .ok (.iconst 0, 1) := by decide +kernel
theorem dX0_init_127 : decode cX0_init 127 = .ok (.aload_n 0, 1) := by decide +kernel
theorem dX0_init_128 : decode cX0_init 128 = .ok (.getfield 34, 3) := by decide +kernel
theorem dX0_init_131 : decode cX0_init 131 = .ok (.iconst 0, 1) := by decide +kernel
theorem dX0_init_132 : decode cX0_init 132 = .ok (.iconst 4, 1) := by decide +kernel
theorem dX0_init_133 : decode cX0_init 133 = .ok (.invokestatic 64, 3) := by decide +kernel
theorem dX0_init_136 : decode cX0_init 136 = .ok (.return_, 1) := by decide +kernel
theorem dX0_copyFrom_0 : decode cX0_copyFrom 0 = .ok (.aload_n 1, 1) := by decide +kernel
theorem dX0_copyFrom_1 : decode cX0_copyFrom 1 = .ok (.getfield 9, 3) := by decide +kernel
theorem dX0_copyFrom_4 : decode cX0_copyFrom 4 = .ok (.iconst 0, 1) := by decide +kernel
theorem dX0_copyFrom_5 : decode cX0_copyFrom 5 = .ok (.aload_n 0, 1) := by decide +kernel
theorem dX0_copyFrom_6 : decode cX0_copyFrom 6 = .ok (.getfield 9, 3) := by decide +kernel
theorem dX0_copyFrom_9 : decode cX0_copyFrom 9 = .ok (.iconst 0, 1) := by decide +kernel
theorem dX0_copyFrom_10 : decode cX0_copyFrom 10 = .ok (.iconst 4, 1) := by decide +kernel
theorem dX0_copyFrom_11 : decode cX0_copyFrom 11 = .ok (.invokestatic 64, 3) := by decide +kernel
theorem dX0_copyFrom_14 : decode cX0_copyFrom 14 = .ok (.aload_n 1, 1) := by decide +kernel
theorem dX0_copyFrom_15 : decode cX0_copyFrom 15 = .ok (.getfield 15, 3) := by decide +kernel
theorem dX0_copyFrom_18 : decode cX0_copyFrom 18 = .ok (.iconst 0, 1) := by decide +kernel
theorem dX0_copyFrom_19 : decode cX0_copyFrom 19 = .ok (.aload_n 0, 1) := by decide +kernel
theorem dX0_copyFrom_20 : decode cX0_copyFrom 20 = .ok (.getfield 15, 3) := by decide +kernel
theorem dX0_copyFrom_23 : decode cX0_copyFrom 23 = .ok (.iconst 0, 1) := by decide +kernel
theorem dX0_copyFrom_24 : decode cX0_copyFrom 24 = .ok (.bipush 24, 2) := by decide +kernel
theorem dX0_copyFrom_26 : decode cX0_copyFrom 26 = .ok (.invokestatic 64, 3) := by decide +kernel
theorem dX0_copyFrom_29 : decode cX0_copyFrom 29 = .ok (.aload_n 1, 1) := by decide +kernel
theorem dX0_copyFrom_30 : decode cX0_copyFrom 30 = .ok (.getfield 18, 3) := by decide +kernel
theorem dX0_copyFrom_33 : decode cX0_copyFrom 33 = .ok (.iconst 0, 1) := by decide +kernel
theorem dX0_copyFrom_34 : decode cX0_copyFrom 34 = .ok (.aload_n 0, 1) := by decide +kernel
theorem dX0_copyFrom_35 : decode cX0_copyFrom 35 = .ok (.getfield 18, 3) := by decide +kernel
theorem dX0_copyFrom_38 : decode cX0_copyFrom 38 = .ok (.iconst 0, 1) := by decide +kernel
theorem dX0_copyFrom_39 : decode cX0_copyFrom 39 = .ok (.bipush 24, 2) := by decide +kernel
theorem dX0_copyFrom_41 : decode cX0_copyFrom 41 = .ok (.invokestatic 64, 3) := by decide +kernel
theorem dX0_copyFrom_44 : decode cX0_copyFrom 44 = .ok (.aload_n 1, 1) := by decide +kernel
theorem dX0_copyFrom_45 : decode cX0_copyFrom 45 = .ok (.getfield 21, 3) := by decide +kernel
theorem dX0_copyFrom_48 : decode cX0_copyFrom 48 = .ok (.iconst 0, 1) := by decide +kernel
theorem dX0_copyFrom_49 : decode cX0_copyFrom 49 = .ok (.aload_n 0, 1) := by decide +kernel
theorem dX0_copyFrom_50 : decode cX0_copyFrom 50 = .ok (.getfield 21, 3) := by decide +kernel
theorem dX0_copyFrom_53 : decode cX0_copyFrom 53 = .ok (.iconst 0, 1) := by decide +kernel
theorem dX0_copyFrom_54 : decode cX0_copyFrom 54 = .ok (.iconst 4, 1) := by decide +kernel
theorem dX0_copyFrom_55 : decode cX0_copyFrom 55 = .ok (.invokestatic 64, 3) := by decide +kernel
theorem dX0_copyFrom_58 : decode cX0_copyFrom 58 = .ok (.aload_n 0, 1) := by decide +kernel
theorem dX0_copyFrom_59 : decode cX0_copyFrom 59 = .ok (.aload_n 1, 1) := by decide +kernel
theorem dX0_copyFrom_60 : decode cX0_copyFrom 60 = .ok (.getfield 24, 3) := by decide +kernel
theorem dX0_copyFrom_63 : decode cX0_copyFrom 63 = .ok (.putfield 24, 3) := by decide +kernel
theorem dX0_copyFrom_66 : decode cX0_copyFrom 66 = .ok (.aload_n 1, 1) := by decide +kernel
theorem dX0_copyFrom_67 : decode cX0_copyFrom 67 = .ok (.getfield 28, 3) := by decide +kernel
theorem dX0_copyFrom_70 : decode cX0_copyFrom 70 = .ok (.iconst 0, 1) := by decide +kernel
theorem dX0_copyFrom_71 : decode cX0_copyFrom 71 = .ok (.aload_n 0, 1) := by decide +kernel
theorem dX0_copyFrom_72 : decode cX0_copyFrom 72 = .ok (.getfield 28, 3) := by decide +kernel
theorem dX0_copyFrom_75 : decode cX0_copyFrom 75 = .ok (.iconst 0, 1) := by decide +kernel
theorem dX0_copyFrom_76 : decode cX0_copyFrom 76 = .ok (.iconst 5, 1) := by decide +kernel
theorem dX0_copyFrom_77 : decode cX0_copyFrom 77 = .ok (.invokestatic 64, 3) := by decide +kernel
theorem dX0_copyFrom_80 : decode cX0_copyFrom 80 = .ok (.aload_n 0, 1) := by decide +kernel
theorem dX0_copyFrom_81 : decode cX0_copyFrom 81 = .ok (.aload_n 1, 1) := by decide +kernel
theorem dX0_copyFrom_82 : decode cX0_copyFrom 82 = .ok (.getfield 31, 3) := by decide +kernel
theorem dX0_copyFrom_85 : decode cX0_copyFrom 85 = .ok (.putfield 31, 3) := by decide +kernel
theorem dX0_copyFrom_88 : decode cX0_copyFrom 88 = .ok (.aload_n 1, 1) := by decide +kernel
theorem dX0_copyFrom_89 : decode cX0_copyFrom 89 = .ok (.getfield 34, 3) := by decide +kernel
theorem dX0_copyFrom_92 : decode cX0_copyFrom 92 = .ok (.iconst 0, 1) := by decide +kernel
theorem dX0_copyFrom_93 : decode cX0_copyFrom 93 = .ok (.aload_n 0, 1) := by decide +kernel
theorem dX0_copyFrom_94 : decode cX0_copyFrom 94 = .ok (.getfield 34, 3) := by decide +kernel
theorem dX0_copyFrom_97 : decode cX0_copyFrom 97 = .ok (.iconst 0, 1) := by decide +kernel
theorem dX0_copyFrom_98 : decode cX0_copyFrom 98 = .ok (.iconst 4, 1) := by decide +kernel
theorem dX0_copyFrom_99 : decode cX0_copyFrom 99 = .ok (.invokestatic 64, 3) := by decide +kernel
theorem dX0_copyFrom_102 : decode cX0_copyFrom 102 = .ok (.aload_n 0, 1) := by decide +kernel
theorem dX0_copyFrom_103 : decode cX0_copyFrom 103 = .ok (.aload_n 1, 1) := by decide +kernel
theorem dX0_copyFrom_104 : decode cX0_copyFrom 104 = .ok (.getfield 37, 3) := by decide +kernel
theorem dX0_copyFrom_107 : decode cX0_copyFrom 107 = .ok (.putfield 37, 3) := by decide +kernel
theorem dX0_copyFrom_110 : decode cX0_copyFrom 110 = .ok (.aload_n 1, 1) := by decide +kernel
theorem dX0_copyFrom_111 : decode cX0_copyFrom 111 = .ok (.getfield 40, 3) := by decide +kernel
theorem dX0_copyFrom_114 : decode cX0_copyFrom 114 = .ok (.iconst 0, 1) := by decide +kernel
theorem dX0_copyFrom_115 : decode cX0_copyFrom 115 = .ok (.aload_n 0, 1) := by decide +kernel
theorem dX0_copyFrom_116 : decode cX0_copyFrom 116 = .ok (.getfield 40, 3) := by decide +kernel
theorem dX0_copyFrom_119 : decode cX0_copyFrom 119 = .ok (.iconst 0, 1) := by decide +kernel
theorem dX0_copyFrom_120 : decode cX0_copyFrom 120 = .ok (.bipush 6, 2) := by decide +kernel
theorem dX0_copyFrom_122 : decode cX0_copyFrom 122 = .ok (.invokestatic 64, 3) := by decide +kernel
theorem dX0_copyFrom_125 : decode cX0_copyFrom 125 = .ok (.aload_n 1, 1) := by decide +kernel
theorem dX0_copyFrom_126 : decode cX0_copyFrom 126 = .ok (.getfield 43, 3) := by decide +kernel
theorem dX0_copyFrom_129 : decode cX0_copyFrom 129 = .ok (.iconst 0, 1) := by decide +kernel
theorem dX0_copyFrom_130 : decode cX0_copyFrom 130 = .ok (.aload_n 0, 1) := by decide +kernel
theorem dX0_copyFrom_131 : decode cX0_copyFrom 131 = .ok (.getfield 43, 3) := by decide +kernel
theorem dX0_copyFrom_134 : decode cX0_copyFrom 134 = .ok (.iconst 0, 1) := by decide +kernel
theorem dX0_copyFrom_135 : decode cX0_copyFrom 135 = .ok (.bipush 6, 2) := by decide +kernel
theorem dX0_copyFrom_137 : decode cX0_copyFrom 137 = .ok (.invokestatic 64, 3) := by decide +kernel
theorem dX0_copyFrom_140 : decode cX0_copyFrom 140 = .ok (.aload_n 1, 1) := by decide +kernel
theorem dX0_copyFrom_141 : decode cX0_copyFrom 141 = .ok (.getfield 46, 3) := by decide +kernel
theorem dX0_copyFrom_144 : decode cX0_copyFrom 144 = .ok (.iconst 0, 1) := by decide +kernel
theorem dX0_copyFrom_145 : decode cX0_copyFrom 145 = .ok (.aload_n 0, 1) := by decide +kernel
theorem dX0_copyFrom_146 : decode cX0_copyFrom 146 = .ok (.getfield 46, 3) := by decide +kernel
theorem dX0_copyFrom_149 : decode cX0_copyFrom 149 = .ok (.iconst 0, 1) := by decide +kernel
theorem dX0_copyFrom_150 : decode cX0_copyFrom 150 = .ok (.bipush 6, 2) := by decide +kernel
theorem dX0_copyFrom_152 : decode cX0_copyFrom 152 = .ok (.invokestatic 64, 3) := by decide +kernel
theorem dX0_copyFrom_155 : decode cX0_copyFrom 155 = .ok (.aload_n 0, 1) := by decide +kernel
theorem dX0_copyFrom_156 : decode cX0_copyFrom 156 = .ok (.aload_n 1, 1) := by decide +kernel
theorem dX0_copyFrom_157 : decode cX0_copyFrom 157 = .ok (.getfield 49, 3) := by decide +kernel
theorem dX0_copyFrom_160 : decode cX0_copyFrom 160 = .ok (.putfield 49, 3) := by decide +kernel
theorem dX0_copyFrom_163 : decode cX0_copyFrom 163 = .ok (.aload_n 1, 1) := by decide +kernel
theorem dX0_copyFrom_164 : decode cX0_copyFrom 164 = .ok (.getfield 52, 3) := by decide +kernel
theorem dX0_copyFrom_167 : decode cX0_copyFrom 167 = .ok (.iconst 0, 1) := by decide +kernel
theorem dX0_copyFrom_168 : decode cX0_copyFrom 168 = .ok (.aload_n 0, 1) := by decide +kernel
theorem dX0_copyFrom_169 : decode cX0_copyFrom 169 = .ok (.getfield 52, 3) := by decide +kernel
theorem dX0_copyFrom_172 : decode cX0_copyFrom 172 = .ok (.iconst 0, 1) := by decide +kernel
theorem dX0_copyFrom_173 : decode cX0_copyFrom 173 = .ok (.bipush 8, 2) := by decide +kernel
theorem dX0_copyFrom_175 : decode cX0_copyFrom 175 = .ok (.invokestatic 64, 3) := by decide +kernel
theorem dX0_copyFrom_178 : decode cX0_copyFrom 178 = .ok (.aload_n 1, 1) := by decide +kernel
theorem dX0_copyFrom_179 : decode cX0_copyFrom 179 = .ok (.getfield 55, 3) := by decide +kernel
theorem dX0_copyFrom_182 : decode cX0_copyFrom 182 = .ok (.iconst 0, 1) := by decide +kernel
theorem dX0_copyFrom_183 : decode cX0_copyFrom 183 = .ok (.aload_n 0, 1) := by decide +kernel
theorem dX0_copyFrom_184 : decode cX0_copyFrom 184 = .ok (.getfield 55, 3) := by decide +kernel
theorem dX0_copyFrom_187 : decode cX0_copyFrom 187 = .ok (.iconst 0, 1) := by decide +kernel
theorem dX0_copyFrom_188 : decode cX0_copyFrom 188 = .ok (.bipush 8, 2) := by decide +kernel
theorem dX0_copyFrom_190 : decode cX0_copyFrom 190 = .ok (.invokestatic 64, 3) := by decide +kernel
theorem dX0_copyFrom_193 : decode cX0_copyFrom 193 = .ok (.aload_n 1, 1) := by decide +kernel
theorem dX0_copyFrom_194 : decode cX0_copyFrom 194 = .ok (.getfield 58, 3) := by decide +kernel
theorem dX0_copyFrom_197 : decode cX0_copyFrom 197 = .ok (.iconst 0, 1) := by decide +kernel
theorem dX0_copyFrom_198 : decode cX0_copyFrom 198 = .ok (.aload_n 0, 1) := by decide +kernel
theorem dX0_copyFrom_199 : decode cX0_copyFrom 199 = .ok (.getfield 58, 3) := by decide +kernel
theorem dX0_copyFrom_202 : decode cX0_copyFrom 202 = .ok (.iconst 0, 1) := by decide +kernel
theorem dX0_copyFrom_203 : decode cX0_copyFrom 203 = .ok (.bipush 8, 2) := by decide +kernel
theorem dX0_copyFrom_205 : decode cX0_copyFrom 205 = .ok (.invokestatic 64, 3) := by decide +kernel
theorem dX0_copyFrom_208 : decode cX0_copyFrom 208 = .ok (.return_, 1) := by decide +kernel
theorem dX0_appendReel_0 : decode cX0_appendReel 0 = .ok (.iload_n 1, 1) := by decide +kernel
theorem dX0_appendReel_1 : decode cX0_appendReel 1 = .ok (.aload_n 0, 1) := by decide +kernel
theorem dX0_appendReel_2 : decode cX0_appendReel 2 = .ok (.getfield 9, 3) := by decide +kernel
theorem dX0_appendReel_5 : decode cX0_appendReel 5 = .ok (.iload_n 1, 1) := by decide +kernel
theorem dX0_appendReel_6 : decode cX0_appendReel 6 = .ok (.iaload, 1) := by decide +kernel
theorem dX0_appendReel_7 : decode cX0_appendReel 7 = .ok (.invokestatic 70, 3) := by decide +kernel
theorem dX0_appendReel_10 : decode cX0_appendReel 10 = .ok (.istore 4, 2) := by decide +kernel
theorem dX0_appendReel_12 : decode cX0_appendReel 12 = .ok (.aload_n 0, 1) := by decide +kernel
theorem dX0_appendReel_13 : decode cX0_appendReel 13 = .ok (.getfield 15, 3) := by decide +kernel
theorem dX0_appendReel_16 : decode cX0_appendReel 16 = .ok (.iload 4, 2) := by decide +kernel
theorem dX0_appendReel_18 : decode cX0_appendReel 18 = .ok (.iload_n 2, 1) := by decide +kernel
theorem dX0_appendReel_19 : decode cX0_appendReel 19 = .ok (.iastore, 1) := by decide +kernel
theorem dX0_appendReel_20 : decode cX0_appendReel 20 = .ok (.aload_n 0, 1) := by decide +kernel
theorem dX0_appendReel_21 : decode cX0_appendReel 21 = .ok (.getfield 18, 3) := by decide +kernel
theorem dX0_appendReel_24 : decode cX0_appendReel 24 = .ok (.iload 4, 2) := by decide +kernel
theorem dX0_appendReel_26 : decode cX0_appendReel 26 = .ok (.iload_n 3, 1) := by decide +kernel
theorem dX0_appendReel_27 : decode cX0_appendReel 27 = .ok (.iastore, 1) := by decide +kernel
theorem dX0_appendReel_28 : decode cX0_appendReel 28 = .ok (.aload_n 0, 1) := by decide +kernel
theorem dX0_appendReel_29 : decode cX0_appendReel 29 = .ok (.getfield 9, 3) := by decide +kernel
theorem dX0_appendReel_32 : decode cX0_appendReel 32 = .ok (.iload_n 1, 1) := by decide +kernel
theorem dX0_appendReel_33 : decode cX0_appendReel 33 = .ok (.dup2, 1) := by decide +kernel
theorem dX0_appendReel_34 : decode cX0_appendReel 34 = .ok (.iaload, 1) := by decide +kernel
theorem dX0_appendReel_35 : decode cX0_appendReel 35 = .ok (.iconst 1, 1) := by decide +kernel
theorem dX0_appendReel_36 : decode cX0_appendReel 36 = .ok (.iadd, 1) := by decide +kernel
theorem dX0_appendReel_37 : decode cX0_appendReel 37 = .ok (.iastore, 1) := by decide +kernel
theorem dX0_appendReel_38 : decode cX0_appendReel 38 = .ok (.return_, 1) := by decide +kernel
theorem dX0_sumOfLengths_0 : decode cX0_sumOfLengths 0 = .ok (.iconst 0, 1) := by decide +kernel
theorem dX0_sumOfLengths_1 : decode cX0_sumOfLengths 1 = .ok (.istore_n 2, 1) := by decide +kernel
theorem dX0_sumOfLengths_2 : decode cX0_sumOfLengths 2 = .ok (.iconst 0, 1) := by decide +kernel
theorem dX0_sumOfLengths_3 : decode cX0_sumOfLengths 3 = .ok (.istore_n 3, 1) := by decide +kernel
theorem dX0_sumOfLengths_4 : decode cX0_sumOfLengths 4 = .ok (.iload_n 3, 1) := by decide +kernel
theorem dX0_sumOfLengths_5 : decode cX0_sumOfLengths 5 = .ok (.aload_n 0, 1) := by decide +kernel
theorem dX0_sumOfLengths_6 : decode cX0_sumOfLengths 6 = .ok (.getfield 9, 3) := by decide +kernel
theorem dX0_sumOfLengths_9 : decode cX0_sumOfLengths 9 = .ok (.iload_n 1, 1) := by decide +kernel
theorem dX0_sumOfLengths_10 : decode cX0_sumOfLengths 10 = .ok (.iaload, 1) := by decide +kernel
theorem dX0_sumOfLengths_11 : decode cX0_sumOfLengths 11 = .ok (.if_icmp .ge 22, 3) := by decide +kernel
theorem dX0_sumOfLengths_14 : decode cX0_sumOfLengths 14 = .ok (.iload_n 2, 1) := by decide +kernel
theorem dX0_sumOfLengths_15 : decode cX0_sumOfLengths 15 = .ok (.aload_n 0, 1) := by decide +kernel
theorem dX0_sumOfLengths_16 : decode cX0_sumOfLengths 16 = .ok (.getfield 15, 3) := by decide +kernel
theorem dX0_sumOfLengths_19 : decode cX0_sumOfLengths 19 = .ok (.iload_n 1, 1) := by decide +kernel
theorem dX0_sumOfLengths_20 : decode cX0_sumOfLengths 20 = .ok (.iload_n 3, 1) := by decide +kernel
theorem dX0_sumOfLengths_21 : decode cX0_sumOfLengths 21 = .ok (.invokestatic 70, 3) := by decide +kernel
theorem dX0_sumOfLengths_24 : decode cX0_sumOfLengths 24 = .ok (.iaload, 1) := by decide +kernel
theorem dX0_sumOfLengths_25 : decode cX0_sumOfLengths 25 = .ok (.iadd, 1) := by decide +kernel
theorem dX0_sumOfLengths_26 : decode cX0_sumOfLengths 26 = .ok (.istore_n 2, 1) := by decide +kernel
theorem dX0_sumOfLengths_27 : decode cX0_sumOfLengths 27 = .ok (.iinc 3 1, 3) := by decide +kernel
theorem dX0_sumOfLengths_30 : decode cX0_sumOfLengths 30 = .ok (.goto (-26), 3) := by decide +kernel
theorem dX0_sumOfLengths_33 : decode cX0_sumOfLengths 33 = .ok (.iload_n 2, 1) := by decide +kernel
theorem dX0_sumOfLengths_34 : decode cX0_sumOfLengths 34 = .ok (.ireturn, 1) := by decide +kernel
theorem dX0_isShown_0 : decode cX0_isShown 0 = .ok (.iconst 0, 1) := by decide +kernel
theorem dX0_isShown_1 : decode cX0_isShown 1 = .ok (.istore_n 2, 1) := by decide +kernel
theorem dX0_isShown_2 : decode cX0_isShown 2 = .ok (.iload_n 2, 1) := by decide +kernel
theorem dX0_isShown_3 : decode cX0_isShown 3 = .ok (.aload_n 0, 1) := by decide +kernel
theorem dX0_isShown_4 : decode cX0_isShown 4 = .ok (.getfield 37, 3) := by decide +kernel
theorem dX0_isShown_7 : decode cX0_isShown 7 = .ok (.if_icmp .ge 21, 3) := by decide +kernel
theorem dX0_isShown_10 : decode cX0_isShown 10 = .ok (.aload_n 0, 1) := by decide +kernel
theorem dX0_isShown_11 : decode cX0_isShown 11 = .ok (.getfield 43, 3) := by decide +kernel
theorem dX0_isShown_14 : decode cX0_isShown 14 = .ok (.iload_n 2, 1) := by decide +kernel
theorem dX0_isShown_15 : decode cX0_isShown 15 = .ok (.iaload, 1) := by decide +kernel
theorem dX0_isShown_16 : decode cX0_isShown 16 = .ok (.iload_n 1, 1) := by decide +kernel
theorem dX0_isShown_17 : decode cX0_isShown 17 = .ok (.if_icmp .ne 5, 3) := by decide +kernel
theorem dX0_isShown_20 : decode cX0_isShown 20 = .ok (.iconst 1, 1) := by decide +kernel
theorem dX0_isShown_21 : decode cX0_isShown 21 = .ok (.ireturn, 1) := by decide +kernel
theorem dX0_isShown_22 : decode cX0_isShown 22 = .ok (.iinc 2 1, 3) := by decide +kernel
theorem dX0_isShown_25 : decode cX0_isShown 25 = .ok (.goto (-23), 3) := by decide +kernel
theorem dX0_isShown_28 : decode cX0_isShown 28 = .ok (.iconst 0, 1) := by decide +kernel
theorem dX0_isShown_29 : decode cX0_isShown 29 = .ok (.ireturn, 1) := by decide +kernel
theorem dX0_setHomes_0 : decode cX0_setHomes 0 = .ok (.iconst 0, 1) := by decide +kernel
theorem dX0_setHomes_1 : decode cX0_setHomes 1 = .ok (.istore_n 2, 1) := by decide +kernel
theorem dX0_setHomes_2 : decode cX0_setHomes 2 = .ok (.iload_n 2, 1) := by decide +kernel
theorem dX0_setHomes_3 : decode cX0_setHomes 3 = .ok (.iconst 4, 1) := by decide +kernel
theorem dX0_setHomes_4 : decode cX0_setHomes 4 = .ok (.if_icmp .ge 20, 3) := by decide +kernel
theorem dX0_setHomes_7 : decode cX0_setHomes 7 = .ok (.aload_n 0, 1) := by decide +kernel
theorem dX0_setHomes_8 : decode cX0_setHomes 8 = .ok (.getfield 21, 3) := by decide +kernel
theorem dX0_setHomes_11 : decode cX0_setHomes 11 = .ok (.iload_n 2, 1) := by decide +kernel
theorem dX0_setHomes_12 : decode cX0_setHomes 12 = .ok (.iload_n 1, 1) := by decide +kernel
theorem dX0_setHomes_13 : decode cX0_setHomes 13 = .ok (.iload_n 2, 1) := by decide +kernel
theorem dX0_setHomes_14 : decode cX0_setHomes 14 = .ok (.ishr, 1) := by decide +kernel
theorem dX0_setHomes_15 : decode cX0_setHomes 15 = .ok (.iconst 1, 1) := by decide +kernel
theorem dX0_setHomes_16 : decode cX0_setHomes 16 = .ok (.iand, 1) := by decide +kernel
theorem dX0_setHomes_17 : decode cX0_setHomes 17 = .ok (.iastore, 1) := by decide +kernel
theorem dX0_setHomes_18 : decode cX0_setHomes 18 = .ok (.iinc 2 1, 3) := by decide +kernel
theorem dX0_setHomes_21 : decode cX0_setHomes 21 = .ok (.goto (-19), 3) := by decide +kernel
theorem dX0_setHomes_24 : decode cX0_setHomes 24 = .ok (.return_, 1) := by decide +kernel
theorem dX0_appendMachine_0 : decode cX0_appendMachine 0 = .ok (.aload_n 0, 1) := by decide +kernel
theorem dX0_appendMachine_1 : decode cX0_appendMachine 1 = .ok (.getfield 28, 3) := by decide +kernel
theorem dX0_appendMachine_4 : decode cX0_appendMachine 4 = .ok (.aload_n 0, 1) := by decide +kernel
theorem dX0_appendMachine_5 : decode cX0_appendMachine 5 = .ok (.getfield 24, 3) := by decide +kernel
theorem dX0_appendMachine_8 : decode cX0_appendMachine 8 = .ok (.iload_n 1, 1) := by decide +kernel
theorem dX0_appendMachine_9 : decode cX0_appendMachine 9 = .ok (.iastore, 1) := by decide +kernel
theorem dX0_appendMachine_10 : decode cX0_appendMachine 10 = .ok (.aload_n 0, 1) := by decide +kernel
theorem dX0_appendMachine_11 : decode cX0_appendMachine 11 = .ok (.dup, 1) := by decide +kernel
theorem dX0_appendMachine_12 : decode cX0_appendMachine 12 = .ok (.getfield 24, 3) := by decide +kernel
theorem dX0_appendMachine_15 : decode cX0_appendMachine 15 = .ok (.iconst 1, 1) := by decide +kernel
theorem dX0_appendMachine_16 : decode cX0_appendMachine 16 = .ok (.iadd, 1) := by decide +kernel
theorem dX0_appendMachine_17 : decode cX0_appendMachine 17 = .ok (.putfield 24, 3) := by decide +kernel
theorem dX0_appendMachine_20 : decode cX0_appendMachine 20 = .ok (.return_, 1) := by decide +kernel
theorem dX0_dropMachine_0 : decode cX0_dropMachine 0 = .ok (.aload_n 0, 1) := by decide +kernel
theorem dX0_dropMachine_1 : decode cX0_dropMachine 1 = .ok (.dup, 1) := by decide +kernel
theorem dX0_dropMachine_2 : decode cX0_dropMachine 2 = .ok (.getfield 24, 3) := by decide +kernel
theorem dX0_dropMachine_5 : decode cX0_dropMachine 5 = .ok (.iconst 1, 1) := by decide +kernel
theorem dX0_dropMachine_6 : decode cX0_dropMachine 6 = .ok (.isub, 1) := by decide +kernel
theorem dX0_dropMachine_7 : decode cX0_dropMachine 7 = .ok (.putfield 24, 3) := by decide +kernel
theorem dX0_dropMachine_10 : decode cX0_dropMachine 10 = .ok (.iload_n 1, 1) := by decide +kernel
theorem dX0_dropMachine_11 : decode cX0_dropMachine 11 = .ok (.istore_n 2, 1) := by decide +kernel
theorem dX0_dropMachine_12 : decode cX0_dropMachine 12 = .ok (.iload_n 2, 1) := by decide +kernel
theorem dX0_dropMachine_13 : decode cX0_dropMachine 13 = .ok (.aload_n 0, 1) := by decide +kernel
theorem dX0_dropMachine_14 : decode cX0_dropMachine 14 = .ok (.getfield 24, 3) := by decide +kernel
theorem dX0_dropMachine_17 : decode cX0_dropMachine 17 = .ok (.if_icmp .ge 23, 3) := by decide +kernel
theorem dX0_dropMachine_20 : decode cX0_dropMachine 20 = .ok (.aload_n 0, 1) := by decide +kernel
theorem dX0_dropMachine_21 : decode cX0_dropMachine 21 = .ok (.getfield 28, 3) := by decide +kernel
theorem dX0_dropMachine_24 : decode cX0_dropMachine 24 = .ok (.iload_n 2, 1) := by decide +kernel
theorem dX0_dropMachine_25 : decode cX0_dropMachine 25 = .ok (.aload_n 0, 1) := by decide +kernel
theorem dX0_dropMachine_26 : decode cX0_dropMachine 26 = .ok (.getfield 28, 3) := by decide +kernel
theorem dX0_dropMachine_29 : decode cX0_dropMachine 29 = .ok (.iload_n 2, 1) := by decide +kernel
theorem dX0_dropMachine_30 : decode cX0_dropMachine 30 = .ok (.iconst 1, 1) := by decide +kernel
theorem dX0_dropMachine_31 : decode cX0_dropMachine 31 = .ok (.iadd, 1) := by decide +kernel
theorem dX0_dropMachine_32 : decode cX0_dropMachine 32 = .ok (.iaload, 1) := by decide +kernel
theorem dX0_dropMachine_33 : decode cX0_dropMachine 33 = .ok (.iastore, 1) := by decide +kernel
theorem dX0_dropMachine_34 : decode cX0_dropMachine 34 = .ok (.iinc 2 1, 3) := by decide +kernel
theorem dX0_dropMachine_37 : decode cX0_dropMachine 37 = .ok (.goto (-25), 3) := by decide +kernel
theorem dX0_dropMachine_40 : decode cX0_dropMachine 40 = .ok (.return_, 1) := by decide +kernel
theorem dX0_firstMachineIn_0 : decode cX0_firstMachineIn 0 = .ok (.iconst 0, 1) := by decide +kernel
theorem dX0_firstMachineIn_1 : decode cX0_firstMachineIn 1 = .ok (.istore_n 2, 1) := by decide +kernel
theorem dX0_firstMachineIn_2 : decode cX0_firstMachineIn 2 = .ok (.iload_n 2, 1) := by decide +kernel
theorem dX0_firstMachineIn_3 : decode cX0_firstMachineIn 3 = .ok (.aload_n 0, 1) := by decide +kernel
theorem dX0_firstMachineIn_4 : decode cX0_firstMachineIn 4 = .ok (.getfield 24, 3) := by decide +kernel
theorem dX0_firstMachineIn_7 : decode cX0_firstMachineIn 7 = .ok (.if_icmp .ge 21, 3) := by decide +kernel
theorem dX0_firstMachineIn_10 : decode cX0_firstMachineIn 10 = .ok (.aload_n 0, 1) := by decide +kernel
theorem dX0_firstMachineIn_11 : decode cX0_firstMachineIn 11 = .ok (.getfield 28, 3) := by decide +kernel
theorem dX0_firstMachineIn_14 : decode cX0_firstMachineIn 14 = .ok (.iload_n 2, 1) := by decide +kernel
theorem dX0_firstMachineIn_15 : decode cX0_firstMachineIn 15 = .ok (.iaload, 1) := by decide +kernel
theorem dX0_firstMachineIn_16 : decode cX0_firstMachineIn 16 = .ok (.iload_n 1, 1) := by decide +kernel
theorem dX0_firstMachineIn_17 : decode cX0_firstMachineIn 17 = .ok (.if_icmp .ne 5, 3) := by decide +kernel
theorem dX0_firstMachineIn_20 : decode cX0_firstMachineIn 20 = .ok (.iload_n 2, 1) := by decide +kernel
theorem dX0_firstMachineIn_21 : decode cX0_firstMachineIn 21 = .ok (.ireturn, 1) := by decide +kernel
theorem dX0_firstMachineIn_22 : decode cX0_firstMachineIn 22 = .ok (.iinc 2 1, 3) := by decide +kernel
theorem dX0_firstMachineIn_25 : decode cX0_firstMachineIn 25 = .ok (.goto (-23), 3) := by decide +kernel
theorem dX0_firstMachineIn_28 : decode cX0_firstMachineIn 28 = .ok (.iconst (-1), 1) := by decide +kernel
theorem dX0_firstMachineIn_29 : decode cX0_firstMachineIn 29 = .ok (.ireturn, 1) := by decide +kernel
theorem dX0_appendShow_0 : decode cX0_appendShow 0 = .ok (.aload_n 0, 1) := by decide +kernel
theorem dX0_appendShow_1 : decode cX0_appendShow 1 = .ok (.getfield 40, 3) := by decide +kernel
theorem dX0_appendShow_4 : decode cX0_appendShow 4 = .ok (.aload_n 0, 1) := by decide +kernel
theorem dX0_appendShow_5 : decode cX0_appendShow 5 = .ok (.getfield 37, 3) := by decide +kernel
theorem dX0_appendShow_8 : decode cX0_appendShow 8 = .ok (.iload_n 1, 1) := by decide +kernel
theorem dX0_appendShow_9 : decode cX0_appendShow 9 = .ok (.iastore, 1) := by decide +kernel
theorem dX0_appendShow_10 : decode cX0_appendShow 10 = .ok (.aload_n 0, 1) := by decide +kernel
theorem dX0_appendShow_11 : decode cX0_appendShow 11 = .ok (.getfield 43, 3) := by decide +kernel
theorem dX0_appendShow_14 : decode cX0_appendShow 14 = .ok (.aload_n 0, 1) := by decide +kernel
theorem dX0_appendShow_15 : decode cX0_appendShow 15 = .ok (.getfield 37, 3) := by decide +kernel
theorem dX0_appendShow_18 : decode cX0_appendShow 18 = .ok (.iload_n 2, 1) := by decide +kernel
theorem dX0_appendShow_19 : decode cX0_appendShow 19 = .ok (.iastore, 1) := by decide +kernel
theorem dX0_appendShow_20 : decode cX0_appendShow 20 = .ok (.aload_n 0, 1) := by decide +kernel
theorem dX0_appendShow_21 : decode cX0_appendShow 21 = .ok (.getfield 46, 3) := by decide +kernel
theorem dX0_appendShow_24 : decode cX0_appendShow 24 = .ok (.aload_n 0, 1) := by decide +kernel
theorem dX0_appendShow_25 : decode cX0_appendShow 25 = .ok (.getfield 37, 3) := by decide +kernel
theorem dX0_appendShow_28 : decode cX0_appendShow 28 = .ok (.iload_n 3, 1) := by decide +kernel
theorem dX0_appendShow_29 : decode cX0_appendShow 29 = .ok (.iastore, 1) := by decide +kernel
theorem dX0_appendShow_30 : decode cX0_appendShow 30 = .ok (.aload_n 0, 1) := by decide +kernel
theorem dX0_appendShow_31 : decode cX0_appendShow 31 = .ok (.dup, 1) := by decide +kernel
theorem dX0_appendShow_32 : decode cX0_appendShow 32 = .ok (.getfield 37, 3) := by decide +kernel
theorem dX0_appendShow_35 : decode cX0_appendShow 35 = .ok (.iconst 1, 1) := by decide +kernel
theorem dX0_appendShow_36 : decode cX0_appendShow 36 = .ok (.iadd, 1) := by decide +kernel
theorem dX0_appendShow_37 : decode cX0_appendShow 37 = .ok (.putfield 37, 3) := by decide +kernel
theorem dX0_appendShow_40 : decode cX0_appendShow 40 = .ok (.return_, 1) := by decide +kernel
theorem dX0_dropShow_0 : decode cX0_dropShow 0 = .ok (.aload_n 0, 1) := by decide +kernel
theorem dX0_dropShow_1 : decode cX0_dropShow 1 = .ok (.iload_n 1, 1) := by decide +kernel
theorem dX0_dropShow_2 : decode cX0_dropShow 2 = .ok (.invokevirtual 74, 3) := by decide +kernel
theorem dX0_dropShow_5 : decode cX0_dropShow 5 = .ok (.aload_n 0, 1) := by decide +kernel
theorem dX0_dropShow_6 : decode cX0_dropShow 6 = .ok (.dup, 1) := by decide +kernel
theorem dX0_dropShow_7 : decode cX0_dropShow 7 = .ok (.getfield 37, 3) := by decide +kernel
theorem dX0_dropShow_10 : decode cX0_dropShow 10 = .ok (.iconst 1, 1) := by decide +kernel
theorem dX0_dropShow_11 : decode cX0_dropShow 11 = .ok (.isub, 1) := by decide +kernel
theorem dX0_dropShow_12 : decode cX0_dropShow 12 = .ok (.putfield 37, 3) := by decide +kernel
theorem dX0_dropShow_15 : decode cX0_dropShow 15 = .ok (.iload_n 1, 1) := by decide +kernel
theorem dX0_dropShow_16 : decode cX0_dropShow 16 = .ok (.istore_n 2, 1) := by decide +kernel
theorem dX0_dropShow_17 : decode cX0_dropShow 17 = .ok (.iload_n 2, 1) := by decide +kernel
theorem dX0_dropShow_18 : decode cX0_dropShow 18 = .ok (.aload_n 0, 1) := by decide +kernel
theorem dX0_dropShow_19 : decode cX0_dropShow 19 = .ok (.getfield 37, 3) := by decide +kernel
theorem dX0_dropShow_22 : decode cX0_dropShow 22 = .ok (.if_icmp .ge 51, 3) := by decide +kernel
theorem dX0_dropShow_25 : decode cX0_dropShow 25 = .ok (.aload_n 0, 1) := by decide +kernel
theorem dX0_dropShow_26 : decode cX0_dropShow 26 = .ok (.getfield 40, 3) := by decide +kernel
theorem dX0_dropShow_29 : decode cX0_dropShow 29 = .ok (.iload_n 2, 1) := by decide +kernel
theorem dX0_dropShow_30 : decode cX0_dropShow 30 = .ok (.aload_n 0, 1) := by decide +kernel
theorem dX0_dropShow_31 : decode cX0_dropShow 31 = .ok (.getfield 40, 3) := by decide +kernel
theorem dX0_dropShow_34 : decode cX0_dropShow 34 = .ok (.iload_n 2, 1) := by decide +kernel
theorem dX0_dropShow_35 : decode cX0_dropShow 35 = .ok (.iconst 1, 1) := by decide +kernel
theorem dX0_dropShow_36 : decode cX0_dropShow 36 = .ok (.iadd, 1) := by decide +kernel
theorem dX0_dropShow_37 : decode cX0_dropShow 37 = .ok (.iaload, 1) := by decide +kernel
theorem dX0_dropShow_38 : decode cX0_dropShow 38 = .ok (.iastore, 1) := by decide +kernel
theorem dX0_dropShow_39 : decode cX0_dropShow 39 = .ok (.aload_n 0, 1) := by decide +kernel
theorem dX0_dropShow_40 : decode cX0_dropShow 40 = .ok (.getfield 43, 3) := by decide +kernel
theorem dX0_dropShow_43 : decode cX0_dropShow 43 = .ok (.iload_n 2, 1) := by decide +kernel
theorem dX0_dropShow_44 : decode cX0_dropShow 44 = .ok (.aload_n 0, 1) := by decide +kernel
theorem dX0_dropShow_45 : decode cX0_dropShow 45 = .ok (.getfield 43, 3) := by decide +kernel
theorem dX0_dropShow_48 : decode cX0_dropShow 48 = .ok (.iload_n 2, 1) := by decide +kernel
theorem dX0_dropShow_49 : decode cX0_dropShow 49 = .ok (.iconst 1, 1) := by decide +kernel
theorem dX0_dropShow_50 : decode cX0_dropShow 50 = .ok (.iadd, 1) := by decide +kernel
theorem dX0_dropShow_51 : decode cX0_dropShow 51 = .ok (.iaload, 1) := by decide +kernel
theorem dX0_dropShow_52 : decode cX0_dropShow 52 = .ok (.iastore, 1) := by decide +kernel
theorem dX0_dropShow_53 : decode cX0_dropShow 53 = .ok (.aload_n 0, 1) := by decide +kernel
theorem dX0_dropShow_54 : decode cX0_dropShow 54 = .ok (.getfield 46, 3) := by decide +kernel
theorem dX0_dropShow_57 : decode cX0_dropShow 57 = .ok (.iload_n 2, 1) := by decide +kernel
theorem dX0_dropShow_58 : decode cX0_dropShow 58 = .ok (.aload_n 0, 1) := by decide +kernel
theorem dX0_dropShow_59 : decode cX0_dropShow 59 = .ok (.getfield 46, 3) := by decide +kernel
theorem dX0_dropShow_62 : decode cX0_dropShow 62 = .ok (.iload_n 2, 1) := by decide +kernel
theorem dX0_dropShow_63 : decode cX0_dropShow 63 = .ok (.iconst 1, 1) := by decide +kernel
theorem dX0_dropShow_64 : decode cX0_dropShow 64 = .ok (.iadd, 1) := by decide +kernel
theorem dX0_dropShow_65 : decode cX0_dropShow 65 = .ok (.iaload, 1) := by decide +kernel
theorem dX0_dropShow_66 : decode cX0_dropShow 66 = .ok (.iastore, 1) := by decide +kernel
theorem dX0_dropShow_67 : decode cX0_dropShow 67 = .ok (.iinc 2 1, 3) := by decide +kernel
theorem dX0_dropShow_70 : decode cX0_dropShow 70 = .ok (.goto (-53), 3) := by decide +kernel
theorem dX0_dropShow_73 : decode cX0_dropShow 73 = .ok (.return_, 1) := by decide +kernel
theorem dX0_dropBreaksOf_0 : decode cX0_dropBreaksOf 0 = .ok (.iconst 0, 1) := by decide +kernel
theorem dX0_dropBreaksOf_1 : decode cX0_dropBreaksOf 1 = .ok (.istore_n 2, 1) := by decide +kernel
theorem dX0_dropBreaksOf_2 : decode cX0_dropBreaksOf 2 = .ok (.iconst 0, 1) := by decide +kernel
theorem dX0_dropBreaksOf_3 : decode cX0_dropBreaksOf 3 = .ok (.istore_n 3, 1) := by decide +kernel
theorem dX0_dropBreaksOf_4 : decode cX0_dropBreaksOf 4 = .ok (.iload_n 3, 1) := by decide +kernel
theorem dX0_dropBreaksOf_5 : decode cX0_dropBreaksOf 5 = .ok (.aload_n 0, 1) := by decide +kernel
theorem dX0_dropBreaksOf_6 : decode cX0_dropBreaksOf 6 = .ok (.getfield 49, 3) := by decide +kernel
theorem dX0_dropBreaksOf_9 : decode cX0_dropBreaksOf 9 = .ok (.if_icmp .ge 71, 3) := by decide +kernel
theorem dX0_dropBreaksOf_12 : decode cX0_dropBreaksOf 12 = .ok (.aload_n 0, 1) := by decide +kernel
theorem dX0_dropBreaksOf_13 : decode cX0_dropBreaksOf 13 = .ok (.getfield 52, 3) := by decide +kernel
theorem dX0_dropBreaksOf_16 : decode cX0_dropBreaksOf 16 = .ok (.iload_n 3, 1) := by decide +kernel
theorem dX0_dropBreaksOf_17 : decode cX0_dropBreaksOf 17 = .ok (.iaload, 1) := by decide +kernel
theorem dX0_dropBreaksOf_18 : decode cX0_dropBreaksOf 18 = .ok (.istore 4, 2) := by decide +kernel
theorem dX0_dropBreaksOf_20 : decode cX0_dropBreaksOf 20 = .ok (.iload 4, 2) := by decide +kernel
theorem dX0_dropBreaksOf_22 : decode cX0_dropBreaksOf 22 = .ok (.iload_n 1, 1) := by decide +kernel
theorem dX0_dropBreaksOf_23 : decode cX0_dropBreaksOf 23 = .ok (.if_icmp .eq 51, 3) := by decide +kernel
theorem dX0_dropBreaksOf_26 : decode cX0_dropBreaksOf 26 = .ok (.aload_n 0, 1) := by decide +kernel
theorem dX0_dropBreaksOf_27 : decode cX0_dropBreaksOf 27 = .ok (.getfield 52, 3) := by decide +kernel
theorem dX0_dropBreaksOf_30 : decode cX0_dropBreaksOf 30 = .ok (.iload_n 2, 1) := by decide +kernel
theorem dX0_dropBreaksOf_31 : decode cX0_dropBreaksOf 31 = .ok (.iload 4, 2) := by decide +kernel
theorem dX0_dropBreaksOf_33 : decode cX0_dropBreaksOf 33 = .ok (.iload_n 1, 1) := by decide +kernel
theorem dX0_dropBreaksOf_34 : decode cX0_dropBreaksOf 34 = .ok (.if_icmp .le 10, 3) := by decide +kernel
theorem dX0_dropBreaksOf_37 : decode cX0_dropBreaksOf 37 = .ok (.iload 4, 2) := by decide +kernel
theorem dX0_dropBreaksOf_39 : decode cX0_dropBreaksOf 39 = .ok (.iconst 1, 1) := by decide +kernel
theorem dX0_dropBreaksOf_40 : decode cX0_dropBreaksOf 40 = .ok (.isub, 1) := by decide +kernel
theorem dX0_dropBreaksOf_41 : decode cX0_dropBreaksOf 41 = .ok (.goto 5, 3) := by decide +kernel
theorem dX0_dropBreaksOf_44 : decode cX0_dropBreaksOf 44 = .ok (.iload 4, 2) := by decide +kernel
theorem dX0_dropBreaksOf_46 : decode cX0_dropBreaksOf 46 = .ok (.iastore, 1) := by decide +kernel
theorem dX0_dropBreaksOf_47 : decode cX0_dropBreaksOf 47 = .ok (.aload_n 0, 1) := by decide +kernel
theorem dX0_dropBreaksOf_48 : decode cX0_dropBreaksOf 48 = .ok (.getfield 55, 3) := by decide +kernel
theorem dX0_dropBreaksOf_51 : decode cX0_dropBreaksOf 51 = .ok (.iload_n 2, 1) := by decide +kernel
theorem dX0_dropBreaksOf_52 : decode cX0_dropBreaksOf 52 = .ok (.aload_n 0, 1) := by decide +kernel
theorem dX0_dropBreaksOf_53 : decode cX0_dropBreaksOf 53 = .ok (.getfield 55, 3) := by decide +kernel
theorem dX0_dropBreaksOf_56 : decode cX0_dropBreaksOf 56 = .ok (.iload_n 3, 1) := by decide +kernel
theorem dX0_dropBreaksOf_57 : decode cX0_dropBreaksOf 57 = .ok (.iaload, 1) := by decide +kernel
theorem dX0_dropBreaksOf_58 : decode cX0_dropBreaksOf 58 = .ok (.iastore, 1) := by decide +kernel
theorem dX0_dropBreaksOf_59 : decode cX0_dropBreaksOf 59 = .ok (.aload_n 0, 1) := by decide +kernel
theorem dX0_dropBreaksOf_60 : decode cX0_dropBreaksOf 60 = .ok (.getfield 58, 3) := by decide +kernel
theorem dX0_dropBreaksOf_63 : decode cX0_dropBreaksOf 63 = .ok (.iload_n 2, 1) := by decide +kernel
theorem dX0_dropBreaksOf_64 : decode cX0_dropBreaksOf 64 = .ok (.aload_n 0, 1) := by decide +kernel
theorem dX0_dropBreaksOf_65 : decode cX0_dropBreaksOf 65 = .ok (.getfield 58, 3) := by decide +kernel
theorem dX0_dropBreaksOf_68 : decode cX0_dropBreaksOf 68 = .ok (.iload_n 3, 1) := by decide +kernel
theorem dX0_dropBreaksOf_69 : decode cX0_dropBreaksOf 69 = .ok (.iaload, 1) := by decide +kernel
theorem dX0_dropBreaksOf_70 : decode cX0_dropBreaksOf 70 = .ok (.iastore, 1) := by decide +kernel
theorem dX0_dropBreaksOf_71 : decode cX0_dropBreaksOf 71 = .ok (.iinc 2 1, 3) := by decide +kernel
theorem dX0_dropBreaksOf_74 : decode cX0_dropBreaksOf 74 = .ok (.iinc 3 1, 3) := by decide +kernel
theorem dX0_dropBreaksOf_77 : decode cX0_dropBreaksOf 77 = .ok (.goto (-73), 3) := by decide +kernel
theorem dX0_dropBreaksOf_80 : decode cX0_dropBreaksOf 80 = .ok (.aload_n 0, 1) := by decide +kernel
theorem dX0_dropBreaksOf_81 : decode cX0_dropBreaksOf 81 = .ok (.iload_n 2, 1) := by decide +kernel
theorem dX0_dropBreaksOf_82 : decode cX0_dropBreaksOf 82 = .ok (.putfield 49, 3) := by decide +kernel
theorem dX0_dropBreaksOf_85 : decode cX0_dropBreaksOf 85 = .ok (.return_, 1) := by decide +kernel
theorem dX0_appendBreak_0 : decode cX0_appendBreak 0 = .ok (.aload_n 0, 1) := by decide +kernel
theorem dX0_appendBreak_1 : decode cX0_appendBreak 1 = .ok (.getfield 52, 3) := by decide +kernel
theorem dX0_appendBreak_4 : decode cX0_appendBreak 4 = .ok (.aload_n 0, 1) := by decide +kernel
theorem dX0_appendBreak_5 : decode cX0_appendBreak 5 = .ok (.getfield 49, 3) := by decide +kernel
theorem dX0_appendBreak_8 : decode cX0_appendBreak 8 = .ok (.iload_n 1, 1) := by decide +kernel
theorem dX0_appendBreak_9 : decode cX0_appendBreak 9 = .ok (.iastore, 1) := by decide +kernel
theorem dX0_appendBreak_10 : decode cX0_appendBreak 10 = .ok (.aload_n 0, 1) := by decide +kernel
theorem dX0_appendBreak_11 : decode cX0_appendBreak 11 = .ok (.getfield 55, 3) := by decide +kernel
theorem dX0_appendBreak_14 : decode cX0_appendBreak 14 = .ok (.aload_n 0, 1) := by decide +kernel
theorem dX0_appendBreak_15 : decode cX0_appendBreak 15 = .ok (.getfield 49, 3) := by decide +kernel
theorem dX0_appendBreak_18 : decode cX0_appendBreak 18 = .ok (.iload_n 2, 1) := by decide +kernel
theorem dX0_appendBreak_19 : decode cX0_appendBreak 19 = .ok (.iastore, 1) := by decide +kernel
theorem dX0_appendBreak_20 : decode cX0_appendBreak 20 = .ok (.aload_n 0, 1) := by decide +kernel
theorem dX0_appendBreak_21 : decode cX0_appendBreak 21 = .ok (.getfield 58, 3) := by decide +kernel
theorem dX0_appendBreak_24 : decode cX0_appendBreak 24 = .ok (.aload_n 0, 1) := by decide +kernel
theorem dX0_appendBreak_25 : decode cX0_appendBreak 25 = .ok (.getfield 49, 3) := by decide +kernel
theorem dX0_appendBreak_28 : decode cX0_appendBreak 28 = .ok (.iload_n 3, 1) := by decide +kernel
theorem dX0_appendBreak_29 : decode cX0_appendBreak 29 = .ok (.iastore, 1) := by decide +kernel
theorem dX0_appendBreak_30 : decode cX0_appendBreak 30 = .ok (.aload_n 0, 1) := by decide +kernel
theorem dX0_appendBreak_31 : decode cX0_appendBreak 31 = .ok (.dup, 1) := by decide +kernel
theorem dX0_appendBreak_32 : decode cX0_appendBreak 32 = .ok (.getfield 49, 3) := by decide +kernel
theorem dX0_appendBreak_35 : decode cX0_appendBreak 35 = .ok (.iconst 1, 1) := by decide +kernel
theorem dX0_appendBreak_36 : decode cX0_appendBreak 36 = .ok (.iadd, 1) := by decide +kernel
theorem dX0_appendBreak_37 : decode cX0_appendBreak 37 = .ok (.putfield 49, 3) := by decide +kernel
theorem dX0_appendBreak_40 : decode cX0_appendBreak 40 = .ok (.return_, 1) := by decide +kernel
theorem dX0_repairTime_0 : decode cX0_repairTime 0 = .ok (.iconst 0, 1) := by decide +kernel
theorem dX0_repairTime_1 : decode cX0_repairTime 1 = .ok (.istore_n 3, 1) := by decide +kernel
theorem dX0_repairTime_2 : decode cX0_repairTime 2 = .ok (.iconst 0, 1) := by decide +kernel
theorem dX0_repairTime_3 : decode cX0_repairTime 3 = .ok (.istore 4, 2) := by decide +kernel
theorem dX0_repairTime_5 : decode cX0_repairTime 5 = .ok (.iload 4, 2) := by decide +kernel
theorem dX0_repairTime_7 : decode cX0_repairTime 7 = .ok (.aload_n 0, 1) := by decide +kernel
theorem dX0_repairTime_8 : decode cX0_repairTime 8 = .ok (.getfield 49, 3) := by decide +kernel
theorem dX0_repairTime_11 : decode cX0_repairTime 11 = .ok (.if_icmp .ge 41, 3) := by decide +kernel
theorem dX0_repairTime_14 : decode cX0_repairTime 14 = .ok (.aload_n 0, 1) := by decide +kernel
theorem dX0_repairTime_15 : decode cX0_repairTime 15 = .ok (.getfield 52, 3) := by decide +kernel
theorem dX0_repairTime_18 : decode cX0_repairTime 18 = .ok (.iload 4, 2) := by decide +kernel
theorem dX0_repairTime_20 : decode cX0_repairTime 20 = .ok (.iaload, 1) := by decide +kernel
theorem dX0_repairTime_21 : decode cX0_repairTime 21 = .ok (.iload_n 1, 1) := by decide +kernel
theorem dX0_repairTime_22 : decode cX0_repairTime 22 = .ok (.if_icmp .ne 24, 3) := by decide +kernel
theorem dX0_repairTime_25 : decode cX0_repairTime 25 = .ok (.aload_n 0, 1) := by decide +kernel
theorem dX0_repairTime_26 : decode cX0_repairTime 26 = .ok (.getfield 55, 3) := by decide +kernel
theorem dX0_repairTime_29 : decode cX0_repairTime 29 = .ok (.iload 4, 2) := by decide +kernel
theorem dX0_repairTime_31 : decode cX0_repairTime 31 = .ok (.iaload, 1) := by decide +kernel
theorem dX0_repairTime_32 : decode cX0_repairTime 32 = .ok (.iload_n 2, 1) := by decide +kernel
theorem dX0_repairTime_33 : decode cX0_repairTime 33 = .ok (.if_icmp .ne 13, 3) := by decide +kernel
theorem dX0_repairTime_36 : decode cX0_repairTime 36 = .ok (.iload_n 3, 1) := by decide +kernel
theorem dX0_repairTime_37 : decode cX0_repairTime 37 = .ok (.aload_n 0, 1) := by decide +kernel
theorem dX0_repairTime_38 : decode cX0_repairTime 38 = .ok (.getfield 58, 3) := by decide +kernel
theorem dX0_repairTime_41 : decode cX0_repairTime 41 = .ok (.iload 4, 2) := by decide +kernel
theorem dX0_repairTime_43 : decode cX0_repairTime 43 = .ok (.iaload, 1) := by decide +kernel
theorem dX0_repairTime_44 : decode cX0_repairTime 44 = .ok (.iadd, 1) := by decide +kernel
theorem dX0_repairTime_45 : decode cX0_repairTime 45 = .ok (.istore_n 3, 1) := by decide +kernel
theorem dX0_repairTime_46 : decode cX0_repairTime 46 = .ok (.iinc 4 1, 3) := by decide +kernel
theorem dX0_repairTime_49 : decode cX0_repairTime 49 = .ok (.goto (-44), 3) := by decide +kernel
theorem dX0_repairTime_52 : decode cX0_repairTime 52 = .ok (.iload_n 3, 1) := by decide +kernel
theorem dX0_repairTime_53 : decode cX0_repairTime 53 = .ok (.ireturn, 1) := by decide +kernel
theorem dX1_init_0 : decode cX1_init 0 = .ok (.aload_n 0, 1) := by decide +kernel
theorem dX1_init_1 : decode cX1_init 1 = .ok (.invokespecial 3, 3) := by decide +kernel
theorem dX1_init_4 : decode cX1_init 4 = .ok (.aload_n 0, 1) := by decide +kernel
theorem dX1_init_5 : decode cX1_init 5 = .ok (.iconst 5, 1) := by decide +kernel
theorem dX1_init_6 : decode cX1_init 6 = .ok (.anewarray 9, 3) := by decide +kernel
theorem dX1_init_9 : decode cX1_init 9 = .ok (.putfield 11, 3) := by decide +kernel
theorem dX1_init_12 : decode cX1_init 12 = .ok (.aload_n 0, 1) := by decide +kernel
theorem dX1_init_13 : decode cX1_init 13 = .ok (.iconst 0, 1) := by decide +kernel
theorem dX1_init_14 : decode cX1_init 14 = .ok (.putfield 17, 3) := by decide +kernel
theorem dX1_init_17 : decode cX1_init 17 = .ok (.iconst 0, 1) := by decide +kernel
theorem dX1_init_18 : decode cX1_init 18 = .ok (.istore_n 1, 1) := by decide +kernel
theorem dX1_init_19 : decode cX1_init 19 = .ok (.iload_n 1, 1) := by decide +kernel
theorem dX1_init_20 : decode cX1_init 20 = .ok (.iconst 5, 1) := by decide +kernel
theorem dX1_init_21 : decode cX1_init 21 = .ok (.if_icmp .ge 22, 3) := by decide +kernel
theorem dX1_init_24 : decode cX1_init 24 = .ok (.aload_n 0, 1) := by decide +kernel
theorem dX1_init_25 : decode cX1_init 25 = .ok (.getfield 11, 3) := by decide +kernel
theorem dX1_init_28 : decode cX1_init 28 = .ok (.iload_n 1, 1) := by decide +kernel
theorem dX1_init_29 : decode cX1_init 29 = .ok (.new 9, 3) := by decide +kernel
theorem dX1_init_32 : decode cX1_init 32 = .ok (.dup, 1) := by decide +kernel
theorem dX1_init_33 : decode cX1_init 33 = .ok (.invokespecial 21, 3) := by decide +kernel
theorem dX1_init_36 : decode cX1_init 36 = .ok (.aastore, 1) := by decide +kernel
theorem dX1_init_37 : decode cX1_init 37 = .ok (.iinc 1 1, 3) := by decide +kernel
theorem dX1_init_40 : decode cX1_init 40 = .ok (.goto (-21), 3) := by decide +kernel
theorem dX1_init_43 : decode cX1_init 43 = .ok (.return_, 1) := by decide +kernel
theorem dX1_remember_0 : decode cX1_remember 0 = .ok (.aload_n 0, 1) := by decide +kernel
theorem dX1_remember_1 : decode cX1_remember 1 = .ok (.getfield 17, 3) := by decide +kernel
theorem dX1_remember_4 : decode cX1_remember 4 = .ok (.iconst 5, 1) := by decide +kernel
theorem dX1_remember_5 : decode cX1_remember 5 = .ok (.if_icmp .ne 7, 3) := by decide +kernel
theorem dX1_remember_8 : decode cX1_remember 8 = .ok (.aload_n 0, 1) := by decide +kernel
theorem dX1_remember_9 : decode cX1_remember 9 = .ok (.invokevirtual 22, 3) := by decide +kernel
theorem dX1_remember_12 : decode cX1_remember 12 = .ok (.aload_n 0, 1) := by decide +kernel
theorem dX1_remember_13 : decode cX1_remember 13 = .ok (.getfield 11, 3) := by decide +kernel
theorem dX1_remember_16 : decode cX1_remember 16 = .ok (.aload_n 0, 1) := by decide +kernel
theorem dX1_remember_17 : decode cX1_remember 17 = .ok (.getfield 17, 3) := by decide +kernel
theorem dX1_remember_20 : decode cX1_remember 20 = .ok (.aaload, 1) := by decide +kernel
theorem dX1_remember_21 : decode cX1_remember 21 = .ok (.aload_n 1, 1) := by decide +kernel
theorem dX1_remember_22 : decode cX1_remember 22 = .ok (.invokevirtual 25, 3) := by decide +kernel
theorem dX1_remember_25 : decode cX1_remember 25 = .ok (.aload_n 0, 1) := by decide +kernel
theorem dX1_remember_26 : decode cX1_remember 26 = .ok (.dup, 1) := by decide +kernel
theorem dX1_remember_27 : decode cX1_remember 27 = .ok (.getfield 17, 3) := by decide +kernel
theorem dX1_remember_30 : decode cX1_remember 30 = .ok (.iconst 1, 1) := by decide +kernel
theorem dX1_remember_31 : decode cX1_remember 31 = .ok (.iadd, 1) := by decide +kernel
theorem dX1_remember_32 : decode cX1_remember 32 = .ok (.putfield 17, 3) := by decide +kernel
theorem dX1_remember_35 : decode cX1_remember 35 = .ok (.return_, 1) := by decide +kernel
theorem dX1_forgetOldest_0 : decode cX1_forgetOldest 0 = .ok (.aload_n 0, 1) := by decide +kernel
theorem dX1_forgetOldest_1 : decode cX1_forgetOldest 1 = .ok (.getfield 11, 3) := by decide +kernel
theorem dX1_forgetOldest_4 : decode cX1_forgetOldest 4 = .ok (.iconst 0, 1) := by decide +kernel
theorem dX1_forgetOldest_5 : decode cX1_forgetOldest 5 = .ok (.aaload, 1) := by decide +kernel
theorem dX1_forgetOldest_6 : decode cX1_forgetOldest 6 = .ok (.astore_n 1, 1) := by decide +kernel
theorem dX1_forgetOldest_7 : decode cX1_forgetOldest 7 = .ok (.iconst 1, 1) := by decide +kernel
theorem dX1_forgetOldest_8 : decode cX1_forgetOldest 8 = .ok (.istore_n 2, 1) := by decide +kernel
theorem dX1_forgetOldest_9 : decode cX1_forgetOldest 9 = .ok (.iload_n 2, 1) := by decide +kernel
theorem dX1_forgetOldest_10 : decode cX1_forgetOldest 10 = .ok (.iconst 5, 1) := by decide +kernel
theorem dX1_forgetOldest_11 : decode cX1_forgetOldest 11 = .ok (.if_icmp .ge 23, 3) := by decide +kernel
theorem dX1_forgetOldest_14 : decode cX1_forgetOldest 14 = .ok (.aload_n 0, 1) := by decide +kernel
theorem dX1_forgetOldest_15 : decode cX1_forgetOldest 15 = .ok (.getfield 11, 3) := by decide +kernel
theorem dX1_forgetOldest_18 : decode cX1_forgetOldest 18 = .ok (.iload_n 2, 1) := by decide +kernel
theorem dX1_forgetOldest_19 : decode cX1_forgetOldest 19 = .ok (.iconst 1, 1) := by decide +kernel
theorem dX1_forgetOldest_20 : decode cX1_forgetOldest 20 = .ok (.isub, 1) := by decide +kernel
theorem dX1_forgetOldest_21 : decode cX1_forgetOldest 21 = .ok (.aload_n 0, 1) := by decide +kernel
theorem dX1_forgetOldest_22 : decode cX1_forgetOldest 22 = .ok (.getfield 11, 3) := by decide +kernel
theorem dX1_forgetOldest_25 : decode cX1_forgetOldest 25 = .ok (.iload_n 2, 1) := by decide +kernel
theorem dX1_forgetOldest_26 : decode cX1_forgetOldest 26 = .ok (.aaload, 1) := by decide +kernel
theorem dX1_forgetOldest_27 : decode cX1_forgetOldest 27 = .ok (.aastore, 1) := by decide +kernel
theorem dX1_forgetOldest_28 : decode cX1_forgetOldest 28 = .ok (.iinc 2 1, 3) := by decide +kernel
theorem dX1_forgetOldest_31 : decode cX1_forgetOldest 31 = .ok (.goto (-22), 3) := by decide +kernel
theorem dX1_forgetOldest_34 : decode cX1_forgetOldest 34 = .ok (.aload_n 0, 1) := by decide +kernel
theorem dX1_forgetOldest_35 : decode cX1_forgetOldest 35 = .ok (.getfield 11, 3) := by decide +kernel
theorem dX1_forgetOldest_38 : decode cX1_forgetOldest 38 = .ok (.iconst 4, 1) := by decide +kernel
theorem dX1_forgetOldest_39 : decode cX1_forgetOldest 39 = .ok (.aload_n 1, 1) := by decide +kernel
theorem dX1_forgetOldest_40 : decode cX1_forgetOldest 40 = .ok (.aastore, 1) := by decide +kernel
theorem dX1_forgetOldest_41 : decode cX1_forgetOldest 41 = .ok (.aload_n 0, 1) := by decide +kernel
theorem dX1_forgetOldest_42 : decode cX1_forgetOldest 42 = .ok (.dup, 1) := by decide +kernel
theorem dX1_forgetOldest_43 : decode cX1_forgetOldest 43 = .ok (.getfield 17, 3) := by decide +kernel
theorem dX1_forgetOldest_46 : decode cX1_forgetOldest 46 = .ok (.iconst 1, 1) := by decide +kernel
theorem dX1_forgetOldest_47 : decode cX1_forgetOldest 47 = .ok (.isub, 1) := by decide +kernel
theorem dX1_forgetOldest_48 : decode cX1_forgetOldest 48 = .ok (.putfield 17, 3) := by decide +kernel
theorem dX1_forgetOldest_51 : decode cX1_forgetOldest 51 = .ok (.return_, 1) := by decide +kernel
theorem dX1_restore_0 : decode cX1_restore 0 = .ok (.aload_n 0, 1) := by decide +kernel
theorem dX1_restore_1 : decode cX1_restore 1 = .ok (.dup, 1) := by decide +kernel
theorem dX1_restore_2 : decode cX1_restore 2 = .ok (.getfield 17, 3) := by decide +kernel
theorem dX1_restore_5 : decode cX1_restore 5 = .ok (.iconst 1, 1) := by decide +kernel
theorem dX1_restore_6 : decode cX1_restore 6 = .ok (.isub, 1) := by decide +kernel
theorem dX1_restore_7 : decode cX1_restore 7 = .ok (.putfield 17, 3) := by decide +kernel
theorem dX1_restore_10 : decode cX1_restore 10 = .ok (.aload_n 1, 1) := by decide +kernel
theorem dX1_restore_11 : decode cX1_restore 11 = .ok (.aload_n 0, 1) := by decide +kernel
theorem dX1_restore_12 : decode cX1_restore 12 = .ok (.getfield 11, 3) := by decide +kernel
theorem dX1_restore_15 : decode cX1_restore 15 = .ok (.aload_n 0, 1) := by decide +kernel
theorem dX1_restore_16 : decode cX1_restore 16 = .ok (.getfield 17, 3) := by decide +kernel
theorem dX1_restore_19 : decode cX1_restore 19 = .ok (.aaload, 1) := by decide +kernel
theorem dX1_restore_20 : decode cX1_restore 20 = .ok (.invokevirtual 25, 3) := by decide +kernel
theorem dX1_restore_23 : decode cX1_restore 23 = .ok (.return_, 1) := by decide +kernel
theorem dX2_init_0 : decode cX2_init 0 = .ok (.aload_n 0, 1) := by decide +kernel
theorem dX2_init_1 : decode cX2_init 1 = .ok (.invokespecial 3, 3) := by decide +kernel
theorem dX2_init_4 : decode cX2_init 4 = .ok (.aload_n 0, 1) := by decide +kernel
theorem dX2_init_5 : decode cX2_init 5 = .ok (.bipush 6, 2) := by decide +kernel
theorem dX2_init_7 : decode cX2_init 7 = .ok (.newarray .boolean, 2) := by decide +kernel
theorem dX2_init_9 : decode cX2_init 9 = .ok (.putfield 9, 3) := by decide +kernel
theorem dX2_init_12 : decode cX2_init 12 = .ok (.aload_n 0, 1) := by decide +kernel
theorem dX2_init_13 : decode cX2_init 13 = .ok (.bipush 36, 2) := by decide +kernel
theorem dX2_init_15 : decode cX2_init 15 = .ok (.newarray .int, 2) := by decide +kernel
theorem dX2_init_17 : decode cX2_init 17 = .ok (.putfield 15, 3) := by decide +kernel
theorem dX2_init_20 : decode cX2_init 20 = .ok (.aload_n 0, 1) := by decide +kernel
theorem dX2_init_21 : decode cX2_init 21 = .ok (.bipush 36, 2) := by decide +kernel
theorem dX2_init_23 : decode cX2_init 23 = .ok (.newarray .int, 2) := by decide +kernel
theorem dX2_init_25 : decode cX2_init 25 = .ok (.putfield 19, 3) := by decide +kernel
theorem dX2_init_28 : decode cX2_init 28 = .ok (.aload_n 0, 1) := by decide +kernel
theorem dX2_init_29 : decode cX2_init 29 = .ok (.bipush 6, 2) := by decide +kernel
theorem dX2_init_31 : decode cX2_init 31 = .ok (.newarray .int, 2) := by decide +kernel
theorem dX2_init_33 : decode cX2_init 33 = .ok (.putfield 22, 3) := by decide +kernel
theorem dX2_init_36 : decode cX2_init 36 = .ok (.aload_n 0, 1) := by decide +kernel
theorem dX2_init_37 : decode cX2_init 37 = .ok (.bipush 6, 2) := by decide +kernel
theorem dX2_init_39 : decode cX2_init 39 = .ok (.newarray .int, 2) := by decide +kernel
theorem dX2_init_41 : decode cX2_init 41 = .ok (.putfield 25, 3) := by decide +kernel
theorem dX2_init_44 : decode cX2_init 44 = .ok (.aload_n 0, 1) := by decide +kernel
theorem dX2_init_45 : decode cX2_init 45 = .ok (.bipush 6, 2) := by decide +kernel
theorem dX2_init_47 : decode cX2_init 47 = .ok (.newarray .int, 2) := by decide +kernel
theorem dX2_init_49 : decode cX2_init 49 = .ok (.putfield 28, 3) := by decide +kernel
theorem dX2_init_52 : decode cX2_init 52 = .ok (.aload_n 0, 1) := by decide +kernel
theorem dX2_init_53 : decode cX2_init 53 = .ok (.iconst 5, 1) := by decide +kernel
theorem dX2_init_54 : decode cX2_init 54 = .ok (.newarray .int, 2) := by decide +kernel
theorem dX2_init_56 : decode cX2_init 56 = .ok (.putfield 31, 3) := by decide +kernel
theorem dX2_init_59 : decode cX2_init 59 = .ok (.aload_n 0, 1) := by decide +kernel
theorem dX2_init_60 : decode cX2_init 60 = .ok (.iconst 0, 1) := by decide +kernel
theorem dX2_init_61 : decode cX2_init 61 = .ok (.putfield 34, 3) := by decide +kernel
theorem dX2_init_64 : decode cX2_init 64 = .ok (.aload_n 0, 1) := by decide +kernel
theorem dX2_init_65 : decode cX2_init 65 = .ok (.iconst 0, 1) := by decide +kernel
theorem dX2_init_66 : decode cX2_init 66 = .ok (.putfield 38, 3) := by decide +kernel
theorem dX2_init_69 : decode cX2_init 69 = .ok (.aload_n 0, 1) := by decide +kernel
theorem dX2_init_70 : decode cX2_init 70 = .ok (.iconst 0, 1) := by decide +kernel
theorem dX2_init_71 : decode cX2_init 71 = .ok (.putfield 41, 3) := by decide +kernel
theorem dX2_init_74 : decode cX2_init 74 = .ok (.aload_n 0, 1) := by decide +kernel
theorem dX2_init_75 : decode cX2_init 75 = .ok (.bipush 6, 2) := by decide +kernel
theorem dX2_init_77 : decode cX2_init 77 = .ok (.newarray .int, 2) := by decide +kernel
theorem dX2_init_79 : decode cX2_init 79 = .ok (.putfield 44, 3) := by decide +kernel
theorem dX2_init_82 : decode cX2_init 82 = .ok (.aload_n 0, 1) := by decide +kernel
theorem dX2_init_83 : decode cX2_init 83 = .ok (.bipush 24, 2) := by decide +kernel
theorem dX2_init_85 : decode cX2_init 85 = .ok (.newarray .int, 2) := by decide +kernel
theorem dX2_init_87 : decode cX2_init 87 = .ok (.putfield 47, 3) := by decide +kernel
theorem dX2_init_90 : decode cX2_init 90 = .ok (.aload_n 0, 1) := by decide +kernel
theorem dX2_init_91 : decode cX2_init 91 = .ok (.bipush 24, 2) := by decide +kernel
theorem dX2_init_93 : decode cX2_init 93 = .ok (.newarray .int, 2) := by decide +kernel
theorem dX2_init_95 : decode cX2_init 95 = .ok (.putfield 50, 3) := by decide +kernel
theorem dX2_init_98 : decode cX2_init 98 = .ok (.aload_n 0, 1) := by decide +kernel
theorem dX2_init_99 : decode cX2_init 99 = .ok (.iconst 3, 1) := by decide +kernel
theorem dX2_init_100 : decode cX2_init 100 = .ok (.newarray .int, 2) := by decide +kernel
theorem dX2_init_102 : decode cX2_init 102 = .ok (.putfield 53, 3) := by decide +kernel
theorem dX2_init_105 : decode cX2_init 105 = .ok (.aload_n 0, 1) := by decide +kernel
theorem dX2_init_106 : decode cX2_init 106 = .ok (.iconst 5, 1) := by decide +kernel
theorem dX2_init_107 : decode cX2_init 107 = .ok (.newarray .int, 2) := by decide +kernel
theorem dX2_init_109 : decode cX2_init 109 = .ok (.putfield 56, 3) := by decide +kernel
theorem dX2_init_112 : decode cX2_init 112 = .ok (.aload_n 0, 1) := by decide +kernel
theorem dX2_init_113 : decode cX2_init 113 = .ok (.iconst 5, 1) := by decide +kernel
theorem dX2_init_114 : decode cX2_init 114 = .ok (.newarray .int, 2) := by decide +kernel
theorem dX2_init_116 : decode cX2_init 116 = .ok (.putfield 59, 3) := by decide +kernel
theorem dX2_init_119 : decode cX2_init 119 = .ok (.return_, 1) := by decide +kernel
theorem dX2_make_0 : decode cX2_make 0 = .ok (.aload_n 0, 1) := by decide +kernel
theorem dX2_make_1 : decode cX2_make 1 = .ok (.aload_n 1, 1) := by decide +kernel
theorem dX2_make_2 : decode cX2_make 2 = .ok (.invokevirtual 62, 3) := by decide +kernel
theorem dX2_make_5 : decode cX2_make 5 = .ok (.iconst 0, 1) := by decide +kernel
theorem dX2_make_6 : decode cX2_make 6 = .ok (.istore_n 2, 1) := by decide +kernel
theorem dX2_make_7 : decode cX2_make 7 = .ok (.iload_n 2, 1) := by decide +kernel
theorem dX2_make_8 : decode cX2_make 8 = .ok (.aload_n 1, 1) := by decide +kernel
theorem dX2_make_9 : decode cX2_make 9 = .ok (.getfield 66, 3) := by decide +kernel
theorem dX2_make_12 : decode cX2_make 12 = .ok (.if_icmp .ge 20, 3) := by decide +kernel
theorem dX2_make_15 : decode cX2_make 15 = .ok (.aload_n 0, 1) := by decide +kernel
theorem dX2_make_16 : decode cX2_make 16 = .ok (.aload_n 1, 1) := by decide +kernel
theorem dX2_make_17 : decode cX2_make 17 = .ok (.aload_n 0, 1) := by decide +kernel
theorem dX2_make_18 : decode cX2_make 18 = .ok (.getfield 44, 3) := by decide +kernel
theorem dX2_make_21 : decode cX2_make 21 = .ok (.iload_n 2, 1) := by decide +kernel
theorem dX2_make_22 : decode cX2_make 22 = .ok (.iaload, 1) := by decide +kernel
theorem dX2_make_23 : decode cX2_make 23 = .ok (.invokevirtual 71, 3) := by decide +kernel
theorem dX2_make_26 : decode cX2_make 26 = .ok (.iinc 2 1, 3) := by decide +kernel
theorem dX2_make_29 : decode cX2_make 29 = .ok (.goto (-22), 3) := by decide +kernel
theorem dX2_make_32 : decode cX2_make 32 = .ok (.return_, 1) := by decide +kernel
theorem dX2_lossWith_0 : decode cX2_lossWith 0 = .ok (.aload_n 0, 1) := by decide +kernel
theorem dX2_lossWith_1 : decode cX2_lossWith 1 = .ok (.aload_n 1, 1) := by decide +kernel
theorem dX2_lossWith_2 : decode cX2_lossWith 2 = .ok (.invokevirtual 75, 3) := by decide +kernel
theorem dX2_lossWith_5 : decode cX2_lossWith 5 = .ok (.aload_n 0, 1) := by decide +kernel
theorem dX2_lossWith_6 : decode cX2_lossWith 6 = .ok (.getfield 41, 3) := by decide +kernel
theorem dX2_lossWith_9 : decode cX2_lossWith 9 = .ok (.ireturn, 1) := by decide +kernel
theorem dX2_isSmooth_0 : decode cX2_isSmooth 0 = .ok (.aload_n 0, 1) := by decide +kernel
theorem dX2_isSmooth_1 : decode cX2_isSmooth 1 = .ok (.aload_n 1, 1) := by decide +kernel
theorem dX2_isSmooth_2 : decode cX2_isSmooth 2 = .ok (.invokevirtual 62, 3) := by decide +kernel
theorem dX2_isSmooth_5 : decode cX2_isSmooth 5 = .ok (.iconst 0, 1) := by decide +kernel
theorem dX2_isSmooth_6 : decode cX2_isSmooth 6 = .ok (.istore_n 2, 1) := by decide +kernel
theorem dX2_isSmooth_7 : decode cX2_isSmooth 7 = .ok (.iload_n 2, 1) := by decide +kernel
theorem dX2_isSmooth_8 : decode cX2_isSmooth 8 = .ok (.aload_n 1, 1) := by decide +kernel
theorem dX2_isSmooth_9 : decode cX2_isSmooth 9 = .ok (.getfield 66, 3) := by decide +kernel
theorem dX2_isSmooth_12 : decode cX2_isSmooth 12 = .ok (.if_icmp .ge 27, 3) := by decide +kernel
theorem dX2_isSmooth_15 : decode cX2_isSmooth 15 = .ok (.aload_n 0, 1) := by decide +kernel
theorem dX2_isSmooth_16 : decode cX2_isSmooth 16 = .ok (.getfield 41, 3) := by decide +kernel
theorem dX2_isSmooth_19 : decode cX2_isSmooth 19 = .ok (.ifCond .ne 20, 3) := by decide +kernel
theorem dX2_isSmooth_22 : decode cX2_isSmooth 22 = .ok (.aload_n 0, 1) := by decide +kernel
theorem dX2_isSmooth_23 : decode cX2_isSmooth 23 = .ok (.aload_n 1, 1) := by decide +kernel
theorem dX2_isSmooth_24 : decode cX2_isSmooth 24 = .ok (.aload_n 0, 1) := by decide +kernel
theorem dX2_isSmooth_25 : decode cX2_isSmooth 25 = .ok (.getfield 44, 3) := by decide +kernel
theorem dX2_isSmooth_28 : decode cX2_isSmooth 28 = .ok (.iload_n 2, 1) := by decide +kernel
theorem dX2_isSmooth_29 : decode cX2_isSmooth 29 = .ok (.iaload, 1) := by decide +kernel
theorem dX2_isSmooth_30 : decode cX2_isSmooth 30 = .ok (.invokevirtual 71, 3) := by decide +kernel
theorem dX2_isSmooth_33 : decode cX2_isSmooth 33 = .ok (.iinc 2 1, 3) := by decide +kernel
theorem dX2_isSmooth_36 : decode cX2_isSmooth 36 = .ok (.goto (-29), 3) := by decide +kernel
theorem dX2_isSmooth_39 : decode cX2_isSmooth 39 = .ok (.aload_n 0, 1) := by decide +kernel
theorem dX2_isSmooth_40 : decode cX2_isSmooth 40 = .ok (.getfield 41, 3) := by decide +kernel
theorem dX2_isSmooth_43 : decode cX2_isSmooth 43 = .ok (.ifCond .ne 7, 3) := by decide +kernel
theorem dX2_isSmooth_46 : decode cX2_isSmooth 46 = .ok (.iconst 1, 1) := by decide +kernel
theorem dX2_isSmooth_47 : decode cX2_isSmooth 47 = .ok (.goto 4, 3) := by decide +kernel
theorem dX2_isSmooth_50 : decode cX2_isSmooth 50 = .ok (.iconst 0, 1) := by decide +kernel
theorem dX2_isSmooth_51 : decode cX2_isSmooth 51 = .ok (.ireturn, 1) := by decide +kernel
theorem dX2_open_0 : decode cX2_open 0 = .ok (.aload_n 0, 1) := by decide +kernel
theorem dX2_open_1 : decode cX2_open 1 = .ok (.iconst 0, 1) := by decide +kernel
theorem dX2_open_2 : decode cX2_open 2 = .ok (.putfield 34, 3) := by decide +kernel
theorem dX2_open_5 : decode cX2_open 5 = .ok (.aload_n 0, 1) := by decide +kernel
theorem dX2_open_6 : decode cX2_open 6 = .ok (.iconst 0, 1) := by decide +kernel
theorem dX2_open_7 : decode cX2_open 7 = .ok (.putfield 38, 3) := by decide +kernel
theorem dX2_open_10 : decode cX2_open 10 = .ok (.aload_n 0, 1) := by decide +kernel
theorem dX2_open_11 : decode cX2_open 11 = .ok (.iconst 0, 1) := by decide +kernel
theorem dX2_open_12 : decode cX2_open 12 = .ok (.putfield 41, 3) := by decide +kernel
theorem dX2_open_15 : decode cX2_open 15 = .ok (.iconst 0, 1) := by decide +kernel
theorem dX2_open_16 : decode cX2_open 16 = .ok (.istore_n 2, 1) := by decide +kernel
theorem dX2_open_17 : decode cX2_open 17 = .ok (.iload_n 2, 1) := by decide +kernel
theorem dX2_open_18 : decode cX2_open 18 = .ok (.iconst 3, 1) := by decide +kernel
theorem dX2_open_19 : decode cX2_open 19 = .ok (.if_icmp .ge 16, 3) := by decide +kernel
theorem dX2_open_22 : decode cX2_open 22 = .ok (.aload_n 0, 1) := by decide +kernel
theorem dX2_open_23 : decode cX2_open 23 = .ok (.getfield 53, 3) := by decide +kernel
theorem dX2_open_26 : decode cX2_open 26 = .ok (.iload_n 2, 1) := by decide +kernel
theorem dX2_open_27 : decode cX2_open 27 = .ok (.iconst 0, 1) := by decide +kernel
theorem dX2_open_28 : decode cX2_open 28 = .ok (.iastore, 1) := by decide +kernel
theorem dX2_open_29 : decode cX2_open 29 = .ok (.iinc 2 1, 3) := by decide +kernel
theorem dX2_open_32 : decode cX2_open 32 = .ok (.goto (-15), 3) := by decide +kernel
theorem dX2_open_35 : decode cX2_open 35 = .ok (.iconst 0, 1) := by decide +kernel
theorem dX2_open_36 : decode cX2_open 36 = .ok (.istore_n 2, 1) := by decide +kernel
theorem dX2_open_37 : decode cX2_open 37 = .ok (.iload_n 2, 1) := by decide +kernel
theorem dX2_open_38 : decode cX2_open 38 = .ok (.iconst 5, 1) := by decide +kernel
theorem dX2_open_39 : decode cX2_open 39 = .ok (.if_icmp .ge 30, 3) := by decide +kernel
theorem dX2_open_42 : decode cX2_open 42 = .ok (.aload_n 0, 1) := by decide +kernel
theorem dX2_open_43 : decode cX2_open 43 = .ok (.getfield 56, 3) := by decide +kernel
theorem dX2_open_46 : decode cX2_open 46 = .ok (.iload_n 2, 1) := by decide +kernel
theorem dX2_open_47 : decode cX2_open 47 = .ok (.iconst 0, 1) := by decide +kernel
theorem dX2_open_48 : decode cX2_open 48 = .ok (.iastore, 1) := by decide +kernel
theorem dX2_open_49 : decode cX2_open 49 = .ok (.aload_n 0, 1) := by decide +kernel
theorem dX2_open_50 : decode cX2_open 50 = .ok (.getfield 59, 3) := by decide +kernel
theorem dX2_open_53 : decode cX2_open 53 = .ok (.iload_n 2, 1) := by decide +kernel
theorem dX2_open_54 : decode cX2_open 54 = .ok (.iconst (-1), 1) := by decide +kernel
theorem dX2_open_55 : decode cX2_open 55 = .ok (.iastore, 1) := by decide +kernel
theorem dX2_open_56 : decode cX2_open 56 = .ok (.aload_n 0, 1) := by decide +kernel
theorem dX2_open_57 : decode cX2_open 57 = .ok (.getfield 31, 3) := by decide +kernel
theorem dX2_open_60 : decode cX2_open 60 = .ok (.iload_n 2, 1) := by decide +kernel
theorem dX2_open_61 : decode cX2_open 61 = .ok (.iconst 0, 1) := by decide +kernel
theorem dX2_open_62 : decode cX2_open 62 = .ok (.iastore, 1) := by decide +kernel
theorem dX2_open_63 : decode cX2_open 63 = .ok (.iinc 2 1, 3) := by decide +kernel
theorem dX2_open_66 : decode cX2_open 66 = .ok (.goto (-29), 3) := by decide +kernel
theorem dX2_open_69 : decode cX2_open 69 = .ok (.iconst 0, 1) := by decide +kernel
theorem dX2_open_70 : decode cX2_open 70 = .ok (.istore_n 2, 1) := by decide +kernel
theorem dX2_open_71 : decode cX2_open 71 = .ok (.iload_n 2, 1) := by decide +kernel
theorem dX2_open_72 : decode cX2_open 72 = .ok (.iconst 4, 1) := by decide +kernel
theorem dX2_open_73 : decode cX2_open 73 = .ok (.if_icmp .ge 20, 3) := by decide +kernel
theorem dX2_open_76 : decode cX2_open 76 = .ok (.aload_n 0, 1) := by decide +kernel
theorem dX2_open_77 : decode cX2_open 77 = .ok (.iload_n 2, 1) := by decide +kernel
theorem dX2_open_78 : decode cX2_open 78 = .ok (.aload_n 1, 1) := by decide +kernel
theorem dX2_open_79 : decode cX2_open 79 = .ok (.getfield 78, 3) := by decide +kernel
theorem dX2_open_82 : decode cX2_open 82 = .ok (.iload_n 2, 1) := by decide +kernel
theorem dX2_open_83 : decode cX2_open 83 = .ok (.iaload, 1) := by decide +kernel
theorem dX2_open_84 : decode cX2_open 84 = .ok (.invokevirtual 81, 3) := by decide +kernel
theorem dX2_open_87 : decode cX2_open 87 = .ok (.iinc 2 1, 3) := by decide +kernel
theorem dX2_open_90 : decode cX2_open 90 = .ok (.goto (-19), 3) := by decide +kernel
theorem dX2_open_93 : decode cX2_open 93 = .ok (.aload_n 0, 1) := by decide +kernel
theorem dX2_open_94 : decode cX2_open 94 = .ok (.aload_n 1, 1) := by decide +kernel
theorem dX2_open_95 : decode cX2_open 95 = .ok (.invokevirtual 85, 3) := by decide +kernel
theorem dX2_open_98 : decode cX2_open 98 = .ok (.return_, 1) := by decide +kernel
theorem dX2_bringHome_0 : decode cX2_bringHome 0 = .ok (.iconst 0, 1) := by decide +kernel
theorem dX2_bringHome_1 : decode cX2_bringHome 1 = .ok (.istore_n 3, 1) := by decide +kernel
theorem dX2_bringHome_2 : decode cX2_bringHome 2 = .ok (.iload_n 3, 1) := by decide +kernel
theorem dX2_bringHome_3 : decode cX2_bringHome 3 = .ok (.bipush 6, 2) := by decide +kernel
theorem dX2_bringHome_5 : decode cX2_bringHome 5 = .ok (.if_icmp .ge 32, 3) := by decide +kernel
theorem dX2_bringHome_8 : decode cX2_bringHome 8 = .ok (.iload_n 1, 1) := by decide +kernel
theorem dX2_bringHome_9 : decode cX2_bringHome 9 = .ok (.iload_n 3, 1) := by decide +kernel
theorem dX2_bringHome_10 : decode cX2_bringHome 10 = .ok (.invokestatic 88, 3) := by decide +kernel
theorem dX2_bringHome_13 : decode cX2_bringHome 13 = .ok (.istore 4, 2) := by decide +kernel
theorem dX2_bringHome_15 : decode cX2_bringHome 15 = .ok (.aload_n 0, 1) := by decide +kernel
theorem dX2_bringHome_16 : decode cX2_bringHome 16 = .ok (.getfield 47, 3) := by decide +kernel
theorem dX2_bringHome_19 : decode cX2_bringHome 19 = .ok (.iload 4, 2) := by decide +kernel
theorem dX2_bringHome_21 : decode cX2_bringHome 21 = .ok (.iload_n 2, 1) := by decide +kernel
theorem dX2_bringHome_22 : decode cX2_bringHome 22 = .ok (.iastore, 1) := by decide +kernel
theorem dX2_bringHome_23 : decode cX2_bringHome 23 = .ok (.aload_n 0, 1) := by decide +kernel
theorem dX2_bringHome_24 : decode cX2_bringHome 24 = .ok (.getfield 50, 3) := by decide +kernel
theorem dX2_bringHome_27 : decode cX2_bringHome 27 = .ok (.iload 4, 2) := by decide +kernel
theorem dX2_bringHome_29 : decode cX2_bringHome 29 = .ok (.iconst 0, 1) := by decide +kernel
theorem dX2_bringHome_30 : decode cX2_bringHome 30 = .ok (.iastore, 1) := by decide +kernel
theorem dX2_bringHome_31 : decode cX2_bringHome 31 = .ok (.iinc 3 1, 3) := by decide +kernel
theorem dX2_bringHome_34 : decode cX2_bringHome 34 = .ok (.goto (-32), 3) := by decide +kernel
theorem dX2_bringHome_37 : decode cX2_bringHome 37 = .ok (.return_, 1) := by decide +kernel
theorem dX2_sortShows_0 : decode cX2_sortShows 0 = .ok (.iconst 0, 1) := by decide +kernel
theorem dX2_sortShows_1 : decode cX2_sortShows 1 = .ok (.istore_n 2, 1) := by decide +kernel
theorem dX2_sortShows_2 : decode cX2_sortShows 2 = .ok (.iload_n 2, 1) := by decide +kernel
theorem dX2_sortShows_3 : decode cX2_sortShows 3 = .ok (.aload_n 1, 1) := by decide +kernel
theorem dX2_sortShows_4 : decode cX2_sortShows 4 = .ok (.getfield 66, 3) := by decide +kernel
theorem dX2_sortShows_7 : decode cX2_sortShows 7 = .ok (.if_icmp .ge 64, 3) := by decide +kernel
theorem dX2_sortShows_10 : decode cX2_sortShows 10 = .ok (.iload_n 2, 1) := by decide +kernel
theorem dX2_sortShows_11 : decode cX2_sortShows 11 = .ok (.istore_n 3, 1) := by decide +kernel
theorem dX2_sortShows_12 : decode cX2_sortShows 12 = .ok (.iload_n 3, 1) := by decide +kernel
theorem dX2_sortShows_13 : decode cX2_sortShows 13 = .ok (.ifCond .le 45, 3) := by decide +kernel
theorem dX2_sortShows_16 : decode cX2_sortShows 16 = .ok (.aload_n 1, 1) := by decide +kernel
theorem dX2_sortShows_17 : decode cX2_sortShows 17 = .ok (.getfield 92, 3) := by decide +kernel
theorem dX2_sortShows_20 : decode cX2_sortShows 20 = .ok (.aload_n 0, 1) := by decide +kernel
theorem dX2_sortShows_21 : decode cX2_sortShows 21 = .ok (.getfield 44, 3) := by decide +kernel
theorem dX2_sortShows_24 : decode cX2_sortShows 24 = .ok (.iload_n 3, 1) := by decide +kernel
theorem dX2_sortShows_25 : decode cX2_sortShows 25 = .ok (.iconst 1, 1) := by decide +kernel
theorem dX2_sortShows_26 : decode cX2_sortShows 26 = .ok (.isub, 1) := by decide +kernel
theorem dX2_sortShows_27 : decode cX2_sortShows 27 = .ok (.iaload, 1) := by decide +kernel
theorem dX2_sortShows_28 : decode cX2_sortShows 28 = .ok (.iaload, 1) := by decide +kernel
theorem dX2_sortShows_29 : decode cX2_sortShows 29 = .ok (.aload_n 1, 1) := by decide +kernel
theorem dX2_sortShows_30 : decode cX2_sortShows 30 = .ok (.getfield 92, 3) := by decide +kernel
theorem dX2_sortShows_33 : decode cX2_sortShows 33 = .ok (.iload_n 2, 1) := by decide +kernel
theorem dX2_sortShows_34 : decode cX2_sortShows 34 = .ok (.iaload, 1) := by decide +kernel
theorem dX2_sortShows_35 : decode cX2_sortShows 35 = .ok (.if_icmp .le 23, 3) := by decide +kernel
theorem dX2_sortShows_38 : decode cX2_sortShows 38 = .ok (.aload_n 0, 1) := by decide +kernel
theorem dX2_sortShows_39 : decode cX2_sortShows 39 = .ok (.getfield 44, 3) := by decide +kernel
theorem dX2_sortShows_42 : decode cX2_sortShows 42 = .ok (.iload_n 3, 1) := by decide +kernel
theorem dX2_sortShows_43 : decode cX2_sortShows 43 = .ok (.aload_n 0, 1) := by decide +kernel
theorem dX2_sortShows_44 : decode cX2_sortShows 44 = .ok (.getfield 44, 3) := by decide +kernel
theorem dX2_sortShows_47 : decode cX2_sortShows 47 = .ok (.iload_n 3, 1) := by decide +kernel
theorem dX2_sortShows_48 : decode cX2_sortShows 48 = .ok (.iconst 1, 1) := by decide +kernel
theorem dX2_sortShows_49 : decode cX2_sortShows 49 = .ok (.isub, 1) := by decide +kernel
theorem dX2_sortShows_50 : decode cX2_sortShows 50 = .ok (.iaload, 1) := by decide +kernel
theorem dX2_sortShows_51 : decode cX2_sortShows 51 = .ok (.iastore, 1) := by decide +kernel
theorem dX2_sortShows_52 : decode cX2_sortShows 52 = .ok (.iinc 3 (-1), 3) := by decide +kernel
theorem dX2_sortShows_55 : decode cX2_sortShows 55 = .ok (.goto (-43), 3) := by decide +kernel
theorem dX2_sortShows_58 : decode cX2_sortShows 58 = .ok (.aload_n 0, 1) := by decide +kernel
theorem dX2_sortShows_59 : decode cX2_sortShows 59 = .ok (.getfield 44, 3) := by decide +kernel
theorem dX2_sortShows_62 : decode cX2_sortShows 62 = .ok (.iload_n 3, 1) := by decide +kernel
theorem dX2_sortShows_63 : decode cX2_sortShows 63 = .ok (.iload_n 2, 1) := by decide +kernel
theorem dX2_sortShows_64 : decode cX2_sortShows 64 = .ok (.iastore, 1) := by decide +kernel
theorem dX2_sortShows_65 : decode cX2_sortShows 65 = .ok (.iinc 2 1, 3) := by decide +kernel
theorem dX2_sortShows_68 : decode cX2_sortShows 68 = .ok (.goto (-66), 3) := by decide +kernel
theorem dX2_sortShows_71 : decode cX2_sortShows 71 = .ok (.return_, 1) := by decide +kernel
theorem dX2_planShow_0 : decode cX2_planShow 0 = .ok (.aload_n 1, 1) := by decide +kernel
theorem dX2_planShow_1 : decode cX2_planShow 1 = .ok (.aload_n 1, 1) := by decide +kernel
theorem dX2_planShow_2 : decode cX2_planShow 2 = .ok (.getfield 95, 3) := by decide +kernel
theorem dX2_planShow_5 : decode cX2_planShow 5 = .ok (.iload_n 2, 1) := by decide +kernel
theorem dX2_planShow_6 : decode cX2_planShow 6 = .ok (.iaload, 1) := by decide +kernel
theorem dX2_planShow_7 : decode cX2_planShow 7 = .ok (.invokevirtual 98, 3) := by decide +kernel
theorem dX2_planShow_10 : decode cX2_planShow 10 = .ok (.istore_n 3, 1) := by decide +kernel
theorem dX2_planShow_11 : decode cX2_planShow 11 = .ok (.aload_n 0, 1) := by decide +kernel
theorem dX2_planShow_12 : decode cX2_planShow 12 = .ok (.getfield 9, 3) := by decide +kernel
theorem dX2_planShow_15 : decode cX2_planShow 15 = .ok (.iload_n 2, 1) := by decide +kernel
theorem dX2_planShow_16 : decode cX2_planShow 16 = .ok (.iload_n 3, 1) := by decide +kernel
theorem dX2_planShow_17 : decode cX2_planShow 17 = .ok (.iconst (-1), 1) := by decide +kernel
theorem dX2_planShow_18 : decode cX2_planShow 18 = .ok (.if_icmp .eq 7, 3) := by decide +kernel
theorem dX2_planShow_21 : decode cX2_planShow 21 = .ok (.iconst 1, 1) := by decide +kernel
theorem dX2_planShow_22 : decode cX2_planShow 22 = .ok (.goto 4, 3) := by decide +kernel
theorem dX2_planShow_25 : decode cX2_planShow 25 = .ok (.iconst 0, 1) := by decide +kernel
theorem dX2_planShow_26 : decode cX2_planShow 26 = .ok (.bastore, 1) := by decide +kernel
theorem dX2_planShow_27 : decode cX2_planShow 27 = .ok (.aload_n 0, 1) := by decide +kernel
theorem dX2_planShow_28 : decode cX2_planShow 28 = .ok (.getfield 25, 3) := by decide +kernel
theorem dX2_planShow_31 : decode cX2_planShow 31 = .ok (.iload_n 2, 1) := by decide +kernel
theorem dX2_planShow_32 : decode cX2_planShow 32 = .ok (.iconst 0, 1) := by decide +kernel
theorem dX2_planShow_33 : decode cX2_planShow 33 = .ok (.iastore, 1) := by decide +kernel
theorem dX2_planShow_34 : decode cX2_planShow 34 = .ok (.aload_n 0, 1) := by decide +kernel
theorem dX2_planShow_35 : decode cX2_planShow 35 = .ok (.getfield 28, 3) := by decide +kernel
theorem dX2_planShow_38 : decode cX2_planShow 38 = .ok (.iload_n 2, 1) := by decide +kernel
theorem dX2_planShow_39 : decode cX2_planShow 39 = .ok (.iconst 0, 1) := by decide +kernel
theorem dX2_planShow_40 : decode cX2_planShow 40 = .ok (.iastore, 1) := by decide +kernel
theorem dX2_planShow_41 : decode cX2_planShow 41 = .ok (.iload_n 3, 1) := by decide +kernel
theorem dX2_planShow_42 : decode cX2_planShow 42 = .ok (.iconst (-1), 1) := by decide +kernel
theorem dX2_planShow_43 : decode cX2_planShow 43 = .ok (.if_icmp .ne 16, 3) := by decide +kernel
theorem dX2_planShow_46 : decode cX2_planShow 46 = .ok (.aload_n 0, 1) := by decide +kernel
theorem dX2_planShow_47 : decode cX2_planShow 47 = .ok (.dup, 1) := by decide +kernel
theorem dX2_planShow_48 : decode cX2_planShow 48 = .ok (.getfield 41, 3) := by decide +kernel
theorem dX2_planShow_51 : decode cX2_planShow 51 = .ok (.sipush 1000, 3) := by decide +kernel
theorem dX2_planShow_54 : decode cX2_planShow 54 = .ok (.iadd, 1) := by decide +kernel
theorem dX2_planShow_55 : decode cX2_planShow 55 = .ok (.putfield 41, 3) := by decide +kernel
theorem dX2_planShow_58 : decode cX2_planShow 58 = .ok (.return_, 1) := by decide +kernel
theorem dX2_planShow_59 : decode cX2_planShow 59 = .ok (.aload_n 1, 1) := by decide +kernel
theorem dX2_planShow_60 : decode cX2_planShow 60 = .ok (.getfield 92, 3) := by decide +kernel
theorem dX2_planShow_63 : decode cX2_planShow 63 = .ok (.iload_n 2, 1) := by decide +kernel
theorem dX2_planShow_64 : decode cX2_planShow 64 = .ok (.iaload, 1) := by decide +kernel
theorem dX2_planShow_65 : decode cX2_planShow 65 = .ok (.istore 4, 2) := by decide +kernel
theorem dX2_planShow_67 : decode cX2_planShow 67 = .ok (.aload_n 1, 1) := by decide +kernel
theorem dX2_planShow_68 : decode cX2_planShow 68 = .ok (.getfield 102, 3) := by decide +kernel
theorem dX2_planShow_71 : decode cX2_planShow 71 = .ok (.aload_n 1, 1) := by decide +kernel
theorem dX2_planShow_72 : decode cX2_planShow 72 = .ok (.getfield 105, 3) := by decide +kernel
theorem dX2_planShow_75 : decode cX2_planShow 75 = .ok (.iload_n 2, 1) := by decide +kernel
theorem dX2_planShow_76 : decode cX2_planShow 76 = .ok (.iaload, 1) := by decide +kernel
theorem dX2_planShow_77 : decode cX2_planShow 77 = .ok (.iaload, 1) := by decide +kernel
theorem dX2_planShow_78 : decode cX2_planShow 78 = .ok (.istore 5, 2) := by decide +kernel
theorem dX2_planShow_80 : decode cX2_planShow 80 = .ok (.iconst 0, 1) := by decide +kernel
theorem dX2_planShow_81 : decode cX2_planShow 81 = .ok (.istore 6, 2) := by decide +kernel
theorem dX2_planShow_83 : decode cX2_planShow 83 = .ok (.iload 6, 2) := by decide +kernel
theorem dX2_planShow_85 : decode cX2_planShow 85 = .ok (.iload 5, 2) := by decide +kernel
theorem dX2_planShow_87 : decode cX2_planShow 87 = .ok (.if_icmp .ge 69, 3) := by decide +kernel
theorem dX2_planShow_90 : decode cX2_planShow 90 = .ok (.aload_n 0, 1) := by decide +kernel
theorem dX2_planShow_91 : decode cX2_planShow 91 = .ok (.aload_n 1, 1) := by decide +kernel
theorem dX2_planShow_92 : decode cX2_planShow 92 = .ok (.iload_n 2, 1) := by decide +kernel
theorem dX2_planShow_93 : decode cX2_planShow 93 = .ok (.iload 6, 2) := by decide +kernel
theorem dX2_planShow_95 : decode cX2_planShow 95 = .ok (.iload 4, 2) := by decide +kernel
theorem dX2_planShow_97 : decode cX2_planShow 97 = .ok (.iload_n 3, 1) := by decide +kernel
theorem dX2_planShow_98 : decode cX2_planShow 98 = .ok (.invokevirtual 108, 3) := by decide +kernel
theorem dX2_planShow_101 : decode cX2_planShow 101 = .ok (.istore 7, 2) := by decide +kernel
theorem dX2_planShow_103 : decode cX2_planShow 103 = .ok (.aload_n 0, 1) := by decide +kernel
theorem dX2_planShow_104 : decode cX2_planShow 104 = .ok (.getfield 15, 3) := by decide +kernel
theorem dX2_planShow_107 : decode cX2_planShow 107 = .ok (.iload_n 2, 1) := by decide +kernel
theorem dX2_planShow_108 : decode cX2_planShow 108 = .ok (.iload 6, 2) := by decide +kernel
theorem dX2_planShow_110 : decode cX2_planShow 110 = .ok (.invokestatic 88, 3) := by decide +kernel
theorem dX2_planShow_113 : decode cX2_planShow 113 = .ok (.iaload, 1) := by decide +kernel
theorem dX2_planShow_114 : decode cX2_planShow 114 = .ok (.iload 4, 2) := by decide +kernel
theorem dX2_planShow_116 : decode cX2_planShow 116 = .ok (.isub, 1) := by decide +kernel
theorem dX2_planShow_117 : decode cX2_planShow 117 = .ok (.istore 8, 2) := by decide +kernel
theorem dX2_planShow_119 : decode cX2_planShow 119 = .ok (.iload 6, 2) := by decide +kernel
theorem dX2_planShow_121 : decode cX2_planShow 121 = .ok (.ifCond .ne 14, 3) := by decide +kernel
theorem dX2_planShow_124 : decode cX2_planShow 124 = .ok (.aload_n 0, 1) := by decide +kernel
theorem dX2_planShow_125 : decode cX2_planShow 125 = .ok (.getfield 25, 3) := by decide +kernel
theorem dX2_planShow_128 : decode cX2_planShow 128 = .ok (.iload_n 2, 1) := by decide +kernel
theorem dX2_planShow_129 : decode cX2_planShow 129 = .ok (.iload 8, 2) := by decide +kernel
theorem dX2_planShow_131 : decode cX2_planShow 131 = .ok (.iastore, 1) := by decide +kernel
theorem dX2_planShow_132 : decode cX2_planShow 132 = .ok (.goto 14, 3) := by decide +kernel
theorem dX2_planShow_135 : decode cX2_planShow 135 = .ok (.aload_n 0, 1) := by decide +kernel
theorem dX2_planShow_136 : decode cX2_planShow 136 = .ok (.getfield 28, 3) := by decide +kernel
theorem dX2_planShow_139 : decode cX2_planShow 139 = .ok (.iload_n 2, 1) := by decide +kernel
theorem dX2_planShow_140 : decode cX2_planShow 140 = .ok (.dup2, 1) := by decide +kernel
theorem dX2_planShow_141 : decode cX2_planShow 141 = .ok (.iaload, 1) := by decide +kernel
theorem dX2_planShow_142 : decode cX2_planShow 142 = .ok (.iload 8, 2) := by decide +kernel
theorem dX2_planShow_144 : decode cX2_planShow 144 = .ok (.iadd, 1) := by decide +kernel
theorem dX2_planShow_145 : decode cX2_planShow 145 = .ok (.iastore, 1) := by decide +kernel
theorem dX2_planShow_146 : decode cX2_planShow 146 = .ok (.iload 7, 2) := by decide +kernel
theorem dX2_planShow_148 : decode cX2_planShow 148 = .ok (.istore 4, 2) := by decide +kernel
theorem dX2_planShow_150 : decode cX2_planShow 150 = .ok (.iinc 6 1, 3) := by decide +kernel
theorem dX2_planShow_153 : decode cX2_planShow 153 = .ok (.goto (-70), 3) := by decide +kernel
theorem dX2_planShow_156 : decode cX2_planShow 156 = .ok (.aload_n 0, 1) := by decide +kernel
theorem dX2_planShow_157 : decode cX2_planShow 157 = .ok (.getfield 22, 3) := by decide +kernel
theorem dX2_planShow_160 : decode cX2_planShow 160 = .ok (.iload_n 2, 1) := by decide +kernel
theorem dX2_planShow_161 : decode cX2_planShow 161 = .ok (.iload 4, 2) := by decide +kernel
theorem dX2_planShow_163 : decode cX2_planShow 163 = .ok (.iastore, 1) := by decide +kernel
theorem dX2_planShow_164 : decode cX2_planShow 164 = .ok (.aload_n 0, 1) := by decide +kernel
theorem dX2_planShow_165 : decode cX2_planShow 165 = .ok (.dup, 1) := by decide +kernel
theorem dX2_planShow_166 : decode cX2_planShow 166 = .ok (.getfield 41, 3) := by decide +kernel
theorem dX2_planShow_169 : decode cX2_planShow 169 = .ok (.aload_n 0, 1) := by decide +kernel
theorem dX2_planShow_170 : decode cX2_planShow 170 = .ok (.getfield 25, 3) := by decide +kernel
theorem dX2_planShow_173 : decode cX2_planShow 173 = .ok (.iload_n 2, 1) := by decide +kernel
theorem dX2_planShow_174 : decode cX2_planShow 174 = .ok (.iaload, 1) := by decide +kernel
theorem dX2_planShow_175 : decode cX2_planShow 175 = .ok (.aload_n 0, 1) := by decide +kernel
theorem dX2_planShow_176 : decode cX2_planShow 176 = .ok (.getfield 28, 3) := by decide +kernel
theorem dX2_planShow_179 : decode cX2_planShow 179 = .ok (.iload_n 2, 1) := by decide +kernel
theorem dX2_planShow_180 : decode cX2_planShow 180 = .ok (.iaload, 1) := by decide +kernel
theorem dX2_planShow_181 : decode cX2_planShow 181 = .ok (.iadd, 1) := by decide +kernel
theorem dX2_planShow_182 : decode cX2_planShow 182 = .ok (.iadd, 1) := by decide +kernel
theorem dX2_planShow_183 : decode cX2_planShow 183 = .ok (.putfield 41, 3) := by decide +kernel
theorem dX2_planShow_186 : decode cX2_planShow 186 = .ok (.return_, 1) := by decide +kernel
theorem dX2_planReel_0 : decode cX2_planReel 0 = .ok (.aload_n 1, 1) := by decide +kernel
theorem dX2_planReel_1 : decode cX2_planReel 1 = .ok (.getfield 105, 3) := by decide +kernel
theorem dX2_planReel_4 : decode cX2_planReel 4 = .ok (.iload_n 2, 1) := by decide +kernel
theorem dX2_planReel_5 : decode cX2_planReel 5 = .ok (.iaload, 1) := by decide +kernel
theorem dX2_planReel_6 : decode cX2_planReel 6 = .ok (.iload_n 3, 1) := by decide +kernel
theorem dX2_planReel_7 : decode cX2_planReel 7 = .ok (.invokestatic 88, 3) := by decide +kernel
theorem dX2_planReel_10 : decode cX2_planReel 10 = .ok (.istore 6, 2) := by decide +kernel
theorem dX2_planReel_12 : decode cX2_planReel 12 = .ok (.aload_n 1, 1) := by decide +kernel
theorem dX2_planReel_13 : decode cX2_planReel 13 = .ok (.getfield 112, 3) := by decide +kernel
theorem dX2_planReel_16 : decode cX2_planReel 16 = .ok (.iload 6, 2) := by decide +kernel
theorem dX2_planReel_18 : decode cX2_planReel 18 = .ok (.iaload, 1) := by decide +kernel
theorem dX2_planReel_19 : decode cX2_planReel 19 = .ok (.istore 7, 2) := by decide +kernel
theorem dX2_planReel_21 : decode cX2_planReel 21 = .ok (.aload_n 0, 1) := by decide +kernel
theorem dX2_planReel_22 : decode cX2_planReel 22 = .ok (.aload_n 1, 1) := by decide +kernel
theorem dX2_planReel_23 : decode cX2_planReel 23 = .ok (.iload 6, 2) := by decide +kernel
theorem dX2_planReel_25 : decode cX2_planReel 25 = .ok (.aload_n 1, 1) := by decide +kernel
theorem dX2_planReel_26 : decode cX2_planReel 26 = .ok (.getfield 95, 3) := by decide +kernel
theorem dX2_planReel_29 : decode cX2_planReel 29 = .ok (.iload_n 2, 1) := by decide +kernel
theorem dX2_planReel_30 : decode cX2_planReel 30 = .ok (.iaload, 1) := by decide +kernel
theorem dX2_planReel_31 : decode cX2_planReel 31 = .ok (.invokevirtual 115, 3) := by decide +kernel
theorem dX2_planReel_34 : decode cX2_planReel 34 = .ok (.istore 8, 2) := by decide +kernel
theorem dX2_planReel_36 : decode cX2_planReel 36 = .ok (.aload_n 0, 1) := by decide +kernel
theorem dX2_planReel_37 : decode cX2_planReel 37 = .ok (.aload_n 1, 1) := by decide +kernel
theorem dX2_planReel_38 : decode cX2_planReel 38 = .ok (.iload 7, 2) := by decide +kernel
theorem dX2_planReel_40 : decode cX2_planReel 40 = .ok (.iload 8, 2) := by decide +kernel
theorem dX2_planReel_42 : decode cX2_planReel 42 = .ok (.iload 4, 2) := by decide +kernel
theorem dX2_planReel_44 : decode cX2_planReel 44 = .ok (.iload 5, 2) := by decide +kernel
theorem dX2_planReel_46 : decode cX2_planReel 46 = .ok (.invokevirtual 119, 3) := by decide +kernel
theorem dX2_planReel_49 : decode cX2_planReel 49 = .ok (.istore 9, 2) := by decide +kernel
theorem dX2_planReel_51 : decode cX2_planReel 51 = .ok (.aload_n 0, 1) := by decide +kernel
theorem dX2_planReel_52 : decode cX2_planReel 52 = .ok (.aload_n 1, 1) := by decide +kernel
theorem dX2_planReel_53 : decode cX2_planReel 53 = .ok (.iload 9, 2) := by decide +kernel
theorem dX2_planReel_55 : decode cX2_planReel 55 = .ok (.iload 7, 2) := by decide +kernel
theorem dX2_planReel_57 : decode cX2_planReel 57 = .ok (.iload 8, 2) := by decide +kernel
theorem dX2_planReel_59 : decode cX2_planReel 59 = .ok (.iload 4, 2) := by decide +kernel
theorem dX2_planReel_61 : decode cX2_planReel 61 = .ok (.invokevirtual 122, 3) := by decide +kernel
theorem dX2_planReel_64 : decode cX2_planReel 64 = .ok (.istore 10, 2) := by decide +kernel
theorem dX2_planReel_66 : decode cX2_planReel 66 = .ok (.iload 10, 2) := by decide +kernel
theorem dX2_planReel_68 : decode cX2_planReel 68 = .ok (.aload_n 1, 1) := by decide +kernel
theorem dX2_planReel_69 : decode cX2_planReel 69 = .ok (.getfield 125, 3) := by decide +kernel
theorem dX2_planReel_72 : decode cX2_planReel 72 = .ok (.iload 6, 2) := by decide +kernel
theorem dX2_planReel_74 : decode cX2_planReel 74 = .ok (.iaload, 1) := by decide +kernel
theorem dX2_planReel_75 : decode cX2_planReel 75 = .ok (.iadd, 1) := by decide +kernel
theorem dX2_planReel_76 : decode cX2_planReel 76 = .ok (.aload_n 1, 1) := by decide +kernel
theorem dX2_planReel_77 : decode cX2_planReel 77 = .ok (.iload_n 2, 1) := by decide +kernel
theorem dX2_planReel_78 : decode cX2_planReel 78 = .ok (.iload_n 3, 1) := by decide +kernel
theorem dX2_planReel_79 : decode cX2_planReel 79 = .ok (.invokevirtual 128, 3) := by decide +kernel
theorem dX2_planReel_82 : decode cX2_planReel 82 = .ok (.iadd, 1) := by decide +kernel
theorem dX2_planReel_83 : decode cX2_planReel 83 = .ok (.istore 11, 2) := by decide +kernel
theorem dX2_planReel_85 : decode cX2_planReel 85 = .ok (.aload_n 0, 1) := by decide +kernel
theorem dX2_planReel_86 : decode cX2_planReel 86 = .ok (.getfield 15, 3) := by decide +kernel
theorem dX2_planReel_89 : decode cX2_planReel 89 = .ok (.iload_n 2, 1) := by decide +kernel
theorem dX2_planReel_90 : decode cX2_planReel 90 = .ok (.iload_n 3, 1) := by decide +kernel
theorem dX2_planReel_91 : decode cX2_planReel 91 = .ok (.invokestatic 88, 3) := by decide +kernel
theorem dX2_planReel_94 : decode cX2_planReel 94 = .ok (.iload 10, 2) := by decide +kernel
theorem dX2_planReel_96 : decode cX2_planReel 96 = .ok (.iastore, 1) := by decide +kernel
theorem dX2_planReel_97 : decode cX2_planReel 97 = .ok (.aload_n 0, 1) := by decide +kernel
theorem dX2_planReel_98 : decode cX2_planReel 98 = .ok (.getfield 19, 3) := by decide +kernel
theorem dX2_planReel_101 : decode cX2_planReel 101 = .ok (.iload_n 2, 1) := by decide +kernel
theorem dX2_planReel_102 : decode cX2_planReel 102 = .ok (.iload_n 3, 1) := by decide +kernel
theorem dX2_planReel_103 : decode cX2_planReel 103 = .ok (.invokestatic 88, 3) := by decide +kernel
theorem dX2_planReel_106 : decode cX2_planReel 106 = .ok (.iload 9, 2) := by decide +kernel
theorem dX2_planReel_108 : decode cX2_planReel 108 = .ok (.iastore, 1) := by decide +kernel
theorem dX2_planReel_109 : decode cX2_planReel 109 = .ok (.aload_n 0, 1) := by decide +kernel
theorem dX2_planReel_110 : decode cX2_planReel 110 = .ok (.iload 9, 2) := by decide +kernel
theorem dX2_planReel_112 : decode cX2_planReel 112 = .ok (.iload 7, 2) := by decide +kernel
theorem dX2_planReel_114 : decode cX2_planReel 114 = .ok (.invokevirtual 131, 3) := by decide +kernel
theorem dX2_planReel_117 : decode cX2_planReel 117 = .ok (.ifCond .eq 13, 3) := by decide +kernel
theorem dX2_planReel_120 : decode cX2_planReel 120 = .ok (.aload_n 0, 1) := by decide +kernel
theorem dX2_planReel_121 : decode cX2_planReel 121 = .ok (.dup, 1) := by decide +kernel
theorem dX2_planReel_122 : decode cX2_planReel 122 = .ok (.getfield 38, 3) := by decide +kernel
theorem dX2_planReel_125 : decode cX2_planReel 125 = .ok (.iconst 1, 1) := by decide +kernel
theorem dX2_planReel_126 : decode cX2_planReel 126 = .ok (.iadd, 1) := by decide +kernel
theorem dX2_planReel_127 : decode cX2_planReel 127 = .ok (.putfield 38, 3) := by decide +kernel
theorem dX2_planReel_130 : decode cX2_planReel 130 = .ok (.aload_n 0, 1) := by decide +kernel
theorem dX2_planReel_131 : decode cX2_planReel 131 = .ok (.getfield 31, 3) := by decide +kernel
theorem dX2_planReel_134 : decode cX2_planReel 134 = .ok (.iload 9, 2) := by decide +kernel
theorem dX2_planReel_136 : decode cX2_planReel 136 = .ok (.dup2, 1) := by decide +kernel
theorem dX2_planReel_137 : decode cX2_planReel 137 = .ok (.iaload, 1) := by decide +kernel
theorem dX2_planReel_138 : decode cX2_planReel 138 = .ok (.iload 11, 2) := by decide +kernel
theorem dX2_planReel_140 : decode cX2_planReel 140 = .ok (.iload 10, 2) := by decide +kernel
theorem dX2_planReel_142 : decode cX2_planReel 142 = .ok (.isub, 1) := by decide +kernel
theorem dX2_planReel_143 : decode cX2_planReel 143 = .ok (.iadd, 1) := by decide +kernel
theorem dX2_planReel_144 : decode cX2_planReel 144 = .ok (.iastore, 1) := by decide +kernel
theorem dX2_planReel_145 : decode cX2_planReel 145 = .ok (.aload_n 0, 1) := by decide +kernel
theorem dX2_planReel_146 : decode cX2_planReel 146 = .ok (.getfield 56, 3) := by decide +kernel
theorem dX2_planReel_149 : decode cX2_planReel 149 = .ok (.iload 9, 2) := by decide +kernel
theorem dX2_planReel_151 : decode cX2_planReel 151 = .ok (.iload 11, 2) := by decide +kernel
theorem dX2_planReel_153 : decode cX2_planReel 153 = .ok (.iastore, 1) := by decide +kernel
theorem dX2_planReel_154 : decode cX2_planReel 154 = .ok (.aload_n 0, 1) := by decide +kernel
theorem dX2_planReel_155 : decode cX2_planReel 155 = .ok (.getfield 59, 3) := by decide +kernel
theorem dX2_planReel_158 : decode cX2_planReel 158 = .ok (.iload 9, 2) := by decide +kernel
theorem dX2_planReel_160 : decode cX2_planReel 160 = .ok (.iload 7, 2) := by decide +kernel
theorem dX2_planReel_162 : decode cX2_planReel 162 = .ok (.iastore, 1) := by decide +kernel
theorem dX2_planReel_163 : decode cX2_planReel 163 = .ok (.aload_n 0, 1) := by decide +kernel
theorem dX2_planReel_164 : decode cX2_planReel 164 = .ok (.getfield 50, 3) := by decide +kernel
theorem dX2_planReel_167 : decode cX2_planReel 167 = .ok (.iload 6, 2) := by decide +kernel
theorem dX2_planReel_169 : decode cX2_planReel 169 = .ok (.iload 11, 2) := by decide +kernel
theorem dX2_planReel_171 : decode cX2_planReel 171 = .ok (.aload_n 1, 1) := by decide +kernel
theorem dX2_planReel_172 : decode cX2_planReel 172 = .ok (.getfield 135, 3) := by decide +kernel
theorem dX2_planReel_175 : decode cX2_planReel 175 = .ok (.iconst 2, 1) := by decide +kernel
theorem dX2_planReel_176 : decode cX2_planReel 176 = .ok (.iaload, 1) := by decide +kernel
theorem dX2_planReel_177 : decode cX2_planReel 177 = .ok (.iadd, 1) := by decide +kernel
theorem dX2_planReel_178 : decode cX2_planReel 178 = .ok (.iastore, 1) := by decide +kernel
theorem dX2_planReel_179 : decode cX2_planReel 179 = .ok (.iload 11, 2) := by decide +kernel
theorem dX2_planReel_181 : decode cX2_planReel 181 = .ok (.ireturn, 1) := by decide +kernel
theorem dX2_bring_0 : decode cX2_bring 0 = .ok (.aload_n 0, 1) := by decide +kernel
theorem dX2_bring_1 : decode cX2_bring 1 = .ok (.getfield 47, 3) := by decide +kernel
theorem dX2_bring_4 : decode cX2_bring 4 = .ok (.iload_n 2, 1) := by decide +kernel
theorem dX2_bring_5 : decode cX2_bring 5 = .ok (.iaload, 1) := by decide +kernel
theorem dX2_bring_6 : decode cX2_bring 6 = .ok (.iload_n 3, 1) := by decide +kernel
theorem dX2_bring_7 : decode cX2_bring 7 = .ok (.if_icmp .ne 10, 3) := by decide +kernel
theorem dX2_bring_10 : decode cX2_bring 10 = .ok (.aload_n 0, 1) := by decide +kernel
theorem dX2_bring_11 : decode cX2_bring 11 = .ok (.getfield 50, 3) := by decide +kernel
theorem dX2_bring_14 : decode cX2_bring 14 = .ok (.iload_n 2, 1) := by decide +kernel
theorem dX2_bring_15 : decode cX2_bring 15 = .ok (.iaload, 1) := by decide +kernel
theorem dX2_bring_16 : decode cX2_bring 16 = .ok (.ireturn, 1) := by decide +kernel
theorem dX2_bring_17 : decode cX2_bring 17 = .ok (.aload_n 0, 1) := by decide +kernel
theorem dX2_bring_18 : decode cX2_bring 18 = .ok (.aload_n 1, 1) := by decide +kernel
theorem dX2_bring_19 : decode cX2_bring 19 = .ok (.aload_n 0, 1) := by decide +kernel
theorem dX2_bring_20 : decode cX2_bring 20 = .ok (.getfield 50, 3) := by decide +kernel
theorem dX2_bring_23 : decode cX2_bring 23 = .ok (.iload_n 2, 1) := by decide +kernel
theorem dX2_bring_24 : decode cX2_bring 24 = .ok (.iaload, 1) := by decide +kernel
theorem dX2_bring_25 : decode cX2_bring 25 = .ok (.invokevirtual 138, 3) := by decide +kernel
theorem dX2_bring_28 : decode cX2_bring 28 = .ok (.istore 4, 2) := by decide +kernel
theorem dX2_bring_30 : decode cX2_bring 30 = .ok (.aload_n 0, 1) := by decide +kernel
theorem dX2_bring_31 : decode cX2_bring 31 = .ok (.getfield 53, 3) := by decide +kernel
theorem dX2_bring_34 : decode cX2_bring 34 = .ok (.iload 4, 2) := by decide +kernel
theorem dX2_bring_36 : decode cX2_bring 36 = .ok (.iaload, 1) := by decide +kernel
theorem dX2_bring_37 : decode cX2_bring 37 = .ok (.aload_n 0, 1) := by decide +kernel
theorem dX2_bring_38 : decode cX2_bring 38 = .ok (.getfield 50, 3) := by decide +kernel
theorem dX2_bring_41 : decode cX2_bring 41 = .ok (.iload_n 2, 1) := by decide +kernel
theorem dX2_bring_42 : decode cX2_bring 42 = .ok (.iaload, 1) := by decide +kernel
theorem dX2_bring_43 : decode cX2_bring 43 = .ok (.invokestatic 142, 3) := by decide +kernel
theorem dX2_bring_46 : decode cX2_bring 46 = .ok (.aload_n 1, 1) := by decide +kernel
theorem dX2_bring_47 : decode cX2_bring 47 = .ok (.getfield 135, 3) := by decide +kernel
theorem dX2_bring_50 : decode cX2_bring 50 = .ok (.iconst 3, 1) := by decide +kernel
theorem dX2_bring_51 : decode cX2_bring 51 = .ok (.iaload, 1) := by decide +kernel
theorem dX2_bring_52 : decode cX2_bring 52 = .ok (.iadd, 1) := by decide +kernel
theorem dX2_bring_53 : decode cX2_bring 53 = .ok (.istore 5, 2) := by decide +kernel
theorem dX2_bring_55 : decode cX2_bring 55 = .ok (.aload_n 0, 1) := by decide +kernel
theorem dX2_bring_56 : decode cX2_bring 56 = .ok (.getfield 53, 3) := by decide +kernel
theorem dX2_bring_59 : decode cX2_bring 59 = .ok (.iload 4, 2) := by decide +kernel
theorem dX2_bring_61 : decode cX2_bring 61 = .ok (.iload 5, 2) := by decide +kernel
theorem dX2_bring_63 : decode cX2_bring 63 = .ok (.aload_n 1, 1) := by decide +kernel
theorem dX2_bring_64 : decode cX2_bring 64 = .ok (.getfield 135, 3) := by decide +kernel
theorem dX2_bring_67 : decode cX2_bring 67 = .ok (.iconst 3, 1) := by decide +kernel
theorem dX2_bring_68 : decode cX2_bring 68 = .ok (.iaload, 1) := by decide +kernel
theorem dX2_bring_69 : decode cX2_bring 69 = .ok (.iadd, 1) := by decide +kernel
theorem dX2_bring_70 : decode cX2_bring 70 = .ok (.iastore, 1) := by decide +kernel
theorem dX2_bring_71 : decode cX2_bring 71 = .ok (.aload_n 0, 1) := by decide +kernel
theorem dX2_bring_72 : decode cX2_bring 72 = .ok (.getfield 47, 3) := by decide +kernel
theorem dX2_bring_75 : decode cX2_bring 75 = .ok (.iload_n 2, 1) := by decide +kernel
theorem dX2_bring_76 : decode cX2_bring 76 = .ok (.iload_n 3, 1) := by decide +kernel
theorem dX2_bring_77 : decode cX2_bring 77 = .ok (.iastore, 1) := by decide +kernel
theorem dX2_bring_78 : decode cX2_bring 78 = .ok (.aload_n 0, 1) := by decide +kernel
theorem dX2_bring_79 : decode cX2_bring 79 = .ok (.dup, 1) := by decide +kernel
theorem dX2_bring_80 : decode cX2_bring 80 = .ok (.getfield 34, 3) := by decide +kernel
theorem dX2_bring_83 : decode cX2_bring 83 = .ok (.iconst 1, 1) := by decide +kernel
theorem dX2_bring_84 : decode cX2_bring 84 = .ok (.iadd, 1) := by decide +kernel
theorem dX2_bring_85 : decode cX2_bring 85 = .ok (.putfield 34, 3) := by decide +kernel
theorem dX2_bring_88 : decode cX2_bring 88 = .ok (.iload 5, 2) := by decide +kernel
theorem dX2_bring_90 : decode cX2_bring 90 = .ok (.ireturn, 1) := by decide +kernel
theorem dX2_soonestCarrier_0 : decode cX2_soonestCarrier 0 = .ok (.iconst 0, 1) := by decide +kernel
theorem dX2_soonestCarrier_1 : decode cX2_soonestCarrier 1 = .ok (.istore_n 3, 1) := by decide +kernel
theorem dX2_soonestCarrier_2 : decode cX2_soonestCarrier 2 = .ok (.iconst 1, 1) := by decide +kernel
theorem dX2_soonestCarrier_3 : decode cX2_soonestCarrier 3 = .ok (.istore 4, 2) := by decide +kernel
theorem dX2_soonestCarrier_5 : decode cX2_soonestCarrier 5 = .ok (.iload 4, 2) := by decide +kernel
theorem dX2_soonestCarrier_7 : decode cX2_soonestCarrier 7 = .ok (.aload_n 1, 1) := by decide +kernel
theorem dX2_soonestCarrier_8 : decode cX2_soonestCarrier 8 = .ok (.getfield 147, 3) := by decide +kernel
theorem dX2_soonestCarrier_11 : decode cX2_soonestCarrier 11 = .ok (.if_icmp .ge 36, 3) := by decide +kernel
theorem dX2_soonestCarrier_14 : decode cX2_soonestCarrier 14 = .ok (.aload_n 0, 1) := by decide +kernel
theorem dX2_soonestCarrier_15 : decode cX2_soonestCarrier 15 = .ok (.getfield 53, 3) := by decide +kernel
theorem dX2_soonestCarrier_18 : decode cX2_soonestCarrier 18 = .ok (.iload 4, 2) := by decide +kernel
theorem dX2_soonestCarrier_20 : decode cX2_soonestCarrier 20 = .ok (.iaload, 1) := by decide +kernel
theorem dX2_soonestCarrier_21 : decode cX2_soonestCarrier 21 = .ok (.iload_n 2, 1) := by decide +kernel
