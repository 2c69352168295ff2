theorem dX0_init_0 : decode cX0_init 0 = .ok (.aload_n 0, 1) := by decide +kernel
theorem dX0_init_1 : decode cX0_init 1 = .ok (.invokespecial 3, 3) := by decide +kernel
theorem dX0_init_4 : decode cX0_init 4 = .ok (.aload_n 0, 1) := by decide +kernel
theorem dX0_init_5 : decode cX0_init 5 = .ok (.iconst 1, 1) := by decide +kernel
theorem dX0_init_6 : decode cX0_init 6 = .ok (.putfield 9, 3) := by decide +kernel
theorem dX0_init_9 : decode cX0_init 9 = .ok (.aload_n 0, 1) := by decide +kernel
theorem dX0_init_10 : decode cX0_init 10 = .ok (.bipush 16, 2) := by decide +kernel
theorem dX0_init_12 : decode cX0_init 12 = .ok (.newarray .int, 2) := by decide +kernel
theorem dX0_init_14 : decode cX0_init 14 = .ok (.putfield 15, 3) := by decide +kernel
theorem dX0_init_17 : decode cX0_init 17 = .ok (.aload_n 0, 1) := by decide +kernel
theorem dX0_init_18 : decode cX0_init 18 = .ok (.iconst 0, 1) := by decide +kernel
theorem dX0_init_19 : decode cX0_init 19 = .ok (.putfield 19, 3) := by decide +kernel
theorem dX0_init_22 : decode cX0_init 22 = .ok (.aload_n 0, 1) := by decide +kernel
theorem dX0_init_23 : decode cX0_init 23 = .ok (.bipush 30, 2) := by decide +kernel
theorem dX0_init_25 : decode cX0_init 25 = .ok (.newarray .int, 2) := by decide +kernel
theorem dX0_init_27 : decode cX0_init 27 = .ok (.putfield 22, 3) := by decide +kernel
theorem dX0_init_30 : decode cX0_init 30 = .ok (.aload_n 0, 1) := by decide +kernel
theorem dX0_init_31 : decode cX0_init 31 = .ok (.bipush 30, 2) := by decide +kernel
theorem dX0_init_33 : decode cX0_init 33 = .ok (.newarray .int, 2) := by decide +kernel
theorem dX0_init_35 : decode cX0_init 35 = .ok (.putfield 25, 3) := by decide +kernel
theorem dX0_init_38 : decode cX0_init 38 = .ok (.aload_n 0, 1) := by decide +kernel
theorem dX0_init_39 : decode cX0_init 39 = .ok (.bipush 30, 2) := by decide +kernel
theorem dX0_init_41 : decode cX0_init 41 = .ok (.newarray .int, 2) := by decide +kernel
theorem dX0_init_43 : decode cX0_init 43 = .ok (.putfield 28, 3) := by decide +kernel
theorem dX0_init_46 : decode cX0_init 46 = .ok (.aload_n 0, 1) := by decide +kernel
theorem dX0_init_47 : decode cX0_init 47 = .ok (.iconst 0, 1) := by decide +kernel
theorem dX0_init_48 : decode cX0_init 48 = .ok (.putfield 31, 3) := by decide +kernel
theorem dX0_init_51 : decode cX0_init 51 = .ok (.aload_n 0, 1) := by decide +kernel
theorem dX0_init_52 : decode cX0_init 52 = .ok (.bipush 20, 2) := by decide +kernel
theorem dX0_init_54 : decode cX0_init 54 = .ok (.newarray .int, 2) := by decide +kernel
theorem dX0_init_56 : decode cX0_init 56 = .ok (.putfield 34, 3) := by decide +kernel
theorem dX0_init_59 : decode cX0_init 59 = .ok (.aload_n 0, 1) := by decide +kernel
theorem dX0_init_60 : decode cX0_init 60 = .ok (.bipush 20, 2) := by decide +kernel
theorem dX0_init_62 : decode cX0_init 62 = .ok (.newarray .int, 2) := by decide +kernel
theorem dX0_init_64 : decode cX0_init 64 = .ok (.putfield 37, 3) := by decide +kernel
theorem dX0_init_67 : decode cX0_init 67 = .ok (.aload_n 0, 1) := by decide +kernel
theorem dX0_init_68 : decode cX0_init 68 = .ok (.bipush 20, 2) := by decide +kernel
theorem dX0_init_70 : decode cX0_init 70 = .ok (.newarray .int, 2) := by decide +kernel
theorem dX0_init_72 : decode cX0_init 72 = .ok (.putfield 40, 3) := by decide +kernel
theorem dX0_init_75 : decode cX0_init 75 = .ok (.aload_n 0, 1) := by decide +kernel
theorem dX0_init_76 : decode cX0_init 76 = .ok (.bipush 20, 2) := by decide +kernel
theorem dX0_init_78 : decode cX0_init 78 = .ok (.newarray .int, 2) := by decide +kernel
theorem dX0_init_80 : decode cX0_init 80 = .ok (.putfield 43, 3) := by decide +kernel
theorem dX0_init_83 : decode cX0_init 83 = .ok (.aload_n 0, 1) := by decide +kernel
theorem dX0_init_84 : decode cX0_init 84 = .ok (.bipush 20, 2) := by decide +kernel
theorem dX0_init_86 : decode cX0_init 86 = .ok (.newarray .int, 2) := by decide +kernel
theorem dX0_init_88 : decode cX0_init 88 = .ok (.putfield 46, 3) := by decide +kernel
theorem dX0_init_91 : decode cX0_init 91 = .ok (.aload_n 0, 1) := by decide +kernel
theorem dX0_init_92 : decode cX0_init 92 = .ok (.bipush 20, 2) := by decide +kernel
theorem dX0_init_94 : decode cX0_init 94 = .ok (.newarray .int, 2) := by decide +kernel
theorem dX0_init_96 : decode cX0_init 96 = .ok (.putfield 49, 3) := by decide +kernel
theorem dX0_init_99 : decode cX0_init 99 = .ok (.aload_n 0, 1) := by decide +kernel
theorem dX0_init_100 : decode cX0_init 100 = .ok (.iconst 0, 1) := by decide +kernel
theorem dX0_init_101 : decode cX0_init 101 = .ok (.putfield 52, 3) := by decide +kernel
theorem dX0_init_104 : decode cX0_init 104 = .ok (.aload_n 0, 1) := by decide +kernel
theorem dX0_init_105 : decode cX0_init 105 = .ok (.bipush 30, 2) := by decide +kernel
theorem dX0_init_107 : decode cX0_init 107 = .ok (.newarray .int, 2) := by decide +kernel
theorem dX0_init_109 : decode cX0_init 109 = .ok (.putfield 55, 3) := by decide +kernel
theorem dX0_init_112 : decode cX0_init 112 = .ok (.aload_n 0, 1) := by decide +kernel
theorem dX0_init_113 : decode cX0_init 113 = .ok (.bipush 30, 2) := by decide +kernel
theorem dX0_init_115 : decode cX0_init 115 = .ok (.newarray .int, 2) := by decide +kernel
theorem dX0_init_117 : decode cX0_init 117 = .ok (.putfield 58, 3) := by decide +kernel
theorem dX0_init_120 : decode cX0_init 120 = .ok (.aload_n 0, 1) := by decide +kernel
theorem dX0_init_121 : decode cX0_init 121 = .ok (.bipush 20, 2) := by decide +kernel
theorem dX0_init_123 : decode cX0_init 123 = .ok (.newarray .int, 2) := by decide +kernel
theorem dX0_init_125 : decode cX0_init 125 = .ok (.putfield 61, 3) := by decide +kernel
theorem dX0_init_128 : decode cX0_init 128 = .ok (.aload_n 0, 1) := by decide +kernel
theorem dX0_init_129 : decode cX0_init 129 = .ok (.new 64, 3) := by decide +kernel
theorem dX0_init_132 : decode cX0_init 132 = .ok (.dup, 1) := by decide +kernel
theorem dX0_init_133 : decode cX0_init 133 = .ok (.invokespecial 66, 3) := by decide +kernel
theorem dX0_init_136 : decode cX0_init 136 = .ok (.putfield 67, 3) := by decide +kernel
theorem dX0_init_139 : decode cX0_init 139 = .ok (.aload_n 0, 1) := by decide +kernel
theorem dX0_init_140 : decode cX0_init 140 = .ok (.getfield 15, 3) := by decide +kernel
theorem dX0_init_143 : decode cX0_init 143 = .ok (.iconst 0, 1) := by decide +kernel
theorem dX0_init_144 : decode cX0_init 144 = .ok (.iconst (-1), 1) := by decide +kernel
theorem dX0_init_145 : decode cX0_init 145 = .ok (.iastore, 1) := by decide +kernel
theorem dX0_init_146 : decode cX0_init 146 = .ok (.return_, 1) := by decide +kernel
theorem dX0_reset_0 : decode cX0_reset 0 = .ok (.aload_n 0, 1) := by decide +kernel
theorem dX0_reset_1 : decode cX0_reset 1 = .ok (.iconst 1, 1) := by decide +kernel
theorem dX0_reset_2 : decode cX0_reset 2 = .ok (.putfield 9, 3) := by decide +kernel
theorem dX0_reset_5 : decode cX0_reset 5 = .ok (.aload_n 0, 1) := by decide +kernel
theorem dX0_reset_6 : decode cX0_reset 6 = .ok (.iconst 0, 1) := by decide +kernel
theorem dX0_reset_7 : decode cX0_reset 7 = .ok (.putfield 19, 3) := by decide +kernel
theorem dX0_reset_10 : decode cX0_reset 10 = .ok (.aload_n 0, 1) := by decide +kernel
theorem dX0_reset_11 : decode cX0_reset 11 = .ok (.iconst 0, 1) := by decide +kernel
theorem dX0_reset_12 : decode cX0_reset 12 = .ok (.putfield 31, 3) := by decide +kernel
theorem dX0_reset_15 : decode cX0_reset 15 = .ok (.aload_n 0, 1) := by decide +kernel
theorem dX0_reset_16 : decode cX0_reset 16 = .ok (.iconst 0, 1) := by decide +kernel
theorem dX0_reset_17 : decode cX0_reset 17 = .ok (.putfield 52, 3) := by decide +kernel
theorem dX0_reset_20 : decode cX0_reset 20 = .ok (.return_, 1) := by decide +kernel
theorem dX0_copyFrom_0 : decode cX0_copyFrom 0 = .ok (.aload_n 0, 1) := by decide +kernel
theorem dX0_copyFrom_1 : decode cX0_copyFrom 1 = .ok (.aload_n 1, 1) := by decide +kernel
theorem dX0_copyFrom_2 : decode cX0_copyFrom 2 = .ok (.getfield 9, 3) := by decide +kernel
theorem dX0_copyFrom_5 : decode cX0_copyFrom 5 = .ok (.putfield 9, 3) := by decide +kernel
theorem dX0_copyFrom_8 : decode cX0_copyFrom 8 = .ok (.aload_n 1, 1) := by decide +kernel
theorem dX0_copyFrom_9 : decode cX0_copyFrom 9 = .ok (.getfield 15, 3) := by decide +kernel
theorem dX0_copyFrom_12 : decode cX0_copyFrom 12 = .ok (.iconst 0, 1) := by decide +kernel
theorem dX0_copyFrom_13 : decode cX0_copyFrom 13 = .ok (.aload_n 0, 1) := by decide +kernel
theorem dX0_copyFrom_14 : decode cX0_copyFrom 14 = .ok (.getfield 15, 3) := by decide +kernel
theorem dX0_copyFrom_17 : decode cX0_copyFrom 17 = .ok (.iconst 0, 1) := by decide +kernel
theorem dX0_copyFrom_18 : decode cX0_copyFrom 18 = .ok (.aload_n 0, 1) := by decide +kernel
theorem dX0_copyFrom_19 : decode cX0_copyFrom 19 = .ok (.getfield 9, 3) := by decide +kernel
theorem dX0_copyFrom_22 : decode cX0_copyFrom 22 = .ok (.invokestatic 71, 3) := by decide +kernel
theorem dX0_copyFrom_25 : decode cX0_copyFrom 25 = .ok (.aload_n 0, 1) := by decide +kernel
theorem dX0_copyFrom_26 : decode cX0_copyFrom 26 = .ok (.aload_n 1, 1) := by decide +kernel
theorem dX0_copyFrom_27 : decode cX0_copyFrom 27 = .ok (.getfield 19, 3) := by decide +kernel
theorem dX0_copyFrom_30 : decode cX0_copyFrom 30 = .ok (.putfield 19, 3) := by decide +kernel
theorem dX0_copyFrom_33 : decode cX0_copyFrom 33 = .ok (.aload_n 1, 1) := by decide +kernel
theorem dX0_copyFrom_34 : decode cX0_copyFrom 34 = .ok (.getfield 22, 3) := by decide +kernel
theorem dX0_copyFrom_37 : decode cX0_copyFrom 37 = .ok (.iconst 0, 1) := by decide +kernel
theorem dX0_copyFrom_38 : decode cX0_copyFrom 38 = .ok (.aload_n 0, 1) := by decide +kernel
theorem dX0_copyFrom_39 : decode cX0_copyFrom 39 = .ok (.getfield 22, 3) := by decide +kernel
theorem dX0_copyFrom_42 : decode cX0_copyFrom 42 = .ok (.iconst 0, 1) := by decide +kernel
theorem dX0_copyFrom_43 : decode cX0_copyFrom 43 = .ok (.aload_n 0, 1) := by decide +kernel
theorem dX0_copyFrom_44 : decode cX0_copyFrom 44 = .ok (.getfield 19, 3) := by decide +kernel
theorem dX0_copyFrom_47 : decode cX0_copyFrom 47 = .ok (.invokestatic 71, 3) := by decide +kernel
theorem dX0_copyFrom_50 : decode cX0_copyFrom 50 = .ok (.aload_n 1, 1) := by decide +kernel
theorem dX0_copyFrom_51 : decode cX0_copyFrom 51 = .ok (.getfield 25, 3) := by decide +kernel
theorem dX0_copyFrom_54 : decode cX0_copyFrom 54 = .ok (.iconst 0, 1) := by decide +kernel
theorem dX0_copyFrom_55 : decode cX0_copyFrom 55 = .ok (.aload_n 0, 1) := by decide +kernel
theorem dX0_copyFrom_56 : decode cX0_copyFrom 56 = .ok (.getfield 25, 3) := by decide +kernel
theorem dX0_copyFrom_59 : decode cX0_copyFrom 59 = .ok (.iconst 0, 1) := by decide +kernel
theorem dX0_copyFrom_60 : decode cX0_copyFrom 60 = .ok (.aload_n 0, 1) := by decide +kernel
theorem dX0_copyFrom_61 : decode cX0_copyFrom 61 = .ok (.getfield 19, 3) := by decide +kernel
theorem dX0_copyFrom_64 : decode cX0_copyFrom 64 = .ok (.invokestatic 71, 3) := by decide +kernel
theorem dX0_copyFrom_67 : decode cX0_copyFrom 67 = .ok (.aload_n 1, 1) := by decide +kernel
theorem dX0_copyFrom_68 : decode cX0_copyFrom 68 = .ok (.getfield 28, 3) := by decide +kernel
theorem dX0_copyFrom_71 : decode cX0_copyFrom 71 = .ok (.iconst 0, 1) := by decide +kernel
theorem dX0_copyFrom_72 : decode cX0_copyFrom 72 = .ok (.aload_n 0, 1) := by decide +kernel
theorem dX0_copyFrom_73 : decode cX0_copyFrom 73 = .ok (.getfield 28, 3) := by decide +kernel
theorem dX0_copyFrom_76 : decode cX0_copyFrom 76 = .ok (.iconst 0, 1) := by decide +kernel
theorem dX0_copyFrom_77 : decode cX0_copyFrom 77 = .ok (.aload_n 0, 1) := by decide +kernel
theorem dX0_copyFrom_78 : decode cX0_copyFrom 78 = .ok (.getfield 19, 3) := by decide +kernel
theorem dX0_copyFrom_81 : decode cX0_copyFrom 81 = .ok (.invokestatic 71, 3) := by decide +kernel
theorem dX0_copyFrom_84 : decode cX0_copyFrom 84 = .ok (.aload_n 0, 1) := by decide +kernel
theorem dX0_copyFrom_85 : decode cX0_copyFrom 85 = .ok (.aload_n 1, 1) := by decide +kernel
theorem dX0_copyFrom_86 : decode cX0_copyFrom 86 = .ok (.getfield 31, 3) := by decide +kernel
theorem dX0_copyFrom_89 : decode cX0_copyFrom 89 = .ok (.putfield 31, 3) := by decide +kernel
theorem dX0_copyFrom_92 : decode cX0_copyFrom 92 = .ok (.aload_n 1, 1) := by decide +kernel
theorem dX0_copyFrom_93 : decode cX0_copyFrom 93 = .ok (.getfield 34, 3) := by decide +kernel
theorem dX0_copyFrom_96 : decode cX0_copyFrom 96 = .ok (.iconst 0, 1) := by decide +kernel
theorem dX0_copyFrom_97 : decode cX0_copyFrom 97 = .ok (.aload_n 0, 1) := by decide +kernel
theorem dX0_copyFrom_98 : decode cX0_copyFrom 98 = .ok (.getfield 34, 3) := by decide +kernel
theorem dX0_copyFrom_101 : decode cX0_copyFrom 101 = .ok (.iconst 0, 1) := by decide +kernel
theorem dX0_copyFrom_102 : decode cX0_copyFrom 102 = .ok (.aload_n 0, 1) := by decide +kernel
theorem dX0_copyFrom_103 : decode cX0_copyFrom 103 = .ok (.getfield 31, 3) := by decide +kernel
theorem dX0_copyFrom_106 : decode cX0_copyFrom 106 = .ok (.invokestatic 71, 3) := by decide +kernel
theorem dX0_copyFrom_109 : decode cX0_copyFrom 109 = .ok (.aload_n 1, 1) := by decide +kernel
theorem dX0_copyFrom_110 : decode cX0_copyFrom 110 = .ok (.getfield 37, 3) := by decide +kernel
theorem dX0_copyFrom_113 : decode cX0_copyFrom 113 = .ok (.iconst 0, 1) := by decide +kernel
theorem dX0_copyFrom_114 : decode cX0_copyFrom 114 = .ok (.aload_n 0, 1) := by decide +kernel
theorem dX0_copyFrom_115 : decode cX0_copyFrom 115 = .ok (.getfield 37, 3) := by decide +kernel
theorem dX0_copyFrom_118 : decode cX0_copyFrom 118 = .ok (.iconst 0, 1) := by decide +kernel
theorem dX0_copyFrom_119 : decode cX0_copyFrom 119 = .ok (.aload_n 0, 1) := by decide +kernel
theorem dX0_copyFrom_120 : decode cX0_copyFrom 120 = .ok (.getfield 31, 3) := by decide +kernel
theorem dX0_copyFrom_123 : decode cX0_copyFrom 123 = .ok (.invokestatic 71, 3) := by decide +kernel
theorem dX0_copyFrom_126 : decode cX0_copyFrom 126 = .ok (.aload_n 1, 1) := by decide +kernel
theorem dX0_copyFrom_127 : decode cX0_copyFrom 127 = .ok (.getfield 40, 3) := by decide +kernel
theorem dX0_copyFrom_130 : decode cX0_copyFrom 130 = .ok (.iconst 0, 1) := by decide +kernel
theorem dX0_copyFrom_131 : decode cX0_copyFrom 131 = .ok (.aload_n 0, 1) := by decide +kernel
theorem dX0_copyFrom_132 : decode cX0_copyFrom 132 = .ok (.getfield 40, 3) := by decide +kernel
theorem dX0_copyFrom_135 : decode cX0_copyFrom 135 = .ok (.iconst 0, 1) := by decide +kernel
theorem dX0_copyFrom_136 : decode cX0_copyFrom 136 = .ok (.aload_n 0, 1) := by decide +kernel
theorem dX0_copyFrom_137 : decode cX0_copyFrom 137 = .ok (.getfield 31, 3) := by decide +kernel
theorem dX0_copyFrom_140 : decode cX0_copyFrom 140 = .ok (.invokestatic 71, 3) := by decide +kernel
theorem dX0_copyFrom_143 : decode cX0_copyFrom 143 = .ok (.aload_n 1, 1) := by decide +kernel
theorem dX0_copyFrom_144 : decode cX0_copyFrom 144 = .ok (.getfield 43, 3) := by decide +kernel
theorem dX0_copyFrom_147 : decode cX0_copyFrom 147 = .ok (.iconst 0, 1) := by decide +kernel
theorem dX0_copyFrom_148 : decode cX0_copyFrom 148 = .ok (.aload_n 0, 1) := by decide +kernel
theorem dX0_copyFrom_149 : decode cX0_copyFrom 149 = .ok (.getfield 43, 3) := by decide +kernel
theorem dX0_copyFrom_152 : decode cX0_copyFrom 152 = .ok (.iconst 0, 1) := by decide +kernel
theorem dX0_copyFrom_153 : decode cX0_copyFrom 153 = .ok (.aload_n 0, 1) := by decide +kernel
theorem dX0_copyFrom_154 : decode cX0_copyFrom 154 = .ok (.getfield 31, 3) := by decide +kernel
theorem dX0_copyFrom_157 : decode cX0_copyFrom 157 = .ok (.invokestatic 71, 3) := by decide +kernel
theorem dX0_copyFrom_160 : decode cX0_copyFrom 160 = .ok (.aload_n 1, 1) := by decide +kernel
theorem dX0_copyFrom_161 : decode cX0_copyFrom 161 = .ok (.getfield 46, 3) := by decide +kernel
theorem dX0_copyFrom_164 : decode cX0_copyFrom 164 = .ok (.iconst 0, 1) := by decide +kernel
theorem dX0_copyFrom_165 : decode cX0_copyFrom 165 = .ok (.aload_n 0, 1) := by decide +kernel
theorem dX0_copyFrom_166 : decode cX0_copyFrom 166 = .ok (.getfield 46, 3) := by decide +kernel
theorem dX0_copyFrom_169 : decode cX0_copyFrom 169 = .ok (.iconst 0, 1) := by decide +kernel
theorem dX0_copyFrom_170 : decode cX0_copyFrom 170 = .ok (.aload_n 0, 1) := by decide +kernel
theorem dX0_copyFrom_171 : decode cX0_copyFrom 171 = .ok (.getfield 31, 3) := by decide +kernel
theorem dX0_copyFrom_174 : decode cX0_copyFrom 174 = .ok (.invokestatic 71, 3) := by decide +kernel
theorem dX0_copyFrom_177 : decode cX0_copyFrom 177 = .ok (.aload_n 1, 1) := by decide +kernel
theorem dX0_copyFrom_178 : decode cX0_copyFrom 178 = .ok (.getfield 49, 3) := by decide +kernel
theorem dX0_copyFrom_181 : decode cX0_copyFrom 181 = .ok (.iconst 0, 1) := by decide +kernel
theorem dX0_copyFrom_182 : decode cX0_copyFrom 182 = .ok (.aload_n 0, 1) := by decide +kernel
theorem dX0_copyFrom_183 : decode cX0_copyFrom 183 = .ok (.getfield 49, 3) := by decide +kernel
theorem dX0_copyFrom_186 : decode cX0_copyFrom 186 = .ok (.iconst 0, 1) := by decide +kernel
theorem dX0_copyFrom_187 : decode cX0_copyFrom 187 = .ok (.aload_n 0, 1) := by decide +kernel
theorem dX0_copyFrom_188 : decode cX0_copyFrom 188 = .ok (.getfield 31, 3) := by decide +kernel
theorem dX0_copyFrom_191 : decode cX0_copyFrom 191 = .ok (.invokestatic 71, 3) := by decide +kernel
theorem dX0_copyFrom_194 : decode cX0_copyFrom 194 = .ok (.aload_n 0, 1) := by decide +kernel
theorem dX0_copyFrom_195 : decode cX0_copyFrom 195 = .ok (.aload_n 1, 1) := by decide +kernel
theorem dX0_copyFrom_196 : decode cX0_copyFrom 196 = .ok (.getfield 52, 3) := by decide +kernel
theorem dX0_copyFrom_199 : decode cX0_copyFrom 199 = .ok (.putfield 52, 3) := by decide +kernel
theorem dX0_copyFrom_202 : decode cX0_copyFrom 202 = .ok (.aload_n 1, 1) := by decide +kernel
theorem dX0_copyFrom_203 : decode cX0_copyFrom 203 = .ok (.getfield 55, 3) := by decide +kernel
theorem dX0_copyFrom_206 : decode cX0_copyFrom 206 = .ok (.iconst 0, 1) := by decide +kernel
theorem dX0_copyFrom_207 : decode cX0_copyFrom 207 = .ok (.aload_n 0, 1) := by decide +kernel
theorem dX0_copyFrom_208 : decode cX0_copyFrom 208 = .ok (.getfield 55, 3) := by decide +kernel
theorem dX0_copyFrom_211 : decode cX0_copyFrom 211 = .ok (.iconst 0, 1) := by decide +kernel
theorem dX0_copyFrom_212 : decode cX0_copyFrom 212 = .ok (.aload_n 0, 1) := by decide +kernel
theorem dX0_copyFrom_213 : decode cX0_copyFrom 213 = .ok (.getfield 52, 3) := by decide +kernel
theorem dX0_copyFrom_216 : decode cX0_copyFrom 216 = .ok (.invokestatic 71, 3) := by decide +kernel
theorem dX0_copyFrom_219 : decode cX0_copyFrom 219 = .ok (.aload_n 1, 1) := by decide +kernel
theorem dX0_copyFrom_220 : decode cX0_copyFrom 220 = .ok (.getfield 58, 3) := by decide +kernel
theorem dX0_copyFrom_223 : decode cX0_copyFrom 223 = .ok (.iconst 0, 1) := by decide +kernel
theorem dX0_copyFrom_224 : decode cX0_copyFrom 224 = .ok (.aload_n 0, 1) := by decide +kernel
theorem dX0_copyFrom_225 : decode cX0_copyFrom 225 = .ok (.getfield 58, 3) := by decide +kernel
theorem dX0_copyFrom_228 : decode cX0_copyFrom 228 = .ok (.iconst 0, 1) := by decide +kernel
theorem dX0_copyFrom_229 : decode cX0_copyFrom 229 = .ok (.aload_n 0, 1) := by decide +kernel
theorem dX0_copyFrom_230 : decode cX0_copyFrom 230 = .ok (.getfield 52, 3) := by decide +kernel
theorem dX0_copyFrom_233 : decode cX0_copyFrom 233 = .ok (.invokestatic 71, 3) := by decide +kernel
theorem dX0_copyFrom_236 : decode cX0_copyFrom 236 = .ok (.return_, 1) := by decide +kernel
theorem dX0_settle_0 : decode cX0_settle 0 = .ok (.aload_n 0, 1) := by decide +kernel
theorem dX0_settle_1 : decode cX0_settle 1 = .ok (.getfield 61, 3) := by decide +kernel
theorem dX0_settle_4 : decode cX0_settle 4 = .ok (.iconst (-1), 1) := by decide +kernel
theorem dX0_settle_5 : decode cX0_settle 5 = .ok (.invokestatic 77, 3) := by decide +kernel
theorem dX0_settle_8 : decode cX0_settle 8 = .ok (.aload_n 0, 1) := by decide +kernel
theorem dX0_settle_9 : decode cX0_settle 9 = .ok (.getfield 67, 3) := by decide +kernel
theorem dX0_settle_12 : decode cX0_settle 12 = .ok (.invokevirtual 83, 3) := by decide +kernel
theorem dX0_settle_15 : decode cX0_settle 15 = .ok (.aload_n 0, 1) := by decide +kernel
theorem dX0_settle_16 : decode cX0_settle 16 = .ok (.getfield 67, 3) := by decide +kernel
theorem dX0_settle_19 : decode cX0_settle 19 = .ok (.aload_n 0, 1) := by decide +kernel
theorem dX0_settle_20 : decode cX0_settle 20 = .ok (.invokevirtual 86, 3) := by decide +kernel
theorem dX0_settle_23 : decode cX0_settle 23 = .ok (.aload_n 0, 1) := by decide +kernel
theorem dX0_settle_24 : decode cX0_settle 24 = .ok (.getfield 67, 3) := by decide +kernel
theorem dX0_settle_27 : decode cX0_settle 27 = .ok (.aload_n 0, 1) := by decide +kernel
theorem dX0_settle_28 : decode cX0_settle 28 = .ok (.invokevirtual 90, 3) := by decide +kernel
theorem dX0_settle_31 : decode cX0_settle 31 = .ok (.aload_n 0, 1) := by decide +kernel
theorem dX0_settle_32 : decode cX0_settle 32 = .ok (.getfield 67, 3) := by decide +kernel
theorem dX0_settle_35 : decode cX0_settle 35 = .ok (.aload_n 0, 1) := by decide +kernel
theorem dX0_settle_36 : decode cX0_settle 36 = .ok (.invokevirtual 93, 3) := by decide +kernel
theorem dX0_settle_39 : decode cX0_settle 39 = .ok (.return_, 1) := by decide +kernel
theorem dX0_hasScope_0 : decode cX0_hasScope 0 = .ok (.iload_n 1, 1) := by decide +kernel
theorem dX0_hasScope_1 : decode cX0_hasScope 1 = .ok (.ifCond .lt 15, 3) := by decide +kernel
theorem dX0_hasScope_4 : decode cX0_hasScope 4 = .ok (.iload_n 1, 1) := by decide +kernel
theorem dX0_hasScope_5 : decode cX0_hasScope 5 = .ok (.aload_n 0, 1) := by decide +kernel
theorem dX0_hasScope_6 : decode cX0_hasScope 6 = .ok (.getfield 9, 3) := by decide +kernel
theorem dX0_hasScope_9 : decode cX0_hasScope 9 = .ok (.if_icmp .ge 7, 3) := by decide +kernel
theorem dX0_hasScope_12 : decode cX0_hasScope 12 = .ok (.iconst 1, 1) := by decide +kernel
theorem dX0_hasScope_13 : decode cX0_hasScope 13 = .ok (.goto 4, 3) := by decide +kernel
theorem dX0_hasScope_16 : decode cX0_hasScope 16 = .ok (.iconst 0, 1) := by decide +kernel
theorem dX0_hasScope_17 : decode cX0_hasScope 17 = .ok (.ireturn, 1) := by decide +kernel
theorem dX0_refusalOfScope_0 : decode cX0_refusalOfScope 0 = .ok (.aload_n 0, 1) := by decide +kernel
theorem dX0_refusalOfScope_1 : decode cX0_refusalOfScope 1 = .ok (.iload_n 1, 1) := by decide +kernel
theorem dX0_refusalOfScope_2 : decode cX0_refusalOfScope 2 = .ok (.invokevirtual 96, 3) := by decide +kernel
theorem dX0_refusalOfScope_5 : decode cX0_refusalOfScope 5 = .ok (.ifCond .ne 5, 3) := by decide +kernel
theorem dX0_refusalOfScope_8 : decode cX0_refusalOfScope 8 = .ok (.iconst 1, 1) := by decide +kernel
theorem dX0_refusalOfScope_9 : decode cX0_refusalOfScope 9 = .ok (.ireturn, 1) := by decide +kernel
theorem dX0_refusalOfScope_10 : decode cX0_refusalOfScope 10 = .ok (.aload_n 0, 1) := by decide +kernel
theorem dX0_refusalOfScope_11 : decode cX0_refusalOfScope 11 = .ok (.getfield 9, 3) := by decide +kernel
theorem dX0_refusalOfScope_14 : decode cX0_refusalOfScope 14 = .ok (.bipush 16, 2) := by decide +kernel
theorem dX0_refusalOfScope_16 : decode cX0_refusalOfScope 16 = .ok (.if_icmp .lt 7, 3) := by decide +kernel
theorem dX0_refusalOfScope_19 : decode cX0_refusalOfScope 19 = .ok (.iconst 3, 1) := by decide +kernel
theorem dX0_refusalOfScope_20 : decode cX0_refusalOfScope 20 = .ok (.goto 4, 3) := by decide +kernel
theorem dX0_refusalOfScope_23 : decode cX0_refusalOfScope 23 = .ok (.iconst 0, 1) := by decide +kernel
theorem dX0_refusalOfScope_24 : decode cX0_refusalOfScope 24 = .ok (.ireturn, 1) := by decide +kernel
theorem dX0_putScope_0 : decode cX0_putScope 0 = .ok (.aload_n 0, 1) := by decide +kernel
theorem dX0_putScope_1 : decode cX0_putScope 1 = .ok (.getfield 15, 3) := by decide +kernel
theorem dX0_putScope_4 : decode cX0_putScope 4 = .ok (.aload_n 0, 1) := by decide +kernel
theorem dX0_putScope_5 : decode cX0_putScope 5 = .ok (.getfield 9, 3) := by decide +kernel
theorem dX0_putScope_8 : decode cX0_putScope 8 = .ok (.iload_n 1, 1) := by decide +kernel
theorem dX0_putScope_9 : decode cX0_putScope 9 = .ok (.iastore, 1) := by decide +kernel
theorem dX0_putScope_10 : decode cX0_putScope 10 = .ok (.aload_n 0, 1) := by decide +kernel
theorem dX0_putScope_11 : decode cX0_putScope 11 = .ok (.dup, 1) := by decide +kernel
theorem dX0_putScope_12 : decode cX0_putScope 12 = .ok (.getfield 9, 3) := by decide +kernel
theorem dX0_putScope_15 : decode cX0_putScope 15 = .ok (.dup_x1, 1) := by decide +kernel
theorem dX0_putScope_16 : decode cX0_putScope 16 = .ok (.iconst 1, 1) := by decide +kernel
theorem dX0_putScope_17 : decode cX0_putScope 17 = .ok (.iadd, 1) := by decide +kernel
theorem dX0_putScope_18 : decode cX0_putScope 18 = .ok (.putfield 9, 3) := by decide +kernel
theorem dX0_putScope_21 : decode cX0_putScope 21 = .ok (.ireturn, 1) := by decide +kernel
theorem dX0_refusalOfDeclaration_0 : decode cX0_refusalOfDeclaration 0 = .ok (.aload_n 0, 1) := by decide +kernel
theorem dX0_refusalOfDeclaration_1 : decode cX0_refusalOfDeclaration 1 = .ok (.iload_n 1, 1) := by decide +kernel
theorem dX0_refusalOfDeclaration_2 : decode cX0_refusalOfDeclaration 2 = .ok (.invokevirtual 96, 3) := by decide +kernel
theorem dX0_refusalOfDeclaration_5 : decode cX0_refusalOfDeclaration 5 = .ok (.ifCond .ne 5, 3) := by decide +kernel
theorem dX0_refusalOfDeclaration_8 : decode cX0_refusalOfDeclaration 8 = .ok (.iconst 1, 1) := by decide +kernel
theorem dX0_refusalOfDeclaration_9 : decode cX0_refusalOfDeclaration 9 = .ok (.ireturn, 1) := by decide +kernel
theorem dX0_refusalOfDeclaration_10 : decode cX0_refusalOfDeclaration 10 = .ok (.iload_n 2, 1) := by decide +kernel
theorem dX0_refusalOfDeclaration_11 : decode cX0_refusalOfDeclaration 11 = .ok (.invokestatic 100, 3) := by decide +kernel
theorem dX0_refusalOfDeclaration_14 : decode cX0_refusalOfDeclaration 14 = .ok (.ifCond .eq 12, 3) := by decide +kernel
theorem dX0_refusalOfDeclaration_17 : decode cX0_refusalOfDeclaration 17 = .ok (.aload_n 0, 1) := by decide +kernel
theorem dX0_refusalOfDeclaration_18 : decode cX0_refusalOfDeclaration 18 = .ok (.iload_n 1, 1) := by decide +kernel
theorem dX0_refusalOfDeclaration_19 : decode cX0_refusalOfDeclaration 19 = .ok (.iload_n 2, 1) := by decide +kernel
theorem dX0_refusalOfDeclaration_20 : decode cX0_refusalOfDeclaration 20 = .ok (.invokevirtual 103, 3) := by decide +kernel
theorem dX0_refusalOfDeclaration_23 : decode cX0_refusalOfDeclaration 23 = .ok (.ifCond .eq 5, 3) := by decide +kernel
theorem dX0_refusalOfDeclaration_26 : decode cX0_refusalOfDeclaration 26 = .ok (.iconst 2, 1) := by decide +kernel
theorem dX0_refusalOfDeclaration_27 : decode cX0_refusalOfDeclaration 27 = .ok (.ireturn, 1) := by decide +kernel
theorem dX0_refusalOfDeclaration_28 : decode cX0_refusalOfDeclaration 28 = .ok (.aload_n 0, 1) := by decide +kernel
theorem dX0_refusalOfDeclaration_29 : decode cX0_refusalOfDeclaration 29 = .ok (.getfield 19, 3) := by decide +kernel
theorem dX0_refusalOfDeclaration_32 : decode cX0_refusalOfDeclaration 32 = .ok (.bipush 30, 2) := by decide +kernel
theorem dX0_refusalOfDeclaration_34 : decode cX0_refusalOfDeclaration 34 = .ok (.if_icmp .lt 7, 3) := by decide +kernel
theorem dX0_refusalOfDeclaration_37 : decode cX0_refusalOfDeclaration 37 = .ok (.iconst 3, 1) := by decide +kernel
theorem dX0_refusalOfDeclaration_38 : decode cX0_refusalOfDeclaration 38 = .ok (.goto 4, 3) := by decide +kernel
theorem dX0_refusalOfDeclaration_41 : decode cX0_refusalOfDeclaration 41 = .ok (.iconst 0, 1) := by decide +kernel
theorem dX0_refusalOfDeclaration_42 : decode cX0_refusalOfDeclaration 42 = .ok (.ireturn, 1) := by decide +kernel
theorem dX0_declares_0 : decode cX0_declares 0 = .ok (.iconst 0, 1) := by decide +kernel
theorem dX0_declares_1 : decode cX0_declares 1 = .ok (.istore_n 3, 1) := by decide +kernel
theorem dX0_declares_2 : decode cX0_declares 2 = .ok (.iload_n 3, 1) := by decide +kernel
theorem dX0_declares_3 : decode cX0_declares 3 = .ok (.aload_n 0, 1) := by decide +kernel
theorem dX0_declares_4 : decode cX0_declares 4 = .ok (.getfield 19, 3) := by decide +kernel
theorem dX0_declares_7 : decode cX0_declares 7 = .ok (.if_icmp .ge 31, 3) := by decide +kernel
theorem dX0_declares_10 : decode cX0_declares 10 = .ok (.aload_n 0, 1) := by decide +kernel
theorem dX0_declares_11 : decode cX0_declares 11 = .ok (.getfield 22, 3) := by decide +kernel
theorem dX0_declares_14 : decode cX0_declares 14 = .ok (.iload_n 3, 1) := by decide +kernel
theorem dX0_declares_15 : decode cX0_declares 15 = .ok (.iaload, 1) := by decide +kernel
theorem dX0_declares_16 : decode cX0_declares 16 = .ok (.iload_n 1, 1) := by decide +kernel
theorem dX0_declares_17 : decode cX0_declares 17 = .ok (.if_icmp .ne 15, 3) := by decide +kernel
theorem dX0_declares_20 : decode cX0_declares 20 = .ok (.aload_n 0, 1) := by decide +kernel
theorem dX0_declares_21 : decode cX0_declares 21 = .ok (.getfield 25, 3) := by decide +kernel
theorem dX0_declares_24 : decode cX0_declares 24 = .ok (.iload_n 3, 1) := by decide +kernel
theorem dX0_declares_25 : decode cX0_declares 25 = .ok (.iaload, 1) := by decide +kernel
theorem dX0_declares_26 : decode cX0_declares 26 = .ok (.iload_n 2, 1) := by decide +kernel
theorem dX0_declares_27 : decode cX0_declares 27 = .ok (.if_icmp .ne 5, 3) := by decide +kernel
theorem dX0_declares_30 : decode cX0_declares 30 = .ok (.iconst 1, 1) := by decide +kernel
theorem dX0_declares_31 : decode cX0_declares 31 = .ok (.ireturn, 1) := by decide +kernel
theorem dX0_declares_32 : decode cX0_declares 32 = .ok (.iinc 3 1, 3) := by decide +kernel
theorem dX0_declares_35 : decode cX0_declares 35 = .ok (.goto (-33), 3) := by decide +kernel
theorem dX0_declares_38 : decode cX0_declares 38 = .ok (.iconst 0, 1) := by decide +kernel
theorem dX0_declares_39 : decode cX0_declares 39 = .ok (.ireturn, 1) := by decide +kernel
theorem dX0_putDeclaration_0 : decode cX0_putDeclaration 0 = .ok (.aload_n 0, 1) := by decide +kernel
theorem dX0_putDeclaration_1 : decode cX0_putDeclaration 1 = .ok (.getfield 22, 3) := by decide +kernel
theorem dX0_putDeclaration_4 : decode cX0_putDeclaration 4 = .ok (.aload_n 0, 1) := by decide +kernel
theorem dX0_putDeclaration_5 : decode cX0_putDeclaration 5 = .ok (.getfield 19, 3) := by decide +kernel
theorem dX0_putDeclaration_8 : decode cX0_putDeclaration 8 = .ok (.iload_n 1, 1) := by decide +kernel
theorem dX0_putDeclaration_9 : decode cX0_putDeclaration 9 = .ok (.iastore, 1) := by decide +kernel
theorem dX0_putDeclaration_10 : decode cX0_putDeclaration 10 = .ok (.aload_n 0, 1) := by decide +kernel
theorem dX0_putDeclaration_11 : decode cX0_putDeclaration 11 = .ok (.getfield 25, 3) := by decide +kernel
theorem dX0_putDeclaration_14 : decode cX0_putDeclaration 14 = .ok (.aload_n 0, 1) := by decide +kernel
theorem dX0_putDeclaration_15 : decode cX0_putDeclaration 15 = .ok (.getfield 19, 3) := by decide +kernel
theorem dX0_putDeclaration_18 : decode cX0_putDeclaration 18 = .ok (.iload_n 2, 1) := by decide +kernel
theorem dX0_putDeclaration_19 : decode cX0_putDeclaration 19 = .ok (.iastore, 1) := by decide +kernel
theorem dX0_putDeclaration_20 : decode cX0_putDeclaration 20 = .ok (.aload_n 0, 1) := by decide +kernel
theorem dX0_putDeclaration_21 : decode cX0_putDeclaration 21 = .ok (.getfield 28, 3) := by decide +kernel
theorem dX0_putDeclaration_24 : decode cX0_putDeclaration 24 = .ok (.aload_n 0, 1) := by decide +kernel
theorem dX0_putDeclaration_25 : decode cX0_putDeclaration 25 = .ok (.getfield 19, 3) := by decide +kernel
theorem dX0_putDeclaration_28 : decode cX0_putDeclaration 28 = .ok (.iload_n 3, 1) := by decide +kernel
theorem dX0_putDeclaration_29 : decode cX0_putDeclaration 29 = .ok (.iastore, 1) := by decide +kernel
theorem dX0_putDeclaration_30 : decode cX0_putDeclaration 30 = .ok (.aload_n 0, 1) := by decide +kernel
theorem dX0_putDeclaration_31 : decode cX0_putDeclaration 31 = .ok (.dup, 1) := by decide +kernel
theorem dX0_putDeclaration_32 : decode cX0_putDeclaration 32 = .ok (.getfield 19, 3) := by decide +kernel
theorem dX0_putDeclaration_35 : decode cX0_putDeclaration 35 = .ok (.dup_x1, 1) := by decide +kernel
theorem dX0_putDeclaration_36 : decode cX0_putDeclaration 36 = .ok (.iconst 1, 1) := by decide +kernel
theorem dX0_putDeclaration_37 : decode cX0_putDeclaration 37 = .ok (.iadd, 1) := by decide +kernel
theorem dX0_putDeclaration_38 : decode cX0_putDeclaration 38 = .ok (.putfield 19, 3) := by decide +kernel
theorem dX0_putDeclaration_41 : decode cX0_putDeclaration 41 = .ok (.ireturn, 1) := by decide +kernel
theorem dX0_refusalOfImport_0 : decode cX0_refusalOfImport 0 = .ok (.aload_n 0, 1) := by decide +kernel
theorem dX0_refusalOfImport_1 : decode cX0_refusalOfImport 1 = .ok (.iload_n 1, 1) := by decide +kernel
theorem dX0_refusalOfImport_2 : decode cX0_refusalOfImport 2 = .ok (.invokevirtual 96, 3) := by decide +kernel
theorem dX0_refusalOfImport_5 : decode cX0_refusalOfImport 5 = .ok (.ifCond .eq 11, 3) := by decide +kernel
theorem dX0_refusalOfImport_8 : decode cX0_refusalOfImport 8 = .ok (.aload_n 0, 1) := by decide +kernel
theorem dX0_refusalOfImport_9 : decode cX0_refusalOfImport 9 = .ok (.iload_n 2, 1) := by decide +kernel
theorem dX0_refusalOfImport_10 : decode cX0_refusalOfImport 10 = .ok (.invokevirtual 96, 3) := by decide +kernel
theorem dX0_refusalOfImport_13 : decode cX0_refusalOfImport 13 = .ok (.ifCond .ne 5, 3) := by decide +kernel
theorem dX0_refusalOfImport_16 : decode cX0_refusalOfImport 16 = .ok (.iconst 1, 1) := by decide +kernel
theorem dX0_refusalOfImport_17 : decode cX0_refusalOfImport 17 = .ok (.ireturn, 1) := by decide +kernel
theorem dX0_refusalOfImport_18 : decode cX0_refusalOfImport 18 = .ok (.iload_n 1, 1) := by decide +kernel
theorem dX0_refusalOfImport_19 : decode cX0_refusalOfImport 19 = .ok (.iload_n 2, 1) := by decide +kernel
theorem dX0_refusalOfImport_20 : decode cX0_refusalOfImport 20 = .ok (.if_icmp .eq 7, 3) := by decide +kernel
theorem dX0_refusalOfImport_23 : decode cX0_refusalOfImport 23 = .ok (.iload_n 3, 1) := by decide +kernel
theorem dX0_refusalOfImport_24 : decode cX0_refusalOfImport 24 = .ok (.ifCond .ne 5, 3) := by decide +kernel
theorem dX0_refusalOfImport_27 : decode cX0_refusalOfImport 27 = .ok (.iconst 2, 1) := by decide +kernel
theorem dX0_refusalOfImport_28 : decode cX0_refusalOfImport 28 = .ok (.ireturn, 1) := by decide +kernel
theorem dX0_refusalOfImport_29 : decode cX0_refusalOfImport 29 = .ok (.aload_n 0, 1) := by decide +kernel
theorem dX0_refusalOfImport_30 : decode cX0_refusalOfImport 30 = .ok (.getfield 31, 3) := by decide +kernel
theorem dX0_refusalOfImport_33 : decode cX0_refusalOfImport 33 = .ok (.bipush 20, 2) := by decide +kernel
theorem dX0_refusalOfImport_35 : decode cX0_refusalOfImport 35 = .ok (.if_icmp .lt 7, 3) := by decide +kernel
theorem dX0_refusalOfImport_38 : decode cX0_refusalOfImport 38 = .ok (.iconst 3, 1) := by decide +kernel
theorem dX0_refusalOfImport_39 : decode cX0_refusalOfImport 39 = .ok (.goto 4, 3) := by decide +kernel
theorem dX0_refusalOfImport_42 : decode cX0_refusalOfImport 42 = .ok (.iconst 0, 1) := by decide +kernel
theorem dX0_refusalOfImport_43 : decode cX0_refusalOfImport 43 = .ok (.ireturn, 1) := by decide +kernel
theorem dX0_putImport_0 : decode cX0_putImport 0 = .ok (.aload_n 0, 1) := by decide +kernel
theorem dX0_putImport_1 : decode cX0_putImport 1 = .ok (.getfield 34, 3) := by decide +kernel
theorem dX0_putImport_4 : decode cX0_putImport 4 = .ok (.aload_n 0, 1) := by decide +kernel
theorem dX0_putImport_5 : decode cX0_putImport 5 = .ok (.getfield 31, 3) := by decide +kernel
theorem dX0_putImport_8 : decode cX0_putImport 8 = .ok (.iload_n 1, 1) := by decide +kernel
theorem dX0_putImport_9 : decode cX0_putImport 9 = .ok (.iastore, 1) := by decide +kernel
theorem dX0_putImport_10 : decode cX0_putImport 10 = .ok (.aload_n 0, 1) := by decide +kernel
theorem dX0_putImport_11 : decode cX0_putImport 11 = .ok (.getfield 37, 3) := by decide +kernel
theorem dX0_putImport_14 : decode cX0_putImport 14 = .ok (.aload_n 0, 1) := by decide +kernel
theorem dX0_putImport_15 : decode cX0_putImport 15 = .ok (.getfield 31, 3) := by decide +kernel
theorem dX0_putImport_18 : decode cX0_putImport 18 = .ok (.iload_n 2, 1) := by decide +kernel
theorem dX0_putImport_19 : decode cX0_putImport 19 = .ok (.iastore, 1) := by decide +kernel
theorem dX0_putImport_20 : decode cX0_putImport 20 = .ok (.aload_n 0, 1) := by decide +kernel
theorem dX0_putImport_21 : decode cX0_putImport 21 = .ok (.getfield 40, 3) := by decide +kernel
theorem dX0_putImport_24 : decode cX0_putImport 24 = .ok (.aload_n 0, 1) := by decide +kernel
theorem dX0_putImport_25 : decode cX0_putImport 25 = .ok (.getfield 31, 3) := by decide +kernel
theorem dX0_putImport_28 : decode cX0_putImport 28 = .ok (.iload_n 3, 1) := by decide +kernel
theorem dX0_putImport_29 : decode cX0_putImport 29 = .ok (.iastore, 1) := by decide +kernel
theorem dX0_putImport_30 : decode cX0_putImport 30 = .ok (.aload_n 0, 1) := by decide +kernel
theorem dX0_putImport_31 : decode cX0_putImport 31 = .ok (.getfield 43, 3) := by decide +kernel
theorem dX0_putImport_34 : decode cX0_putImport 34 = .ok (.aload_n 0, 1) := by decide +kernel
theorem dX0_putImport_35 : decode cX0_putImport 35 = .ok (.getfield 31, 3) := by decide +kernel
theorem dX0_putImport_38 : decode cX0_putImport 38 = .ok (.iload 4, 2) := by decide +kernel
theorem dX0_putImport_40 : decode cX0_putImport 40 = .ok (.iastore, 1) := by decide +kernel
theorem dX0_putImport_41 : decode cX0_putImport 41 = .ok (.aload_n 0, 1) := by decide +kernel
theorem dX0_putImport_42 : decode cX0_putImport 42 = .ok (.getfield 46, 3) := by decide +kernel
theorem dX0_putImport_45 : decode cX0_putImport 45 = .ok (.aload_n 0, 1) := by decide +kernel
theorem dX0_putImport_46 : decode cX0_putImport 46 = .ok (.getfield 31, 3) := by decide +kernel
theorem dX0_putImport_49 : decode cX0_putImport 49 = .ok (.iload 5, 2) := by decide +kernel
theorem dX0_putImport_51 : decode cX0_putImport 51 = .ok (.iastore, 1) := by decide +kernel
theorem dX0_putImport_52 : decode cX0_putImport 52 = .ok (.aload_n 0, 1) := by decide +kernel
theorem dX0_putImport_53 : decode cX0_putImport 53 = .ok (.getfield 49, 3) := by decide +kernel
theorem dX0_putImport_56 : decode cX0_putImport 56 = .ok (.aload_n 0, 1) := by decide +kernel
theorem dX0_putImport_57 : decode cX0_putImport 57 = .ok (.getfield 31, 3) := by decide +kernel
theorem dX0_putImport_60 : decode cX0_putImport 60 = .ok (.iload 6, 2) := by decide +kernel
theorem dX0_putImport_62 : decode cX0_putImport 62 = .ok (.iastore, 1) := by decide +kernel
theorem dX0_putImport_63 : decode cX0_putImport 63 = .ok (.aload_n 0, 1) := by decide +kernel
theorem dX0_putImport_64 : decode cX0_putImport 64 = .ok (.dup, 1) := by decide +kernel
theorem dX0_putImport_65 : decode cX0_putImport 65 = .ok (.getfield 31, 3) := by decide +kernel
theorem dX0_putImport_68 : decode cX0_putImport 68 = .ok (.dup_x1, 1) := by decide +kernel
theorem dX0_putImport_69 : decode cX0_putImport 69 = .ok (.iconst 1, 1) := by decide +kernel
theorem dX0_putImport_70 : decode cX0_putImport 70 = .ok (.iadd, 1) := by decide +kernel
theorem dX0_putImport_71 : decode cX0_putImport 71 = .ok (.putfield 31, 3) := by decide +kernel
theorem dX0_putImport_74 : decode cX0_putImport 74 = .ok (.ireturn, 1) := by decide +kernel
theorem dX0_refusalOfUse_0 : decode cX0_refusalOfUse 0 = .ok (.aload_n 0, 1) := by decide +kernel
theorem dX0_refusalOfUse_1 : decode cX0_refusalOfUse 1 = .ok (.iload_n 1, 1) := by decide +kernel
theorem dX0_refusalOfUse_2 : decode cX0_refusalOfUse 2 = .ok (.invokevirtual 96, 3) := by decide +kernel
theorem dX0_refusalOfUse_5 : decode cX0_refusalOfUse 5 = .ok (.ifCond .ne 5, 3) := by decide +kernel
theorem dX0_refusalOfUse_8 : decode cX0_refusalOfUse 8 = .ok (.iconst 1, 1) := by decide +kernel
theorem dX0_refusalOfUse_9 : decode cX0_refusalOfUse 9 = .ok (.ireturn, 1) := by decide +kernel
theorem dX0_refusalOfUse_10 : decode cX0_refusalOfUse 10 = .ok (.iload_n 2, 1) := by decide +kernel
theorem dX0_refusalOfUse_11 : decode cX0_refusalOfUse 11 = .ok (.invokestatic 100, 3) := by decide +kernel
theorem dX0_refusalOfUse_14 : decode cX0_refusalOfUse 14 = .ok (.ifCond .ne 5, 3) := by decide +kernel
theorem dX0_refusalOfUse_17 : decode cX0_refusalOfUse 17 = .ok (.iconst 2, 1) := by decide +kernel
theorem dX0_refusalOfUse_18 : decode cX0_refusalOfUse 18 = .ok (.ireturn, 1) := by decide +kernel
theorem dX0_refusalOfUse_19 : decode cX0_refusalOfUse 19 = .ok (.aload_n 0, 1) := by decide +kernel
theorem dX0_refusalOfUse_20 : decode cX0_refusalOfUse 20 = .ok (.getfield 52, 3) := by decide +kernel
theorem dX0_refusalOfUse_23 : decode cX0_refusalOfUse 23 = .ok (.bipush 30, 2) := by decide +kernel
theorem dX0_refusalOfUse_25 : decode cX0_refusalOfUse 25 = .ok (.if_icmp .lt 7, 3) := by decide +kernel
theorem dX0_refusalOfUse_28 : decode cX0_refusalOfUse 28 = .ok (.iconst 3, 1) := by decide +kernel
theorem dX0_refusalOfUse_29 : decode cX0_refusalOfUse 29 = .ok (.goto 4, 3) := by decide +kernel
theorem dX0_refusalOfUse_32 : decode cX0_refusalOfUse 32 = .ok (.iconst 0, 1) := by decide +kernel
theorem dX0_refusalOfUse_33 : decode cX0_refusalOfUse 33 = .ok (.ireturn, 1) := by decide +kernel
theorem dX0_putUse_0 : decode cX0_putUse 0 = .ok (.aload_n 0, 1) := by decide +kernel
theorem dX0_putUse_1 : decode cX0_putUse 1 = .ok (.getfield 55, 3) := by decide +kernel
theorem dX0_putUse_4 : decode cX0_putUse 4 = .ok (.aload_n 0, 1) := by decide +kernel
theorem dX0_putUse_5 : decode cX0_putUse 5 = .ok (.getfield 52, 3) := by decide +kernel
theorem dX0_putUse_8 : decode cX0_putUse 8 = .ok (.iload_n 1, 1) := by decide +kernel
theorem dX0_putUse_9 : decode cX0_putUse 9 = .ok (.iastore, 1) := by decide +kernel
theorem dX0_putUse_10 : decode cX0_putUse 10 = .ok (.aload_n 0, 1) := by decide +kernel
theorem dX0_putUse_11 : decode cX0_putUse 11 = .ok (.getfield 58, 3) := by decide +kernel
theorem dX0_putUse_14 : decode cX0_putUse 14 = .ok (.aload_n 0, 1) := by decide +kernel
theorem dX0_putUse_15 : decode cX0_putUse 15 = .ok (.getfield 52, 3) := by decide +kernel
theorem dX0_putUse_18 : decode cX0_putUse 18 = .ok (.iload_n 2, 1) := by decide +kernel
theorem dX0_putUse_19 : decode cX0_putUse 19 = .ok (.iastore, 1) := by decide +kernel
theorem dX0_putUse_20 : decode cX0_putUse 20 = .ok (.aload_n 0, 1) := by decide +kernel
theorem dX0_putUse_21 : decode cX0_putUse 21 = .ok (.dup, 1) := by decide +kernel
theorem dX0_putUse_22 : decode cX0_putUse 22 = .ok (.getfield 52, 3) := by decide +kernel
theorem dX0_putUse_25 : decode cX0_putUse 25 = .ok (.dup_x1, 1) := by decide +kernel
theorem dX0_putUse_26 : decode cX0_putUse 26 = .ok (.iconst 1, 1) := by decide +kernel
theorem dX0_putUse_27 : decode cX0_putUse 27 = .ok (.iadd, 1) := by decide +kernel
theorem dX0_putUse_28 : decode cX0_putUse 28 = .ok (.putfield 52, 3) := by decide +kernel
theorem dX0_putUse_31 : decode cX0_putUse 31 = .ok (.ireturn, 1) := by decide +kernel
theorem dX0_closeGap_0 : decode cX0_closeGap 0 = .ok (.aload_n 0, 1) := by decide +kernel
theorem dX0_closeGap_1 : decode cX0_closeGap 1 = .ok (.iload_n 1, 1) := by decide +kernel
theorem dX0_closeGap_2 : decode cX0_closeGap 2 = .ok (.iconst 1, 1) := by decide +kernel
theorem dX0_closeGap_3 : decode cX0_closeGap 3 = .ok (.iadd, 1) := by decide +kernel
theorem dX0_closeGap_4 : decode cX0_closeGap 4 = .ok (.aload_n 0, 1) := by decide +kernel
theorem dX0_closeGap_5 : decode cX0_closeGap 5 = .ok (.iload_n 1, 1) := by decide +kernel
theorem dX0_closeGap_6 : decode cX0_closeGap 6 = .ok (.iload_n 2, 1) := by decide +kernel
theorem dX0_closeGap_7 : decode cX0_closeGap 7 = .ok (.iload_n 1, 1) := by decide +kernel
theorem dX0_closeGap_8 : decode cX0_closeGap 8 = .ok (.isub, 1) := by decide +kernel
theorem dX0_closeGap_9 : decode cX0_closeGap 9 = .ok (.iconst 1, 1) := by decide +kernel
theorem dX0_closeGap_10 : decode cX0_closeGap 10 = .ok (.isub, 1) := by decide +kernel
theorem dX0_closeGap_11 : decode cX0_closeGap 11 = .ok (.invokestatic 71, 3) := by decide +kernel
theorem dX0_closeGap_14 : decode cX0_closeGap 14 = .ok (.return_, 1) := by decide +kernel
theorem dX0_dropDeclaration_0 : decode cX0_dropDeclaration 0 = .ok (.aload_n 0, 1) := by decide +kernel
theorem dX0_dropDeclaration_1 : decode cX0_dropDeclaration 1 = .ok (.getfield 22, 3) := by decide +kernel
theorem dX0_dropDeclaration_4 : decode cX0_dropDeclaration 4 = .ok (.iload_n 1, 1) := by decide +kernel
theorem dX0_dropDeclaration_5 : decode cX0_dropDeclaration 5 = .ok (.aload_n 0, 1) := by decide +kernel
theorem dX0_dropDeclaration_6 : decode cX0_dropDeclaration 6 = .ok (.getfield 19, 3) := by decide +kernel
theorem dX0_dropDeclaration_9 : decode cX0_dropDeclaration 9 = .ok (.invokestatic 107, 3) := by decide +kernel
theorem dX0_dropDeclaration_12 : decode cX0_dropDeclaration 12 = .ok (.aload_n 0, 1) := by decide +kernel
theorem dX0_dropDeclaration_13 : decode cX0_dropDeclaration 13 = .ok (.getfield 25, 3) := by decide +kernel
theorem dX0_dropDeclaration_16 : decode cX0_dropDeclaration 16 = .ok (.iload_n 1, 1) := by decide +kernel
theorem dX0_dropDeclaration_17 : decode cX0_dropDeclaration 17 = .ok (.aload_n 0, 1) := by decide +kernel
theorem dX0_dropDeclaration_18 : decode cX0_dropDeclaration 18 = .ok (.getfield 19, 3) := by decide +kernel
theorem dX0_dropDeclaration_21 : decode cX0_dropDeclaration 21 = .ok (.invokestatic 107, 3) := by decide +kernel
theorem dX0_dropDeclaration_24 : decode cX0_dropDeclaration 24 = .ok (.aload_n 0, 1) := by decide +kernel
theorem dX0_dropDeclaration_25 : decode cX0_dropDeclaration 25 = .ok (.getfield 28, 3) := by decide +kernel
theorem dX0_dropDeclaration_28 : decode cX0_dropDeclaration 28 = .ok (.iload_n 1, 1) := by decide +kernel
theorem dX0_dropDeclaration_29 : decode cX0_dropDeclaration 29 = .ok (.aload_n 0, 1) := by decide +kernel
theorem dX0_dropDeclaration_30 : decode cX0_dropDeclaration 30 = .ok (.getfield 19, 3) := by decide +kernel
theorem dX0_dropDeclaration_33 : decode cX0_dropDeclaration 33 = .ok (.invokestatic 107, 3) := by decide +kernel
theorem dX0_dropDeclaration_36 : decode cX0_dropDeclaration 36 = .ok (.aload_n 0, 1) := by decide +kernel
theorem dX0_dropDeclaration_37 : decode cX0_dropDeclaration 37 = .ok (.dup, 1) := by decide +kernel
theorem dX0_dropDeclaration_38 : decode cX0_dropDeclaration 38 = .ok (.getfield 19, 3) := by decide +kernel
theorem dX0_dropDeclaration_41 : decode cX0_dropDeclaration 41 = .ok (.iconst 1, 1) := by decide +kernel
theorem dX0_dropDeclaration_42 : decode cX0_dropDeclaration 42 = .ok (.isub, 1) := by decide +kernel
theorem dX0_dropDeclaration_43 : decode cX0_dropDeclaration 43 = .ok (.putfield 19, 3) := by decide +kernel
theorem dX0_dropDeclaration_46 : decode cX0_dropDeclaration 46 = .ok (.return_, 1) := by decide +kernel
theorem dX0_dropImport_0 : decode cX0_dropImport 0 = .ok (.aload_n 0, 1) := by decide +kernel
theorem dX0_dropImport_1 : decode cX0_dropImport 1 = .ok (.getfield 34, 3) := by decide +kernel
theorem dX0_dropImport_4 : decode cX0_dropImport 4 = .ok (.iload_n 1, 1) := by decide +kernel
theorem dX0_dropImport_5 : decode cX0_dropImport 5 = .ok (.aload_n 0, 1) := by decide +kernel
theorem dX0_dropImport_6 : decode cX0_dropImport 6 = .ok (.getfield 31, 3) := by decide +kernel
theorem dX0_dropImport_9 : decode cX0_dropImport 9 = .ok (.invokestatic 107, 3) := by decide +kernel
theorem dX0_dropImport_12 : decode cX0_dropImport 12 = .ok (.aload_n 0, 1) := by decide +kernel
theorem dX0_dropImport_13 : decode cX0_dropImport 13 = .ok (.getfield 37, 3) := by decide +kernel
theorem dX0_dropImport_16 : decode cX0_dropImport 16 = .ok (.iload_n 1, 1) := by decide +kernel
theorem dX0_dropImport_17 : decode cX0_dropImport 17 = .ok (.aload_n 0, 1) := by decide +kernel
theorem dX0_dropImport_18 : decode cX0_dropImport 18 = .ok (.getfield 31, 3) := by decide +kernel
theorem dX0_dropImport_21 : decode cX0_dropImport 21 = .ok (.invokestatic 107, 3) := by decide +kernel
theorem dX0_dropImport_24 : decode cX0_dropImport 24 = .ok (.aload_n 0, 1) := by decide +kernel
theorem dX0_dropImport_25 : decode cX0_dropImport 25 = .ok (.getfield 40, 3) := by decide +kernel
theorem dX0_dropImport_28 : decode cX0_dropImport 28 = .ok (.iload_n 1, 1) := by decide +kernel
theorem dX0_dropImport_29 : decode cX0_dropImport 29 = .ok (.aload_n 0, 1) := by decide +kernel
theorem dX0_dropImport_30 : decode cX0_dropImport 30 = .ok (.getfield 31, 3) := by decide +kernel
theorem dX0_dropImport_33 : decode cX0_dropImport 33 = .ok (.invokestatic 107, 3) := by decide +kernel
theorem dX0_dropImport_36 : decode cX0_dropImport 36 = .ok (.aload_n 0, 1) := by decide +kernel
theorem dX0_dropImport_37 : decode cX0_dropImport 37 = .ok (.getfield 43, 3) := by decide +kernel
theorem dX0_dropImport_40 : decode cX0_dropImport 40 = .ok (.iload_n 1, 1) := by decide +kernel
theorem dX0_dropImport_41 : decode cX0_dropImport 41 = .ok (.aload_n 0, 1) := by decide +kernel
theorem dX0_dropImport_42 : decode cX0_dropImport 42 = .ok (.getfield 31, 3) := by decide +kernel
theorem dX0_dropImport_45 : decode cX0_dropImport 45 = .ok (.invokestatic 107, 3) := by decide +kernel
theorem dX0_dropImport_48 : decode cX0_dropImport 48 = .ok (.aload_n 0, 1) := by decide +kernel
theorem dX0_dropImport_49 : decode cX0_dropImport 49 = .ok (.getfield 46, 3) := by decide +kernel
theorem dX0_dropImport_52 : decode cX0_dropImport 52 = .ok (.iload_n 1, 1) := by decide +kernel
theorem dX0_dropImport_53 : decode cX0_dropImport 53 = .ok (.aload_n 0, 1) := by decide +kernel
theorem dX0_dropImport_54 : decode cX0_dropImport 54 = .ok (.getfield 31, 3) := by decide +kernel
theorem dX0_dropImport_57 : decode cX0_dropImport 57 = .ok (.invokestatic 107, 3) := by decide +kernel
theorem dX0_dropImport_60 : decode cX0_dropImport 60 = .ok (.aload_n 0, 1) := by decide +kernel
theorem dX0_dropImport_61 : decode cX0_dropImport 61 = .ok (.getfield 49, 3) := by decide +kernel
theorem dX0_dropImport_64 : decode cX0_dropImport 64 = .ok (.iload_n 1, 1) := by decide +kernel
theorem dX0_dropImport_65 : decode cX0_dropImport 65 = .ok (.aload_n 0, 1) := by decide +kernel
theorem dX0_dropImport_66 : decode cX0_dropImport 66 = .ok (.getfield 31, 3) := by decide +kernel
theorem dX0_dropImport_69 : decode cX0_dropImport 69 = .ok (.invokestatic 107, 3) := by decide +kernel
theorem dX0_dropImport_72 : decode cX0_dropImport 72 = .ok (.aload_n 0, 1) := by decide +kernel
theorem dX0_dropImport_73 : decode cX0_dropImport 73 = .ok (.dup, 1) := by decide +kernel
theorem dX0_dropImport_74 : decode cX0_dropImport 74 = .ok (.getfield 31, 3) := by decide +kernel
theorem dX0_dropImport_77 : decode cX0_dropImport 77 = .ok (.iconst 1, 1) := by decide +kernel
theorem dX0_dropImport_78 : decode cX0_dropImport 78 = .ok (.isub, 1) := by decide +kernel
theorem dX0_dropImport_79 : decode cX0_dropImport 79 = .ok (.putfield 31, 3) := by decide +kernel
theorem dX0_dropImport_82 : decode cX0_dropImport 82 = .ok (.return_, 1) := by decide +kernel
theorem dX0_dropUse_0 : decode cX0_dropUse 0 = .ok (.aload_n 0, 1) := by decide +kernel
theorem dX0_dropUse_1 : decode cX0_dropUse 1 = .ok (.getfield 55, 3) := by decide +kernel
theorem dX0_dropUse_4 : decode cX0_dropUse 4 = .ok (.iload_n 1, 1) := by decide +kernel
theorem dX0_dropUse_5 : decode cX0_dropUse 5 = .ok (.aload_n 0, 1) := by decide +kernel
theorem dX0_dropUse_6 : decode cX0_dropUse 6 = .ok (.getfield 52, 3) := by decide +kernel
theorem dX0_dropUse_9 : decode cX0_dropUse 9 = .ok (.invokestatic 107, 3) := by decide +kernel
theorem dX0_dropUse_12 : decode cX0_dropUse 12 = .ok (.aload_n 0, 1) := by decide +kernel
theorem dX0_dropUse_13 : decode cX0_dropUse 13 = .ok (.getfield 58, 3) := by decide +kernel
theorem dX0_dropUse_16 : decode cX0_dropUse 16 = .ok (.iload_n 1, 1) := by decide +kernel
theorem dX0_dropUse_17 : decode cX0_dropUse 17 = .ok (.aload_n 0, 1) := by decide +kernel
theorem dX0_dropUse_18 : decode cX0_dropUse 18 = .ok (.getfield 52, 3) := by decide +kernel
theorem dX0_dropUse_21 : decode cX0_dropUse 21 = .ok (.invokestatic 107, 3) := by decide +kernel
theorem dX0_dropUse_24 : decode cX0_dropUse 24 = .ok (.aload_n 0, 1) := by decide +kernel
theorem dX0_dropUse_25 : decode cX0_dropUse 25 = .ok (.dup, 1) := by decide +kernel
theorem dX0_dropUse_26 : decode cX0_dropUse 26 = .ok (.getfield 52, 3) := by decide +kernel
theorem dX0_dropUse_29 : decode cX0_dropUse 29 = .ok (.iconst 1, 1) := by decide +kernel
theorem dX0_dropUse_30 : decode cX0_dropUse 30 = .ok (.isub, 1) := by decide +kernel
theorem dX0_dropUse_31 : decode cX0_dropUse 31 = .ok (.putfield 52, 3) := by decide +kernel
theorem dX0_dropUse_34 : decode cX0_dropUse 34 = .ok (.return_, 1) := by decide +kernel
theorem dX0_giveName_0 : decode cX0_giveName 0 = .ok (.aload_n 0, 1) := by decide +kernel
theorem dX0_giveName_1 : decode cX0_giveName 1 = .ok (.getfield 25, 3) := by decide +kernel
theorem dX0_giveName_4 : decode cX0_giveName 4 = .ok (.iload_n 1, 1) := by decide +kernel
theorem dX0_giveName_5 : decode cX0_giveName 5 = .ok (.iaload, 1) := by decide +kernel
theorem dX0_giveName_6 : decode cX0_giveName 6 = .ok (.istore 4, 2) := by decide +kernel
theorem dX0_giveName_8 : decode cX0_giveName 8 = .ok (.iconst 0, 1) := by decide +kernel
theorem dX0_giveName_9 : decode cX0_giveName 9 = .ok (.istore 5, 2) := by decide +kernel
theorem dX0_giveName_11 : decode cX0_giveName 11 = .ok (.iload 5, 2) := by decide +kernel
theorem dX0_giveName_13 : decode cX0_giveName 13 = .ok (.aload_n 0, 1) := by decide +kernel
theorem dX0_giveName_14 : decode cX0_giveName 14 = .ok (.getfield 31, 3) := by decide +kernel
theorem dX0_giveName_17 : decode cX0_giveName 17 = .ok (.if_icmp .ge 135, 3) := by decide +kernel
theorem dX0_giveName_20 : decode cX0_giveName 20 = .ok (.aload_n 3, 1) := by decide +kernel
theorem dX0_giveName_21 : decode cX0_giveName 21 = .ok (.getfield 67, 3) := by decide +kernel
theorem dX0_giveName_24 : decode cX0_giveName 24 = .ok (.getfield 111, 3) := by decide +kernel
theorem dX0_giveName_27 : decode cX0_giveName 27 = .ok (.aload_n 0, 1) := by decide +kernel
theorem dX0_giveName_28 : decode cX0_giveName 28 = .ok (.getfield 37, 3) := by decide +kernel
theorem dX0_giveName_31 : decode cX0_giveName 31 = .ok (.iload 5, 2) := by decide +kernel
theorem dX0_giveName_33 : decode cX0_giveName 33 = .ok (.iaload, 1) := by decide +kernel
theorem dX0_giveName_34 : decode cX0_giveName 34 = .ok (.bipush 26, 2) := by decide +kernel
theorem dX0_giveName_36 : decode cX0_giveName 36 = .ok (.imul, 1) := by decide +kernel
theorem dX0_giveName_37 : decode cX0_giveName 37 = .ok (.iload 4, 2) := by decide +kernel
theorem dX0_giveName_39 : decode cX0_giveName 39 = .ok (.iadd, 1) := by decide +kernel
theorem dX0_giveName_40 : decode cX0_giveName 40 = .ok (.iaload, 1) := by decide +kernel
theorem dX0_giveName_41 : decode cX0_giveName 41 = .ok (.iload_n 1, 1) := by decide +kernel
theorem dX0_giveName_42 : decode cX0_giveName 42 = .ok (.ishr, 1) := by decide +kernel
theorem dX0_giveName_43 : decode cX0_giveName 43 = .ok (.iconst 1, 1) := by decide +kernel
theorem dX0_giveName_44 : decode cX0_giveName 44 = .ok (.iand, 1) := by decide +kernel
theorem dX0_giveName_45 : decode cX0_giveName 45 = .ok (.ifCond .eq 7, 3) := by decide +kernel
theorem dX0_giveName_48 : decode cX0_giveName 48 = .ok (.iconst 1, 1) := by decide +kernel
theorem dX0_giveName_49 : decode cX0_giveName 49 = .ok (.goto 4, 3) := by decide +kernel
theorem dX0_giveName_52 : decode cX0_giveName 52 = .ok (.iconst 0, 1) := by decide +kernel
theorem dX0_giveName_53 : decode cX0_giveName 53 = .ok (.istore 6, 2) := by decide +kernel
theorem dX0_giveName_55 : decode cX0_giveName 55 = .ok (.iload 6, 2) := by decide +kernel
theorem dX0_giveName_57 : decode cX0_giveName 57 = .ok (.ifCond .eq 56, 3) := by decide +kernel
theorem dX0_giveName_60 : decode cX0_giveName 60 = .ok (.aload_n 0, 1) := by decide +kernel
theorem dX0_giveName_61 : decode cX0_giveName 61 = .ok (.getfield 40, 3) := by decide +kernel
theorem dX0_giveName_64 : decode cX0_giveName 64 = .ok (.iload 5, 2) := by decide +kernel
theorem dX0_giveName_66 : decode cX0_giveName 66 = .ok (.iaload, 1) := by decide +kernel
theorem dX0_giveName_67 : decode cX0_giveName 67 = .ok (.iload 4, 2) := by decide +kernel
theorem dX0_giveName_69 : decode cX0_giveName 69 = .ok (.if_icmp .ne 44, 3) := by decide +kernel
theorem dX0_giveName_72 : decode cX0_giveName 72 = .ok (.aload_n 0, 1) := by decide +kernel
theorem dX0_giveName_73 : decode cX0_giveName 73 = .ok (.getfield 40, 3) := by decide +kernel
theorem dX0_giveName_76 : decode cX0_giveName 76 = .ok (.iload 5, 2) := by decide +kernel
theorem dX0_giveName_78 : decode cX0_giveName 78 = .ok (.iload_n 2, 1) := by decide +kernel
theorem dX0_giveName_79 : decode cX0_giveName 79 = .ok (.iastore, 1) := by decide +kernel
theorem dX0_giveName_80 : decode cX0_giveName 80 = .ok (.aload_n 0, 1) := by decide +kernel
theorem dX0_giveName_81 : decode cX0_giveName 81 = .ok (.getfield 43, 3) := by decide +kernel
theorem dX0_giveName_84 : decode cX0_giveName 84 = .ok (.iload 5, 2) := by decide +kernel
theorem dX0_giveName_86 : decode cX0_giveName 86 = .ok (.aload_n 0, 1) := by decide +kernel
theorem dX0_giveName_87 : decode cX0_giveName 87 = .ok (.getfield 43, 3) := by decide +kernel
theorem dX0_giveName_90 : decode cX0_giveName 90 = .ok (.iload 5, 2) := by decide +kernel
theorem dX0_giveName_92 : decode cX0_giveName 92 = .ok (.iaload, 1) := by decide +kernel
theorem dX0_giveName_93 : decode cX0_giveName 93 = .ok (.iload 4, 2) := by decide +kernel
theorem dX0_giveName_95 : decode cX0_giveName 95 = .ok (.if_icmp .ne 7, 3) := by decide +kernel
theorem dX0_giveName_98 : decode cX0_giveName 98 = .ok (.iload_n 2, 1) := by decide +kernel
theorem dX0_giveName_99 : decode cX0_giveName 99 = .ok (.goto 10, 3) := by decide +kernel
theorem dX0_giveName_102 : decode cX0_giveName 102 = .ok (.aload_n 0, 1) := by decide +kernel
theorem dX0_giveName_103 : decode cX0_giveName 103 = .ok (.getfield 43, 3) := by decide +kernel
theorem dX0_giveName_106 : decode cX0_giveName 106 = .ok (.iload 5, 2) := by decide +kernel
theorem dX0_giveName_108 : decode cX0_giveName 108 = .ok (.iaload, 1) := by decide +kernel
theorem dX0_giveName_109 : decode cX0_giveName 109 = .ok (.iastore, 1) := by decide +kernel
theorem dX0_giveName_110 : decode cX0_giveName 110 = .ok (.goto 36, 3) := by decide +kernel
theorem dX0_giveName_113 : decode cX0_giveName 113 = .ok (.iload 6, 2) := by decide +kernel
theorem dX0_giveName_115 : decode cX0_giveName 115 = .ok (.ifCond .eq 31, 3) := by decide +kernel
theorem dX0_giveName_118 : decode cX0_giveName 118 = .ok (.aload_n 0, 1) := by decide +kernel
theorem dX0_giveName_119 : decode cX0_giveName 119 = .ok (.getfield 46, 3) := by decide +kernel
theorem dX0_giveName_122 : decode cX0_giveName 122 = .ok (.iload 5, 2) := by decide +kernel
theorem dX0_giveName_124 : decode cX0_giveName 124 = .ok (.iaload, 1) := by decide +kernel
theorem dX0_giveName_125 : decode cX0_giveName 125 = .ok (.iload 4, 2) := by decide +kernel
theorem dX0_giveName_127 : decode cX0_giveName 127 = .ok (.ishr, 1) := by decide +kernel
theorem dX0_giveName_128 : decode cX0_giveName 128 = .ok (.iconst 1, 1) := by decide +kernel
theorem dX0_giveName_129 : decode cX0_giveName 129 = .ok (.iand, 1) := by decide +kernel
theorem dX0_giveName_130 : decode cX0_giveName 130 = .ok (.ifCond .eq 16, 3) := by decide +kernel
theorem dX0_giveName_133 : decode cX0_giveName 133 = .ok (.aload_n 0, 1) := by decide +kernel
theorem dX0_giveName_134 : decode cX0_giveName 134 = .ok (.getfield 46, 3) := by decide +kernel
theorem dX0_giveName_137 : decode cX0_giveName 137 = .ok (.iload 5, 2) := by decide +kernel
theorem dX0_giveName_139 : decode cX0_giveName 139 = .ok (.dup2, 1) := by decide +kernel
theorem dX0_giveName_140 : decode cX0_giveName 140 = .ok (.iaload, 1) := by decide +kernel
theorem dX0_giveName_141 : decode cX0_giveName 141 = .ok (.iconst 1, 1) := by decide +kernel
theorem dX0_giveName_142 : decode cX0_giveName 142 = .ok (.iload_n 2, 1) := by decide +kernel
theorem dX0_giveName_143 : decode cX0_giveName 143 = .ok (.ishl, 1) := by decide +kernel
theorem dX0_giveName_144 : decode cX0_giveName 144 = .ok (.ior, 1) := by decide +kernel
theorem dX0_giveName_145 : decode cX0_giveName 145 = .ok (.iastore, 1) := by decide +kernel
theorem dX0_giveName_146 : decode cX0_giveName 146 = .ok (.iinc 5 1, 3) := by decide +kernel
theorem dX0_giveName_149 : decode cX0_giveName 149 = .ok (.goto (-138), 3) := by decide +kernel
theorem dX0_giveName_152 : decode cX0_giveName 152 = .ok (.iconst 0, 1) := by decide +kernel
theorem dX0_giveName_153 : decode cX0_giveName 153 = .ok (.istore 5, 2) := by decide +kernel
theorem dX0_giveName_155 : decode cX0_giveName 155 = .ok (.iload 5, 2) := by decide +kernel
theorem dX0_giveName_157 : decode cX0_giveName 157 = .ok (.aload_n 0, 1) := by decide +kernel
theorem dX0_giveName_158 : decode cX0_giveName 158 = .ok (.getfield 52, 3) := by decide +kernel
theorem dX0_giveName_161 : decode cX0_giveName 161 = .ok (.if_icmp .ge 27, 3) := by decide +kernel
theorem dX0_giveName_164 : decode cX0_giveName 164 = .ok (.aload_n 3, 1) := by decide +kernel
theorem dX0_giveName_165 : decode cX0_giveName 165 = .ok (.iload 5, 2) := by decide +kernel
theorem dX0_giveName_167 : decode cX0_giveName 167 = .ok (.iload_n 1, 1) := by decide +kernel
theorem dX0_giveName_168 : decode cX0_giveName 168 = .ok (.invokevirtual 114, 3) := by decide +kernel
theorem dX0_giveName_171 : decode cX0_giveName 171 = .ok (.ifCond .eq 11, 3) := by decide +kernel
theorem dX0_giveName_174 : decode cX0_giveName 174 = .ok (.aload_n 0, 1) := by decide +kernel
theorem dX0_giveName_175 : decode cX0_giveName 175 = .ok (.getfield 58, 3) := by decide +kernel
theorem dX0_giveName_178 : decode cX0_giveName 178 = .ok (.iload 5, 2) := by decide +kernel
theorem dX0_giveName_180 : decode cX0_giveName 180 = .ok (.iload_n 2, 1) := by decide +kernel
theorem dX0_giveName_181 : decode cX0_giveName 181 = .ok (.iastore, 1) := by decide +kernel
theorem dX0_giveName_182 : decode cX0_giveName 182 = .ok (.iinc 5 1, 3) := by decide +kernel
theorem dX0_giveName_185 : decode cX0_giveName 185 = .ok (.goto (-30), 3) := by decide +kernel
theorem dX0_giveName_188 : decode cX0_giveName 188 = .ok (.aload_n 0, 1) := by decide +kernel
theorem dX0_giveName_189 : decode cX0_giveName 189 = .ok (.getfield 25, 3) := by decide +kernel
theorem dX0_giveName_192 : decode cX0_giveName 192 = .ok (.iload_n 1, 1) := by decide +kernel
theorem dX0_giveName_193 : decode cX0_giveName 193 = .ok (.iload_n 2, 1) := by decide +kernel
theorem dX0_giveName_194 : decode cX0_giveName 194 = .ok (.iastore, 1) := by decide +kernel
theorem dX0_giveName_195 : decode cX0_giveName 195 = .ok (.return_, 1) := by decide +kernel
theorem dX0_followsRenaming_0 : decode cX0_followsRenaming 0 = .ok (.aload_n 0, 1) := by decide +kernel
theorem dX0_followsRenaming_1 : decode cX0_followsRenaming 1 = .ok (.getfield 58, 3) := by decide +kernel
theorem dX0_followsRenaming_4 : decode cX0_followsRenaming 4 = .ok (.iload_n 1, 1) := by decide +kernel
theorem dX0_followsRenaming_5 : decode cX0_followsRenaming 5 = .ok (.iaload, 1) := by decide +kernel
theorem dX0_followsRenaming_6 : decode cX0_followsRenaming 6 = .ok (.aload_n 0, 1) := by decide +kernel
theorem dX0_followsRenaming_7 : decode cX0_followsRenaming 7 = .ok (.getfield 25, 3) := by decide +kernel
theorem dX0_followsRenaming_10 : decode cX0_followsRenaming 10 = .ok (.iload_n 2, 1) := by decide +kernel
theorem dX0_followsRenaming_11 : decode cX0_followsRenaming 11 = .ok (.iaload, 1) := by decide +kernel
theorem dX0_followsRenaming_12 : decode cX0_followsRenaming 12 = .ok (.if_icmp .ne 18, 3) := by decide +kernel
theorem dX0_followsRenaming_15 : decode cX0_followsRenaming 15 = .ok (.aload_n 0, 1) := by decide +kernel
theorem dX0_followsRenaming_16 : decode cX0_followsRenaming 16 = .ok (.iload_n 1, 1) := by decide +kernel
theorem dX0_followsRenaming_17 : decode cX0_followsRenaming 17 = .ok (.invokevirtual 117, 3) := by decide +kernel
theorem dX0_followsRenaming_20 : decode cX0_followsRenaming 20 = .ok (.iconst 1, 1) := by decide +kernel
theorem dX0_followsRenaming_21 : decode cX0_followsRenaming 21 = .ok (.iload_n 2, 1) := by decide +kernel
theorem dX0_followsRenaming_22 : decode cX0_followsRenaming 22 = .ok (.ishl, 1) := by decide +kernel
theorem dX0_followsRenaming_23 : decode cX0_followsRenaming 23 = .ok (.if_icmp .ne 7, 3) := by decide +kernel
theorem dX0_followsRenaming_26 : decode cX0_followsRenaming 26 = .ok (.iconst 1, 1) := by decide +kernel
theorem dX0_followsRenaming_27 : decode cX0_followsRenaming 27 = .ok (.goto 4, 3) := by decide +kernel
theorem dX0_followsRenaming_30 : decode cX0_followsRenaming 30 = .ok (.iconst 0, 1) := by decide +kernel
theorem dX0_followsRenaming_31 : decode cX0_followsRenaming 31 = .ok (.ireturn, 1) := by decide +kernel
theorem dX0_firstLayer_0 : decode cX0_firstLayer 0 = .ok (.iload_n 1, 1) := by decide +kernel
theorem dX0_firstLayer_1 : decode cX0_firstLayer 1 = .ok (.istore_n 3, 1) := by decide +kernel
theorem dX0_firstLayer_2 : decode cX0_firstLayer 2 = .ok (.iconst 0, 1) := by decide +kernel
theorem dX0_firstLayer_3 : decode cX0_firstLayer 3 = .ok (.istore 4, 2) := by decide +kernel
theorem dX0_firstLayer_5 : decode cX0_firstLayer 5 = .ok (.iload 4, 2) := by decide +kernel
theorem dX0_firstLayer_7 : decode cX0_firstLayer 7 = .ok (.bipush 16, 2) := by decide +kernel
theorem dX0_firstLayer_9 : decode cX0_firstLayer 9 = .ok (.if_icmp .ge 101, 3) := by decide +kernel
theorem dX0_firstLayer_12 : decode cX0_firstLayer 12 = .ok (.iload_n 3, 1) := by decide +kernel
theorem dX0_firstLayer_13 : decode cX0_firstLayer 13 = .ok (.iconst (-1), 1) := by decide +kernel
theorem dX0_firstLayer_14 : decode cX0_firstLayer 14 = .ok (.if_icmp .eq 96, 3) := by decide +kernel
theorem dX0_firstLayer_17 : decode cX0_firstLayer 17 = .ok (.iload_n 3, 1) := by decide +kernel
theorem dX0_firstLayer_18 : decode cX0_firstLayer 18 = .ok (.bipush 26, 2) := by decide +kernel
theorem dX0_firstLayer_20 : decode cX0_firstLayer 20 = .ok (.imul, 1) := by decide +kernel
theorem dX0_firstLayer_21 : decode cX0_firstLayer 21 = .ok (.iload_n 2, 1) := by decide +kernel
theorem dX0_firstLayer_22 : decode cX0_firstLayer 22 = .ok (.iadd, 1) := by decide +kernel
theorem dX0_firstLayer_23 : decode cX0_firstLayer 23 = .ok (.istore 5, 2) := by decide +kernel
theorem dX0_firstLayer_25 : decode cX0_firstLayer 25 = .ok (.aload_n 0, 1) := by decide +kernel
theorem dX0_firstLayer_26 : decode cX0_firstLayer 26 = .ok (.getfield 67, 3) := by decide +kernel
theorem dX0_firstLayer_29 : decode cX0_firstLayer 29 = .ok (.getfield 121, 3) := by decide +kernel
theorem dX0_firstLayer_32 : decode cX0_firstLayer 32 = .ok (.iload 5, 2) := by decide +kernel
theorem dX0_firstLayer_34 : decode cX0_firstLayer 34 = .ok (.iaload, 1) := by decide +kernel
theorem dX0_firstLayer_35 : decode cX0_firstLayer 35 = .ok (.ifCond .eq 14, 3) := by decide +kernel
theorem dX0_firstLayer_38 : decode cX0_firstLayer 38 = .ok (.aload_n 0, 1) := by decide +kernel
theorem dX0_firstLayer_39 : decode cX0_firstLayer 39 = .ok (.getfield 67, 3) := by decide +kernel
theorem dX0_firstLayer_42 : decode cX0_firstLayer 42 = .ok (.getfield 121, 3) := by decide +kernel
theorem dX0_firstLayer_45 : decode cX0_firstLayer 45 = .ok (.iload 5, 2) := by decide +kernel
theorem dX0_firstLayer_47 : decode cX0_firstLayer 47 = .ok (.iaload, 1) := by decide +kernel
theorem dX0_firstLayer_48 : decode cX0_firstLayer 48 = .ok (.ireturn, 1) := by decide +kernel
theorem dX0_firstLayer_49 : decode cX0_firstLayer 49 = .ok (.aload_n 0, 1) := by decide +kernel
theorem dX0_firstLayer_50 : decode cX0_firstLayer 50 = .ok (.getfield 67, 3) := by decide +kernel
theorem dX0_firstLayer_53 : decode cX0_firstLayer 53 = .ok (.getfield 124, 3) := by decide +kernel
theorem dX0_firstLayer_56 : decode cX0_firstLayer 56 = .ok (.iload 5, 2) := by decide +kernel
theorem dX0_firstLayer_58 : decode cX0_firstLayer 58 = .ok (.iaload, 1) := by decide +kernel
theorem dX0_firstLayer_59 : decode cX0_firstLayer 59 = .ok (.ifCond .eq 14, 3) := by decide +kernel
theorem dX0_firstLayer_62 : decode cX0_firstLayer 62 = .ok (.aload_n 0, 1) := by decide +kernel
theorem dX0_firstLayer_63 : decode cX0_firstLayer 63 = .ok (.getfield 67, 3) := by decide +kernel
theorem dX0_firstLayer_66 : decode cX0_firstLayer 66 = .ok (.getfield 124, 3) := by decide +kernel
theorem dX0_firstLayer_69 : decode cX0_firstLayer 69 = .ok (.iload 5, 2) := by decide +kernel
theorem dX0_firstLayer_71 : decode cX0_firstLayer 71 = .ok (.iaload, 1) := by decide +kernel
theorem dX0_firstLayer_72 : decode cX0_firstLayer 72 = .ok (.ireturn, 1) := by decide +kernel
theorem dX0_firstLayer_73 : decode cX0_firstLayer 73 = .ok (.aload_n 0, 1) := by decide +kernel
theorem dX0_firstLayer_74 : decode cX0_firstLayer 74 = .ok (.getfield 67, 3) := by decide +kernel
theorem dX0_firstLayer_77 : decode cX0_firstLayer 77 = .ok (.getfield 127, 3) := by decide +kernel
theorem dX0_firstLayer_80 : decode cX0_firstLayer 80 = .ok (.iload 5, 2) := by decide +kernel
theorem dX0_firstLayer_82 : decode cX0_firstLayer 82 = .ok (.iaload, 1) := by decide +kernel
theorem dX0_firstLayer_83 : decode cX0_firstLayer 83 = .ok (.ifCond .eq 14, 3) := by decide +kernel
theorem dX0_firstLayer_86 : decode cX0_firstLayer 86 = .ok (.aload_n 0, 1) := by decide +kernel
theorem dX0_firstLayer_87 : decode cX0_firstLayer 87 = .ok (.getfield 67, 3) := by decide +kernel
theorem dX0_firstLayer_90 : decode cX0_firstLayer 90 = .ok (.getfield 127, 3) := by decide +kernel
theorem dX0_firstLayer_93 : decode cX0_firstLayer 93 = .ok (.iload 5, 2) := by decide +kernel
theorem dX0_firstLayer_95 : decode cX0_firstLayer 95 = .ok (.iaload, 1) := by decide +kernel
theorem dX0_firstLayer_96 : decode cX0_firstLayer 96 = .ok (.ireturn, 1) := by decide +kernel
theorem dX0_firstLayer_97 : decode cX0_firstLayer 97 = .ok (.aload_n 0, 1) := by decide +kernel
theorem dX0_firstLayer_98 : decode cX0_firstLayer 98 = .ok (.getfield 15, 3) := by decide +kernel
theorem dX0_firstLayer_101 : decode cX0_firstLayer 101 = .ok (.iload_n 3, 1) := by decide +kernel
theorem dX0_firstLayer_102 : decode cX0_firstLayer 102 = .ok (.iaload, 1) := by decide +kernel
theorem dX0_firstLayer_103 : decode cX0_firstLayer 103 = .ok (.istore_n 3, 1) := by decide +kernel
theorem dX0_firstLayer_104 : decode cX0_firstLayer 104 = .ok (.iinc 4 1, 3) := by decide +kernel
theorem dX0_firstLayer_107 : decode cX0_firstLayer 107 = .ok (.goto (-102), 3) := by decide +kernel
theorem dX0_firstLayer_110 : decode cX0_firstLayer 110 = .ok (.iconst 0, 1) := by decide +kernel
theorem dX0_firstLayer_111 : decode cX0_firstLayer 111 = .ok (.ireturn, 1) := by decide +kernel
theorem dX0_placeOfLayer_0 : decode cX0_placeOfLayer 0 = .ok (.iconst 0, 1) := by decide +kernel
theorem dX0_placeOfLayer_1 : decode cX0_placeOfLayer 1 = .ok (.istore 4, 2) := by decide +kernel
theorem dX0_placeOfLayer_3 : decode cX0_placeOfLayer 3 = .ok (.iload_n 1, 1) := by decide +kernel
theorem dX0_placeOfLayer_4 : decode cX0_placeOfLayer 4 = .ok (.istore 5, 2) := by decide +kernel
theorem dX0_placeOfLayer_6 : decode cX0_placeOfLayer 6 = .ok (.iconst 0, 1) := by decide +kernel
theorem dX0_placeOfLayer_7 : decode cX0_placeOfLayer 7 = .ok (.istore 6, 2) := by decide +kernel
theorem dX0_placeOfLayer_9 : decode cX0_placeOfLayer 9 = .ok (.iload 6, 2) := by decide +kernel
theorem dX0_placeOfLayer_11 : decode cX0_placeOfLayer 11 = .ok (.bipush 48, 2) := by decide +kernel
theorem dX0_placeOfLayer_13 : decode cX0_placeOfLayer 13 = .ok (.if_icmp .ge 70, 3) := by decide +kernel
theorem dX0_placeOfLayer_16 : decode cX0_placeOfLayer 16 = .ok (.iload 5, 2) := by decide +kernel
theorem dX0_placeOfLayer_18 : decode cX0_placeOfLayer 18 = .ok (.iconst (-1), 1) := by decide +kernel
theorem dX0_placeOfLayer_19 : decode cX0_placeOfLayer 19 = .ok (.if_icmp .eq 64, 3) := by decide +kernel
theorem dX0_placeOfLayer_22 : decode cX0_placeOfLayer 22 = .ok (.aload_n 0, 1) := by decide +kernel
theorem dX0_placeOfLayer_23 : decode cX0_placeOfLayer 23 = .ok (.getfield 67, 3) := by decide +kernel
theorem dX0_placeOfLayer_26 : decode cX0_placeOfLayer 26 = .ok (.iload 6, 2) := by decide +kernel
theorem dX0_placeOfLayer_28 : decode cX0_placeOfLayer 28 = .ok (.iconst 3, 1) := by decide +kernel
theorem dX0_placeOfLayer_29 : decode cX0_placeOfLayer 29 = .ok (.irem, 1) := by decide +kernel
theorem dX0_placeOfLayer_30 : decode cX0_placeOfLayer 30 = .ok (.iload 5, 2) := by decide +kernel
theorem dX0_placeOfLayer_32 : decode cX0_placeOfLayer 32 = .ok (.bipush 26, 2) := by decide +kernel
theorem dX0_placeOfLayer_34 : decode cX0_placeOfLayer 34 = .ok (.imul, 1) := by decide +kernel
theorem dX0_placeOfLayer_35 : decode cX0_placeOfLayer 35 = .ok (.iload_n 2, 1) := by decide +kernel
theorem dX0_placeOfLayer_36 : decode cX0_placeOfLayer 36 = .ok (.iadd, 1) := by decide +kernel
theorem dX0_placeOfLayer_37 : decode cX0_placeOfLayer 37 = .ok (.invokevirtual 130, 3) := by decide +kernel
theorem dX0_placeOfLayer_40 : decode cX0_placeOfLayer 40 = .ok (.ifCond .eq 15, 3) := by decide +kernel
theorem dX0_placeOfLayer_43 : decode cX0_placeOfLayer 43 = .ok (.iload 4, 2) := by decide +kernel
theorem dX0_placeOfLayer_45 : decode cX0_placeOfLayer 45 = .ok (.iload_n 3, 1) := by decide +kernel
theorem dX0_placeOfLayer_46 : decode cX0_placeOfLayer 46 = .ok (.if_icmp .ne 6, 3) := by decide +kernel
theorem dX0_placeOfLayer_49 : decode cX0_placeOfLayer 49 = .ok (.iload 6, 2) := by decide +kernel
theorem dX0_placeOfLayer_51 : decode cX0_placeOfLayer 51 = .ok (.ireturn, 1) := by decide +kernel
theorem dX0_placeOfLayer_52 : decode cX0_placeOfLayer 52 = .ok (.iinc 4 1, 3) := by decide +kernel
theorem dX0_placeOfLayer_55 : decode cX0_placeOfLayer 55 = .ok (.iload 6, 2) := by decide +kernel
theorem dX0_placeOfLayer_57 : decode cX0_placeOfLayer 57 = .ok (.iconst 3, 1) := by decide +kernel
theorem dX0_placeOfLayer_58 : decode cX0_placeOfLayer 58 = .ok (.irem, 1) := by decide +kernel
theorem dX0_placeOfLayer_59 : decode cX0_placeOfLayer 59 = .ok (.iconst 2, 1) := by decide +kernel
theorem dX0_placeOfLayer_60 : decode cX0_placeOfLayer 60 = .ok (.if_icmp .ne 13, 3) := by decide +kernel
theorem dX0_placeOfLayer_63 : decode cX0_placeOfLayer 63 = .ok (.aload_n 0, 1) := by decide +kernel
theorem dX0_placeOfLayer_64 : decode cX0_placeOfLayer 64 = .ok (.getfield 15, 3) := by decide +kernel
theorem dX0_placeOfLayer_67 : decode cX0_placeOfLayer 67 = .ok (.iload 5, 2) := by decide +kernel
theorem dX0_placeOfLayer_69 : decode cX0_placeOfLayer 69 = .ok (.iaload, 1) := by decide +kernel
theorem dX0_placeOfLayer_70 : decode cX0_placeOfLayer 70 = .ok (.goto 5, 3) := by decide +kernel
theorem dX0_placeOfLayer_73 : decode cX0_placeOfLayer 73 = .ok (.iload 5, 2) := by decide +kernel
theorem dX0_placeOfLayer_75 : decode cX0_placeOfLayer 75 = .ok (.istore 5, 2) := by decide +kernel
theorem dX0_placeOfLayer_77 : decode cX0_placeOfLayer 77 = .ok (.iinc 6 1, 3) := by decide +kernel
theorem dX0_placeOfLayer_80 : decode cX0_placeOfLayer 80 = .ok (.goto (-71), 3) := by decide +kernel
theorem dX0_placeOfLayer_83 : decode cX0_placeOfLayer 83 = .ok (.iconst (-1), 1) := by decide +kernel
theorem dX0_placeOfLayer_84 : decode cX0_placeOfLayer 84 = .ok (.ireturn, 1) := by decide +kernel
theorem dX0_layersOf_0 : decode cX0_layersOf 0 = .ok (.iconst 0, 1) := by decide +kernel
theorem dX0_layersOf_1 : decode cX0_layersOf 1 = .ok (.istore_n 3, 1) := by decide +kernel
theorem dX0_layersOf_2 : decode cX0_layersOf 2 = .ok (.iload_n 1, 1) := by decide +kernel
theorem dX0_layersOf_3 : decode cX0_layersOf 3 = .ok (.istore 4, 2) := by decide +kernel
theorem dX0_layersOf_5 : decode cX0_layersOf 5 = .ok (.iconst 0, 1) := by decide +kernel
theorem dX0_layersOf_6 : decode cX0_layersOf 6 = .ok (.istore 5, 2) := by decide +kernel
theorem dX0_layersOf_8 : decode cX0_layersOf 8 = .ok (.iload 5, 2) := by decide +kernel
theorem dX0_layersOf_10 : decode cX0_layersOf 10 = .ok (.bipush 48, 2) := by decide +kernel
theorem dX0_layersOf_12 : decode cX0_layersOf 12 = .ok (.if_icmp .ge 66, 3) := by decide +kernel
theorem dX0_layersOf_15 : decode cX0_layersOf 15 = .ok (.iload 4, 2) := by decide +kernel
theorem dX0_layersOf_17 : decode cX0_layersOf 17 = .ok (.iconst (-1), 1) := by decide +kernel
theorem dX0_layersOf_18 : decode cX0_layersOf 18 = .ok (.if_icmp .eq 60, 3) := by decide +kernel
theorem dX0_layersOf_21 : decode cX0_layersOf 21 = .ok (.iload_n 3, 1) := by decide +kernel
theorem dX0_layersOf_22 : decode cX0_layersOf 22 = .ok (.aload_n 0, 1) := by decide +kernel
theorem dX0_layersOf_23 : decode cX0_layersOf 23 = .ok (.getfield 67, 3) := by decide +kernel
theorem dX0_layersOf_26 : decode cX0_layersOf 26 = .ok (.iload 5, 2) := by decide +kernel
theorem dX0_layersOf_28 : decode cX0_layersOf 28 = .ok (.iconst 3, 1) := by decide +kernel
theorem dX0_layersOf_29 : decode cX0_layersOf 29 = .ok (.irem, 1) := by decide +kernel
theorem dX0_layersOf_30 : decode cX0_layersOf 30 = .ok (.iload 4, 2) := by decide +kernel
theorem dX0_layersOf_32 : decode cX0_layersOf 32 = .ok (.bipush 26, 2) := by decide +kernel
theorem dX0_layersOf_34 : decode cX0_layersOf 34 = .ok (.imul, 1) := by decide +kernel
theorem dX0_layersOf_35 : decode cX0_layersOf 35 = .ok (.iload_n 2, 1) := by decide +kernel
theorem dX0_layersOf_36 : decode cX0_layersOf 36 = .ok (.iadd, 1) := by decide +kernel
theorem dX0_layersOf_37 : decode cX0_layersOf 37 = .ok (.invokevirtual 130, 3) := by decide +kernel
theorem dX0_layersOf_40 : decode cX0_layersOf 40 = .ok (.ifCond .eq 7, 3) := by decide +kernel
theorem dX0_layersOf_43 : decode cX0_layersOf 43 = .ok (.iconst 1, 1) := by decide +kernel
theorem dX0_layersOf_44 : decode cX0_layersOf 44 = .ok (.goto 4, 3) := by decide +kernel
theorem dX0_layersOf_47 : decode cX0_layersOf 47 = .ok (.iconst 0, 1) := by decide +kernel
theorem dX0_layersOf_48 : decode cX0_layersOf 48 = .ok (.iadd, 1) := by decide +kernel
theorem dX0_layersOf_49 : decode cX0_layersOf 49 = .ok (.istore_n 3, 1) := by decide +kernel
theorem dX0_layersOf_50 : decode cX0_layersOf 50 = .ok (.iload 5, 2) := by decide +kernel
theorem dX0_layersOf_52 : decode cX0_layersOf 52 = .ok (.iconst 3, 1) := by decide +kernel
theorem dX0_layersOf_53 : decode cX0_layersOf 53 = .ok (.irem, 1) := by decide +kernel
theorem dX0_layersOf_54 : decode cX0_layersOf 54 = .ok (.iconst 2, 1) := by decide +kernel
theorem dX0_layersOf_55 : decode cX0_layersOf 55 = .ok (.if_icmp .ne 13, 3) := by decide +kernel
theorem dX0_layersOf_58 : decode cX0_layersOf 58 = .ok (.aload_n 0, 1) := by decide +kernel
theorem dX0_layersOf_59 : decode cX0_layersOf 59 = .ok (.getfield 15, 3) := by decide +kernel
theorem dX0_layersOf_62 : decode cX0_layersOf 62 = .ok (.iload 4, 2) := by decide +kernel
theorem dX0_layersOf_64 : decode cX0_layersOf 64 = .ok (.iaload, 1) := by decide +kernel
theorem dX0_layersOf_65 : decode cX0_layersOf 65 = .ok (.goto 5, 3) := by decide +kernel
theorem dX0_layersOf_68 : decode cX0_layersOf 68 = .ok (.iload 4, 2) := by decide +kernel
theorem dX0_layersOf_70 : decode cX0_layersOf 70 = .ok (.istore 4, 2) := by decide +kernel
theorem dX0_layersOf_72 : decode cX0_layersOf 72 = .ok (.iinc 5 1, 3) := by decide +kernel
theorem dX0_layersOf_75 : decode cX0_layersOf 75 = .ok (.goto (-67), 3) := by decide +kernel
theorem dX0_layersOf_78 : decode cX0_layersOf 78 = .ok (.iload_n 3, 1) := by decide +kernel
theorem dX0_layersOf_79 : decode cX0_layersOf 79 = .ok (.ireturn, 1) := by decide +kernel
theorem dX0_layerAt_0 : decode cX0_layerAt 0 = .ok (.iload_n 1, 1) := by decide +kernel
theorem dX0_layerAt_1 : decode cX0_layerAt 1 = .ok (.istore 4, 2) := by decide +kernel
theorem dX0_layerAt_3 : decode cX0_layerAt 3 = .ok (.iconst 0, 1) := by decide +kernel
theorem dX0_layerAt_4 : decode cX0_layerAt 4 = .ok (.istore 5, 2) := by decide +kernel
theorem dX0_layerAt_6 : decode cX0_layerAt 6 = .ok (.iload 5, 2) := by decide +kernel
theorem dX0_layerAt_8 : decode cX0_layerAt 8 = .ok (.iload_n 3, 1) := by decide +kernel
theorem dX0_layerAt_9 : decode cX0_layerAt 9 = .ok (.iconst 3, 1) := by decide +kernel
theorem dX0_layerAt_10 : decode cX0_layerAt 10 = .ok (.idiv, 1) := by decide +kernel
theorem dX0_layerAt_11 : decode cX0_layerAt 11 = .ok (.if_icmp .ge 24, 3) := by decide +kernel
theorem dX0_layerAt_14 : decode cX0_layerAt 14 = .ok (.iload 4, 2) := by decide +kernel
theorem dX0_layerAt_16 : decode cX0_layerAt 16 = .ok (.iconst (-1), 1) := by decide +kernel
theorem dX0_layerAt_17 : decode cX0_layerAt 17 = .ok (.if_icmp .eq 18, 3) := by decide +kernel
theorem dX0_layerAt_20 : decode cX0_layerAt 20 = .ok (.aload_n 0, 1) := by decide +kernel
theorem dX0_layerAt_21 : decode cX0_layerAt 21 = .ok (.getfield 15, 3) := by decide +kernel
theorem dX0_layerAt_24 : decode cX0_layerAt 24 = .ok (.iload 4, 2) := by decide +kernel
theorem dX0_layerAt_26 : decode cX0_layerAt 26 = .ok (.iaload, 1) := by decide +kernel
theorem dX0_layerAt_27 : decode cX0_layerAt 27 = .ok (.istore 4, 2) := by decide +kernel
theorem dX0_layerAt_29 : decode cX0_layerAt 29 = .ok (.iinc 5 1, 3) := by decide +kernel
theorem dX0_layerAt_32 : decode cX0_layerAt 32 = .ok (.goto (-26), 3) := by decide +kernel
theorem dX0_layerAt_35 : decode cX0_layerAt 35 = .ok (.iload 4, 2) := by decide +kernel
theorem dX0_layerAt_37 : decode cX0_layerAt 37 = .ok (.iconst (-1), 1) := by decide +kernel
theorem dX0_layerAt_38 : decode cX0_layerAt 38 = .ok (.if_icmp .ne 7, 3) := by decide +kernel
theorem dX0_layerAt_41 : decode cX0_layerAt 41 = .ok (.iconst 0, 1) := by decide +kernel
theorem dX0_layerAt_42 : decode cX0_layerAt 42 = .ok (.goto 20, 3) := by decide +kernel
theorem dX0_layerAt_45 : decode cX0_layerAt 45 = .ok (.aload_n 0, 1) := by decide +kernel
theorem dX0_layerAt_46 : decode cX0_layerAt 46 = .ok (.getfield 67, 3) := by decide +kernel
theorem dX0_layerAt_49 : decode cX0_layerAt 49 = .ok (.iload_n 3, 1) := by decide +kernel
theorem dX0_layerAt_50 : decode cX0_layerAt 50 = .ok (.iconst 3, 1) := by decide +kernel
theorem dX0_layerAt_51 : decode cX0_layerAt 51 = .ok (.irem, 1) := by decide +kernel
theorem dX0_layerAt_52 : decode cX0_layerAt 52 = .ok (.iload 4, 2) := by decide +kernel
theorem dX0_layerAt_54 : decode cX0_layerAt 54 = .ok (.bipush 26, 2) := by decide +kernel
theorem dX0_layerAt_56 : decode cX0_layerAt 56 = .ok (.imul, 1) := by decide +kernel
theorem dX0_layerAt_57 : decode cX0_layerAt 57 = .ok (.iload_n 2, 1) := by decide +kernel
theorem dX0_layerAt_58 : decode cX0_layerAt 58 = .ok (.iadd, 1) := by decide +kernel
theorem dX0_layerAt_59 : decode cX0_layerAt 59 = .ok (.invokevirtual 130, 3) := by decide +kernel
theorem dX0_layerAt_62 : decode cX0_layerAt 62 = .ok (.ireturn, 1) := by decide +kernel
theorem dX0_outcome_0 : decode cX0_outcome 0 = .ok (.aload_n 0, 1) := by decide +kernel
theorem dX0_outcome_1 : decode cX0_outcome 1 = .ok (.aload_n 0, 1) := by decide +kernel
theorem dX0_outcome_2 : decode cX0_outcome 2 = .ok (.getfield 55, 3) := by decide +kernel
theorem dX0_outcome_5 : decode cX0_outcome 5 = .ok (.iload_n 1, 1) := by decide +kernel
theorem dX0_outcome_6 : decode cX0_outcome 6 = .ok (.iaload, 1) := by decide +kernel
theorem dX0_outcome_7 : decode cX0_outcome 7 = .ok (.aload_n 0, 1) := by decide +kernel
theorem dX0_outcome_8 : decode cX0_outcome 8 = .ok (.getfield 58, 3) := by decide +kernel
theorem dX0_outcome_11 : decode cX0_outcome 11 = .ok (.iload_n 1, 1) := by decide +kernel
theorem dX0_outcome_12 : decode cX0_outcome 12 = .ok (.iaload, 1) := by decide +kernel
theorem dX0_outcome_13 : decode cX0_outcome 13 = .ok (.invokevirtual 134, 3) := by decide +kernel
theorem dX0_outcome_16 : decode cX0_outcome 16 = .ok (.ireturn, 1) := by decide +kernel
theorem dX0_stateOfUse_0 : decode cX0_stateOfUse 0 = .ok (.aload_n 0, 1) := by decide +kernel
theorem dX0_stateOfUse_1 : decode cX0_stateOfUse 1 = .ok (.iload_n 1, 1) := by decide +kernel
theorem dX0_stateOfUse_2 : decode cX0_stateOfUse 2 = .ok (.invokevirtual 117, 3) := by decide +kernel
theorem dX0_stateOfUse_5 : decode cX0_stateOfUse 5 = .ok (.invokestatic 137, 3) := by decide +kernel
theorem dX0_stateOfUse_8 : decode cX0_stateOfUse 8 = .ok (.istore_n 2, 1) := by decide +kernel
theorem dX0_stateOfUse_9 : decode cX0_stateOfUse 9 = .ok (.iload_n 2, 1) := by decide +kernel
theorem dX0_stateOfUse_10 : decode cX0_stateOfUse 10 = .ok (.iconst 2, 1) := by decide +kernel
theorem dX0_stateOfUse_11 : decode cX0_stateOfUse 11 = .ok (.if_icmp .ge 7, 3) := by decide +kernel
theorem dX0_stateOfUse_14 : decode cX0_stateOfUse 14 = .ok (.iconst 1, 1) := by decide +kernel
theorem dX0_stateOfUse_15 : decode cX0_stateOfUse 15 = .ok (.iload_n 2, 1) := by decide +kernel
theorem dX0_stateOfUse_16 : decode cX0_stateOfUse 16 = .ok (.isub, 1) := by decide +kernel
theorem dX0_stateOfUse_17 : decode cX0_stateOfUse 17 = .ok (.ireturn, 1) := by decide +kernel
theorem dX0_stateOfUse_18 : decode cX0_stateOfUse 18 = .ok (.aload_n 0, 1) := by decide +kernel
theorem dX0_stateOfUse_19 : decode cX0_stateOfUse 19 = .ok (.aload_n 0, 1) := by decide +kernel
theorem dX0_stateOfUse_20 : decode cX0_stateOfUse 20 = .ok (.getfield 55, 3) := by decide +kernel
theorem dX0_stateOfUse_23 : decode cX0_stateOfUse 23 = .ok (.iload_n 1, 1) := by decide +kernel
theorem dX0_stateOfUse_24 : decode cX0_stateOfUse 24 = .ok (.iaload, 1) := by decide +kernel
theorem dX0_stateOfUse_25 : decode cX0_stateOfUse 25 = .ok (.aload_n 0, 1) := by decide +kernel
theorem dX0_stateOfUse_26 : decode cX0_stateOfUse 26 = .ok (.getfield 58, 3) := by decide +kernel
theorem dX0_stateOfUse_29 : decode cX0_stateOfUse 29 = .ok (.iload_n 1, 1) := by decide +kernel
theorem dX0_stateOfUse_30 : decode cX0_stateOfUse 30 = .ok (.iaload, 1) := by decide +kernel
theorem dX0_stateOfUse_31 : decode cX0_stateOfUse 31 = .ok (.iconst 0, 1) := by decide +kernel
theorem dX0_stateOfUse_32 : decode cX0_stateOfUse 32 = .ok (.invokevirtual 142, 3) := by decide +kernel
theorem dX0_stateOfUse_35 : decode cX0_stateOfUse 35 = .ok (.istore_n 3, 1) := by decide +kernel
theorem dX0_stateOfUse_36 : decode cX0_stateOfUse 36 = .ok (.iload_n 3, 1) := by decide +kernel
theorem dX0_stateOfUse_37 : decode cX0_stateOfUse 37 = .ok (.iconst 3, 1) := by decide +kernel
theorem dX0_stateOfUse_38 : decode cX0_stateOfUse 38 = .ok (.irem, 1) := by decide +kernel
theorem dX0_stateOfUse_39 : decode cX0_stateOfUse 39 = .ok (.iconst 1, 1) := by decide +kernel
theorem dX0_stateOfUse_40 : decode cX0_stateOfUse 40 = .ok (.if_icmp .ne 7, 3) := by decide +kernel
theorem dX0_stateOfUse_43 : decode cX0_stateOfUse 43 = .ok (.iconst 2, 1) := by decide +kernel
theorem dX0_stateOfUse_44 : decode cX0_stateOfUse 44 = .ok (.goto 4, 3) := by decide +kernel
theorem dX0_stateOfUse_47 : decode cX0_stateOfUse 47 = .ok (.iconst 3, 1) := by decide +kernel
theorem dX0_stateOfUse_48 : decode cX0_stateOfUse 48 = .ok (.ireturn, 1) := by decide +kernel
theorem dX0_usesInState_0 : decode cX0_usesInState 0 = .ok (.iconst 0, 1) := by decide +kernel
theorem dX0_usesInState_1 : decode cX0_usesInState 1 = .ok (.istore_n 2, 1) := by decide +kernel
theorem dX0_usesInState_2 : decode cX0_usesInState 2 = .ok (.iconst 0, 1) := by decide +kernel
theorem dX0_usesInState_3 : decode cX0_usesInState 3 = .ok (.istore_n 3, 1) := by decide +kernel
theorem dX0_usesInState_4 : decode cX0_usesInState 4 = .ok (.iload_n 3, 1) := by decide +kernel
theorem dX0_usesInState_5 : decode cX0_usesInState 5 = .ok (.aload_n 0, 1) := by decide +kernel
theorem dX0_usesInState_6 : decode cX0_usesInState 6 = .ok (.getfield 52, 3) := by decide +kernel
theorem dX0_usesInState_9 : decode cX0_usesInState 9 = .ok (.if_icmp .ge 26, 3) := by decide +kernel
theorem dX0_usesInState_12 : decode cX0_usesInState 12 = .ok (.iload_n 2, 1) := by decide +kernel
theorem dX0_usesInState_13 : decode cX0_usesInState 13 = .ok (.aload_n 0, 1) := by decide +kernel
theorem dX0_usesInState_14 : decode cX0_usesInState 14 = .ok (.iload_n 3, 1) := by decide +kernel
theorem dX0_usesInState_15 : decode cX0_usesInState 15 = .ok (.invokevirtual 146, 3) := by decide +kernel
theorem dX0_usesInState_18 : decode cX0_usesInState 18 = .ok (.iload_n 1, 1) := by decide +kernel
theorem dX0_usesInState_19 : decode cX0_usesInState 19 = .ok (.if_icmp .ne 7, 3) := by decide +kernel
theorem dX0_usesInState_22 : decode cX0_usesInState 22 = .ok (.iconst 1, 1) := by decide +kernel
theorem dX0_usesInState_23 : decode cX0_usesInState 23 = .ok (.goto 4, 3) := by decide +kernel
theorem dX0_usesInState_26 : decode cX0_usesInState 26 = .ok (.iconst 0, 1) := by decide +kernel
theorem dX0_usesInState_27 : decode cX0_usesInState 27 = .ok (.iadd, 1) := by decide +kernel
theorem dX0_usesInState_28 : decode cX0_usesInState 28 = .ok (.istore_n 2, 1) := by decide +kernel
theorem dX0_usesInState_29 : decode cX0_usesInState 29 = .ok (.iinc 3 1, 3) := by decide +kernel
theorem dX0_usesInState_32 : decode cX0_usesInState 32 = .ok (.goto (-28), 3) := by decide +kernel
theorem dX0_usesInState_35 : decode cX0_usesInState 35 = .ok (.iload_n 2, 1) := by decide +kernel
theorem dX0_usesInState_36 : decode cX0_usesInState 36 = .ok (.ireturn, 1) := by decide +kernel
theorem dX0_usesResolvedTo_0 : decode cX0_usesResolvedTo 0 = .ok (.iconst 0, 1) := by decide +kernel
theorem dX0_usesResolvedTo_1 : decode cX0_usesResolvedTo 1 = .ok (.istore_n 2, 1) := by decide +kernel
theorem dX0_usesResolvedTo_2 : decode cX0_usesResolvedTo 2 = .ok (.iconst 0, 1) := by decide +kernel
theorem dX0_usesResolvedTo_3 : decode cX0_usesResolvedTo 3 = .ok (.istore_n 3, 1) := by decide +kernel
theorem dX0_usesResolvedTo_4 : decode cX0_usesResolvedTo 4 = .ok (.iload_n 3, 1) := by decide +kernel
theorem dX0_usesResolvedTo_5 : decode cX0_usesResolvedTo 5 = .ok (.aload_n 0, 1) := by decide +kernel
theorem dX0_usesResolvedTo_6 : decode cX0_usesResolvedTo 6 = .ok (.getfield 52, 3) := by decide +kernel
theorem dX0_usesResolvedTo_9 : decode cX0_usesResolvedTo 9 = .ok (.if_icmp .ge 28, 3) := by decide +kernel
theorem dX0_usesResolvedTo_12 : decode cX0_usesResolvedTo 12 = .ok (.iload_n 2, 1) := by decide +kernel
theorem dX0_usesResolvedTo_13 : decode cX0_usesResolvedTo 13 = .ok (.aload_n 0, 1) := by decide +kernel
theorem dX0_usesResolvedTo_14 : decode cX0_usesResolvedTo 14 = .ok (.iload_n 3, 1) := by decide +kernel
theorem dX0_usesResolvedTo_15 : decode cX0_usesResolvedTo 15 = .ok (.invokevirtual 117, 3) := by decide +kernel
theorem dX0_usesResolvedTo_18 : decode cX0_usesResolvedTo 18 = .ok (.iconst 1, 1) := by decide +kernel
theorem dX0_usesResolvedTo_19 : decode cX0_usesResolvedTo 19 = .ok (.iload_n 1, 1) := by decide +kernel
theorem dX0_usesResolvedTo_20 : decode cX0_usesResolvedTo 20 = .ok (.ishl, 1) := by decide +kernel
theorem dX0_usesResolvedTo_21 : decode cX0_usesResolvedTo 21 = .ok (.if_icmp .ne 7, 3) := by decide +kernel
theorem dX0_usesResolvedTo_24 : decode cX0_usesResolvedTo 24 = .ok (.iconst 1, 1) := by decide +kernel
theorem dX0_usesResolvedTo_25 : decode cX0_usesResolvedTo 25 = .ok (.goto 4, 3) := by decide +kernel
theorem dX0_usesResolvedTo_28 : decode cX0_usesResolvedTo 28 = .ok (.iconst 0, 1) := by decide +kernel
theorem dX0_usesResolvedTo_29 : decode cX0_usesResolvedTo 29 = .ok (.iadd, 1) := by decide +kernel
theorem dX0_usesResolvedTo_30 : decode cX0_usesResolvedTo 30 = .ok (.istore_n 2, 1) := by decide +kernel
theorem dX0_usesResolvedTo_31 : decode cX0_usesResolvedTo 31 = .ok (.iinc 3 1, 3) := by decide +kernel
theorem dX0_usesResolvedTo_34 : decode cX0_usesResolvedTo 34 = .ok (.goto (-30), 3) := by decide +kernel
theorem dX0_usesResolvedTo_37 : decode cX0_usesResolvedTo 37 = .ok (.iload_n 2, 1) := by decide +kernel
theorem dX0_usesResolvedTo_38 : decode cX0_usesResolvedTo 38 = .ok (.ireturn, 1) := by decide +kernel
theorem dX0_unusedDeclarations_0 : decode cX0_unusedDeclarations 0 = .ok (.iconst 0, 1) := by decide +kernel
theorem dX0_unusedDeclarations_1 : decode cX0_unusedDeclarations 1 = .ok (.istore_n 1, 1) := by decide +kernel
theorem dX0_unusedDeclarations_2 : decode cX0_unusedDeclarations 2 = .ok (.iconst 0, 1) := by decide +kernel
theorem dX0_unusedDeclarations_3 : decode cX0_unusedDeclarations 3 = .ok (.istore_n 2, 1) := by decide +kernel
theorem dX0_unusedDeclarations_4 : decode cX0_unusedDeclarations 4 = .ok (.iload_n 2, 1) := by decide +kernel
theorem dX0_unusedDeclarations_5 : decode cX0_unusedDeclarations 5 = .ok (.aload_n 0, 1) := by decide +kernel
theorem dX0_unusedDeclarations_6 : decode cX0_unusedDeclarations 6 = .ok (.getfield 52, 3) := by decide +kernel
theorem dX0_unusedDeclarations_9 : decode cX0_unusedDeclarations 9 = .ok (.if_icmp .ge 31, 3) := by decide +kernel
theorem dX0_unusedDeclarations_12 : decode cX0_unusedDeclarations 12 = .ok (.aload_n 0, 1) := by decide +kernel
theorem dX0_unusedDeclarations_13 : decode cX0_unusedDeclarations 13 = .ok (.iload_n 2, 1) := by decide +kernel
theorem dX0_unusedDeclarations_14 : decode cX0_unusedDeclarations 14 = .ok (.invokevirtual 117, 3) := by decide +kernel
theorem dX0_unusedDeclarations_17 : decode cX0_unusedDeclarations 17 = .ok (.istore_n 3, 1) := by decide +kernel
theorem dX0_unusedDeclarations_18 : decode cX0_unusedDeclarations 18 = .ok (.iload_n 1, 1) := by decide +kernel
theorem dX0_unusedDeclarations_19 : decode cX0_unusedDeclarations 19 = .ok (.iload_n 3, 1) := by decide +kernel
theorem dX0_unusedDeclarations_20 : decode cX0_unusedDeclarations 20 = .ok (.invokestatic 137, 3) := by decide +kernel
theorem dX0_unusedDeclarations_23 : decode cX0_unusedDeclarations 23 = .ok (.iconst 1, 1) := by decide +kernel
theorem dX0_unusedDeclarations_24 : decode cX0_unusedDeclarations 24 = .ok (.if_icmp .ne 7, 3) := by decide +kernel
theorem dX0_unusedDeclarations_27 : decode cX0_unusedDeclarations 27 = .ok (.iload_n 3, 1) := by decide +kernel
theorem dX0_unusedDeclarations_28 : decode cX0_unusedDeclarations 28 = .ok (.goto 4, 3) := by decide +kernel
theorem dX0_unusedDeclarations_31 : decode cX0_unusedDeclarations 31 = .ok (.iconst 0, 1) := by decide +kernel
theorem dX0_unusedDeclarations_32 : decode cX0_unusedDeclarations 32 = .ok (.ior, 1) := by decide +kernel
theorem dX0_unusedDeclarations_33 : decode cX0_unusedDeclarations 33 = .ok (.istore_n 1, 1) := by decide +kernel
theorem dX0_unusedDeclarations_34 : decode cX0_unusedDeclarations 34 = .ok (.iinc 2 1, 3) := by decide +kernel
theorem dX0_unusedDeclarations_37 : decode cX0_unusedDeclarations 37 = .ok (.goto (-33), 3) := by decide +kernel
theorem dX0_unusedDeclarations_40 : decode cX0_unusedDeclarations 40 = .ok (.aload_n 0, 1) := by decide +kernel
theorem dX0_unusedDeclarations_41 : decode cX0_unusedDeclarations 41 = .ok (.getfield 19, 3) := by decide +kernel
theorem dX0_unusedDeclarations_44 : decode cX0_unusedDeclarations 44 = .ok (.iload_n 1, 1) := by decide +kernel
theorem dX0_unusedDeclarations_45 : decode cX0_unusedDeclarations 45 = .ok (.invokestatic 137, 3) := by decide +kernel
theorem dX0_unusedDeclarations_48 : decode cX0_unusedDeclarations 48 = .ok (.isub, 1) := by decide +kernel
theorem dX0_unusedDeclarations_49 : decode cX0_unusedDeclarations 49 = .ok (.ireturn, 1) := by decide +kernel
theorem dX0_pairsBrought_0 : decode cX0_pairsBrought 0 = .ok (.aload_n 0, 1) := by decide +kernel
theorem dX0_pairsBrought_1 : decode cX0_pairsBrought 1 = .ok (.getfield 37, 3) := by decide +kernel
theorem dX0_pairsBrought_4 : decode cX0_pairsBrought 4 = .ok (.iload_n 1, 1) := by decide +kernel
theorem dX0_pairsBrought_5 : decode cX0_pairsBrought 5 = .ok (.iaload, 1) := by decide +kernel
theorem dX0_pairsBrought_6 : decode cX0_pairsBrought 6 = .ok (.bipush 26, 2) := by decide +kernel
theorem dX0_pairsBrought_8 : decode cX0_pairsBrought 8 = .ok (.imul, 1) := by decide +kernel
theorem dX0_pairsBrought_9 : decode cX0_pairsBrought 9 = .ok (.istore_n 2, 1) := by decide +kernel
theorem dX0_pairsBrought_10 : decode cX0_pairsBrought 10 = .ok (.aload_n 0, 1) := by decide +kernel
theorem dX0_pairsBrought_11 : decode cX0_pairsBrought 11 = .ok (.getfield 40, 3) := by decide +kernel
theorem dX0_pairsBrought_14 : decode cX0_pairsBrought 14 = .ok (.iload_n 1, 1) := by decide +kernel
theorem dX0_pairsBrought_15 : decode cX0_pairsBrought 15 = .ok (.iaload, 1) := by decide +kernel
theorem dX0_pairsBrought_16 : decode cX0_pairsBrought 16 = .ok (.iconst (-1), 1) := by decide +kernel
theorem dX0_pairsBrought_17 : decode cX0_pairsBrought 17 = .ok (.if_icmp .eq 23, 3) := by decide +kernel
theorem dX0_pairsBrought_20 : decode cX0_pairsBrought 20 = .ok (.aload_n 0, 1) := by decide +kernel
theorem dX0_pairsBrought_21 : decode cX0_pairsBrought 21 = .ok (.getfield 67, 3) := by decide +kernel
theorem dX0_pairsBrought_24 : decode cX0_pairsBrought 24 = .ok (.getfield 111, 3) := by decide +kernel
theorem dX0_pairsBrought_27 : decode cX0_pairsBrought 27 = .ok (.iload_n 2, 1) := by decide +kernel
theorem dX0_pairsBrought_28 : decode cX0_pairsBrought 28 = .ok (.aload_n 0, 1) := by decide +kernel
theorem dX0_pairsBrought_29 : decode cX0_pairsBrought 29 = .ok (.getfield 40, 3) := by decide +kernel
theorem dX0_pairsBrought_32 : decode cX0_pairsBrought 32 = .ok (.iload_n 1, 1) := by decide +kernel
theorem dX0_pairsBrought_33 : decode cX0_pairsBrought 33 = .ok (.iaload, 1) := by decide +kernel
theorem dX0_pairsBrought_34 : decode cX0_pairsBrought 34 = .ok (.iadd, 1) := by decide +kernel
theorem dX0_pairsBrought_35 : decode cX0_pairsBrought 35 = .ok (.iaload, 1) := by decide +kernel
theorem dX0_pairsBrought_36 : decode cX0_pairsBrought 36 = .ok (.invokestatic 137, 3) := by decide +kernel
theorem dX0_pairsBrought_39 : decode cX0_pairsBrought 39 = .ok (.ireturn, 1) := by decide +kernel
theorem dX0_pairsBrought_40 : decode cX0_pairsBrought 40 = .ok (.iconst 0, 1) := by decide +kernel
theorem dX0_pairsBrought_41 : decode cX0_pairsBrought 41 = .ok (.istore_n 3, 1) := by decide +kernel
theorem dX0_pairsBrought_42 : decode cX0_pairsBrought 42 = .ok (.iconst 0, 1) := by decide +kernel
theorem dX0_pairsBrought_43 : decode cX0_pairsBrought 43 = .ok (.istore 4, 2) := by decide +kernel
theorem dX0_pairsBrought_45 : decode cX0_pairsBrought 45 = .ok (.iload 4, 2) := by decide +kernel
theorem dX0_pairsBrought_47 : decode cX0_pairsBrought 47 = .ok (.bipush 26, 2) := by decide +kernel
theorem dX0_pairsBrought_49 : decode cX0_pairsBrought 49 = .ok (.if_icmp .ge 41, 3) := by decide +kernel
theorem dX0_pairsBrought_52 : decode cX0_pairsBrought 52 = .ok (.aload_n 0, 1) := by decide +kernel
theorem dX0_pairsBrought_53 : decode cX0_pairsBrought 53 = .ok (.getfield 46, 3) := by decide +kernel
theorem dX0_pairsBrought_56 : decode cX0_pairsBrought 56 = .ok (.iload_n 1, 1) := by decide +kernel
theorem dX0_pairsBrought_57 : decode cX0_pairsBrought 57 = .ok (.iaload, 1) := by decide +kernel
theorem dX0_pairsBrought_58 : decode cX0_pairsBrought 58 = .ok (.iload 4, 2) := by decide +kernel
theorem dX0_pairsBrought_60 : decode cX0_pairsBrought 60 = .ok (.ishr, 1) := by decide +kernel
theorem dX0_pairsBrought_61 : decode cX0_pairsBrought 61 = .ok (.iconst 1, 1) := by decide +kernel
theorem dX0_pairsBrought_62 : decode cX0_pairsBrought 62 = .ok (.iand, 1) := by decide +kernel
theorem dX0_pairsBrought_63 : decode cX0_pairsBrought 63 = .ok (.ifCond .ne 21, 3) := by decide +kernel
theorem dX0_pairsBrought_66 : decode cX0_pairsBrought 66 = .ok (.iload_n 3, 1) := by decide +kernel
theorem dX0_pairsBrought_67 : decode cX0_pairsBrought 67 = .ok (.aload_n 0, 1) := by decide +kernel
theorem dX0_pairsBrought_68 : decode cX0_pairsBrought 68 = .ok (.getfield 67, 3) := by decide +kernel
theorem dX0_pairsBrought_71 : decode cX0_pairsBrought 71 = .ok (.getfield 111, 3) := by decide +kernel
theorem dX0_pairsBrought_74 : decode cX0_pairsBrought 74 = .ok (.iload_n 2, 1) := by decide +kernel
theorem dX0_pairsBrought_75 : decode cX0_pairsBrought 75 = .ok (.iload 4, 2) := by decide +kernel
theorem dX0_pairsBrought_77 : decode cX0_pairsBrought 77 = .ok (.iadd, 1) := by decide +kernel
theorem dX0_pairsBrought_78 : decode cX0_pairsBrought 78 = .ok (.iaload, 1) := by decide +kernel
theorem dX0_pairsBrought_79 : decode cX0_pairsBrought 79 = .ok (.invokestatic 137, 3) := by decide +kernel
theorem dX0_pairsBrought_82 : decode cX0_pairsBrought 82 = .ok (.iadd, 1) := by decide +kernel
theorem dX0_pairsBrought_83 : decode cX0_pairsBrought 83 = .ok (.istore_n 3, 1) := by decide +kernel
theorem dX0_pairsBrought_84 : decode cX0_pairsBrought 84 = .ok (.iinc 4 1, 3) := by decide +kernel
theorem dX0_pairsBrought_87 : decode cX0_pairsBrought 87 = .ok (.goto (-42), 3) := by decide +kernel
theorem dX0_pairsBrought_90 : decode cX0_pairsBrought 90 = .ok (.iload_n 3, 1) := by decide +kernel
theorem dX0_pairsBrought_91 : decode cX0_pairsBrought 91 = .ok (.ireturn, 1) := by decide +kernel
theorem dX0_vainSingleImports_0 : decode cX0_vainSingleImports 0 = .ok (.iconst 0, 1) := by decide +kernel
theorem dX0_vainSingleImports_1 : decode cX0_vainSingleImports 1 = .ok (.istore_n 1, 1) := by decide +kernel
theorem dX0_vainSingleImports_2 : decode cX0_vainSingleImports 2 = .ok (.iconst 0, 1) := by decide +kernel
theorem dX0_vainSingleImports_3 : decode cX0_vainSingleImports 3 = .ok (.istore_n 2, 1) := by decide +kernel
theorem dX0_vainSingleImports_4 : decode cX0_vainSingleImports 4 = .ok (.iload_n 2, 1) := by decide +kernel
theorem dX0_vainSingleImports_5 : decode cX0_vainSingleImports 5 = .ok (.aload_n 0, 1) := by decide +kernel
theorem dX0_vainSingleImports_6 : decode cX0_vainSingleImports 6 = .ok (.getfield 31, 3) := by decide +kernel
theorem dX0_vainSingleImports_9 : decode cX0_vainSingleImports 9 = .ok (.if_icmp .ge 35, 3) := by decide +kernel
theorem dX0_vainSingleImports_12 : decode cX0_vainSingleImports 12 = .ok (.iload_n 1, 1) := by decide +kernel
theorem dX0_vainSingleImports_13 : decode cX0_vainSingleImports 13 = .ok (.aload_n 0, 1) := by decide +kernel
theorem dX0_vainSingleImports_14 : decode cX0_vainSingleImports 14 = .ok (.getfield 40, 3) := by decide +kernel
theorem dX0_vainSingleImports_17 : decode cX0_vainSingleImports 17 = .ok (.iload_n 2, 1) := by decide +kernel
theorem dX0_vainSingleImports_18 : decode cX0_vainSingleImports 18 = .ok (.iaload, 1) := by decide +kernel
theorem dX0_vainSingleImports_19 : decode cX0_vainSingleImports 19 = .ok (.iconst (-1), 1) := by decide +kernel
theorem dX0_vainSingleImports_20 : decode cX0_vainSingleImports 20 = .ok (.if_icmp .eq 15, 3) := by decide +kernel
theorem dX0_vainSingleImports_23 : decode cX0_vainSingleImports 23 = .ok (.aload_n 0, 1) := by decide +kernel
theorem dX0_vainSingleImports_24 : decode cX0_vainSingleImports 24 = .ok (.iload_n 2, 1) := by decide +kernel
theorem dX0_vainSingleImports_25 : decode cX0_vainSingleImports 25 = .ok (.invokevirtual 149, 3) := by decide +kernel
theorem dX0_vainSingleImports_28 : decode cX0_vainSingleImports 28 = .ok (.ifCond .ne 7, 3) := by decide +kernel
theorem dX0_vainSingleImports_31 : decode cX0_vainSingleImports 31 = .ok (.iconst 1, 1) := by decide +kernel
theorem dX0_vainSingleImports_32 : decode cX0_vainSingleImports 32 = .ok (.goto 4, 3) := by decide +kernel
theorem dX0_vainSingleImports_35 : decode cX0_vainSingleImports 35 = .ok (.iconst 0, 1) := by decide +kernel
theorem dX0_vainSingleImports_36 : decode cX0_vainSingleImports 36 = .ok (.iadd, 1) := by decide +kernel
theorem dX0_vainSingleImports_37 : decode cX0_vainSingleImports 37 = .ok (.istore_n 1, 1) := by decide +kernel
theorem dX0_vainSingleImports_38 : decode cX0_vainSingleImports 38 = .ok (.iinc 2 1, 3) := by decide +kernel
theorem dX0_vainSingleImports_41 : decode cX0_vainSingleImports 41 = .ok (.goto (-37), 3) := by decide +kernel
theorem dX0_vainSingleImports_44 : decode cX0_vainSingleImports 44 = .ok (.iload_n 1, 1) := by decide +kernel
theorem dX0_vainSingleImports_45 : decode cX0_vainSingleImports 45 = .ok (.ireturn, 1) := by decide +kernel
theorem dX0_greatestDepth_0 : decode cX0_greatestDepth 0 = .ok (.iconst 0, 1) := by decide +kernel
theorem dX0_greatestDepth_1 : decode cX0_greatestDepth 1 = .ok (.istore_n 1, 1) := by decide +kernel
theorem dX0_greatestDepth_2 : decode cX0_greatestDepth 2 = .ok (.iconst 0, 1) := by decide +kernel
theorem dX0_greatestDepth_3 : decode cX0_greatestDepth 3 = .ok (.istore_n 2, 1) := by decide +kernel
theorem dX0_greatestDepth_4 : decode cX0_greatestDepth 4 = .ok (.iload_n 2, 1) := by decide +kernel
theorem dX0_greatestDepth_5 : decode cX0_greatestDepth 5 = .ok (.aload_n 0, 1) := by decide +kernel
theorem dX0_greatestDepth_6 : decode cX0_greatestDepth 6 = .ok (.getfield 9, 3) := by decide +kernel
theorem dX0_greatestDepth_9 : decode cX0_greatestDepth 9 = .ok (.if_icmp .ge 51, 3) := by decide +kernel
theorem dX0_greatestDepth_12 : decode cX0_greatestDepth 12 = .ok (.aload_n 0, 1) := by decide +kernel
theorem dX0_greatestDepth_13 : decode cX0_greatestDepth 13 = .ok (.getfield 15, 3) := by decide +kernel
theorem dX0_greatestDepth_16 : decode cX0_greatestDepth 16 = .ok (.iload_n 2, 1) := by decide +kernel
theorem dX0_greatestDepth_17 : decode cX0_greatestDepth 17 = .ok (.iaload, 1) := by decide +kernel
theorem dX0_greatestDepth_18 : decode cX0_greatestDepth 18 = .ok (.istore_n 3, 1) := by decide +kernel
theorem dX0_greatestDepth_19 : decode cX0_greatestDepth 19 = .ok (.iconst 0, 1) := by decide +kernel
theorem dX0_greatestDepth_20 : decode cX0_greatestDepth 20 = .ok (.istore 4, 2) := by decide +kernel
theorem dX0_greatestDepth_22 : decode cX0_greatestDepth 22 = .ok (.iload 4, 2) := by decide +kernel
theorem dX0_greatestDepth_24 : decode cX0_greatestDepth 24 = .ok (.bipush 16, 2) := by decide +kernel
theorem dX0_greatestDepth_26 : decode cX0_greatestDepth 26 = .ok (.if_icmp .ge 21, 3) := by decide +kernel
theorem dX0_greatestDepth_29 : decode cX0_greatestDepth 29 = .ok (.iload_n 3, 1) := by decide +kernel
theorem dX0_greatestDepth_30 : decode cX0_greatestDepth 30 = .ok (.iconst (-1), 1) := by decide +kernel
theorem dX0_greatestDepth_31 : decode cX0_greatestDepth 31 = .ok (.if_icmp .eq 16, 3) := by decide +kernel
theorem dX0_greatestDepth_34 : decode cX0_greatestDepth 34 = .ok (.aload_n 0, 1) := by decide +kernel
theorem dX0_greatestDepth_35 : decode cX0_greatestDepth 35 = .ok (.getfield 15, 3) := by decide +kernel
theorem dX0_greatestDepth_38 : decode cX0_greatestDepth 38 = .ok (.iload_n 3, 1) := by decide +kernel
theorem dX0_greatestDepth_39 : decode cX0_greatestDepth 39 = .ok (.iaload, 1) := by decide +kernel
theorem dX0_greatestDepth_40 : decode cX0_greatestDepth 40 = .ok (.istore_n 3, 1) := by decide +kernel
theorem dX0_greatestDepth_41 : decode cX0_greatestDepth 41 = .ok (.iinc 4 1, 3) := by decide +kernel
theorem dX0_greatestDepth_44 : decode cX0_greatestDepth 44 = .ok (.goto (-22), 3) := by decide +kernel
theorem dX0_greatestDepth_47 : decode cX0_greatestDepth 47 = .ok (.iload_n 1, 1) := by decide +kernel
theorem dX0_greatestDepth_48 : decode cX0_greatestDepth 48 = .ok (.iload 4, 2) := by decide +kernel
theorem dX0_greatestDepth_50 : decode cX0_greatestDepth 50 = .ok (.invokestatic 152, 3) := by decide +kernel
theorem dX0_greatestDepth_53 : decode cX0_greatestDepth 53 = .ok (.istore_n 1, 1) := by decide +kernel
theorem dX0_greatestDepth_54 : decode cX0_greatestDepth 54 = .ok (.iinc 2 1, 3) := by decide +kernel
theorem dX0_greatestDepth_57 : decode cX0_greatestDepth 57 = .ok (.goto (-53), 3) := by decide +kernel
theorem dX0_greatestDepth_60 : decode cX0_greatestDepth 60 = .ok (.iload_n 1, 1) := by decide +kernel
theorem dX0_greatestDepth_61 : decode cX0_greatestDepth 61 = .ok (.ireturn, 1) := by decide +kernel
theorem dX0_pairsOffered_0 : decode cX0_pairsOffered 0 = .ok (.iconst 0, 1) := by decide +kernel
theorem dX0_pairsOffered_1 : decode cX0_pairsOffered 1 = .ok (.istore_n 1, 1) := by decide +kernel
theorem dX0_pairsOffered_2 : decode cX0_pairsOffered 2 = .ok (.iconst 0, 1) := by decide +kernel
theorem dX0_pairsOffered_3 : decode cX0_pairsOffered 3 = .ok (.istore_n 2, 1) := by decide +kernel
theorem dX0_pairsOffered_4 : decode cX0_pairsOffered 4 = .ok (.iload_n 2, 1) := by decide +kernel
theorem dX0_pairsOffered_5 : decode cX0_pairsOffered 5 = .ok (.aload_n 0, 1) := by decide +kernel
theorem dX0_pairsOffered_6 : decode cX0_pairsOffered 6 = .ok (.getfield 9, 3) := by decide +kernel
theorem dX0_pairsOffered_9 : decode cX0_pairsOffered 9 = .ok (.bipush 26, 2) := by decide +kernel
theorem dX0_pairsOffered_11 : decode cX0_pairsOffered 11 = .ok (.imul, 1) := by decide +kernel
theorem dX0_pairsOffered_12 : decode cX0_pairsOffered 12 = .ok (.if_icmp .ge 24, 3) := by decide +kernel
theorem dX0_pairsOffered_15 : decode cX0_pairsOffered 15 = .ok (.iload_n 1, 1) := by decide +kernel
theorem dX0_pairsOffered_16 : decode cX0_pairsOffered 16 = .ok (.aload_n 0, 1) := by decide +kernel
theorem dX0_pairsOffered_17 : decode cX0_pairsOffered 17 = .ok (.getfield 67, 3) := by decide +kernel
theorem dX0_pairsOffered_20 : decode cX0_pairsOffered 20 = .ok (.getfield 111, 3) := by decide +kernel
theorem dX0_pairsOffered_23 : decode cX0_pairsOffered 23 = .ok (.iload_n 2, 1) := by decide +kernel
theorem dX0_pairsOffered_24 : decode cX0_pairsOffered 24 = .ok (.iaload, 1) := by decide +kernel
theorem dX0_pairsOffered_25 : decode cX0_pairsOffered 25 = .ok (.invokestatic 137, 3) := by decide +kernel
theorem dX0_pairsOffered_28 : decode cX0_pairsOffered 28 = .ok (.iadd, 1) := by decide +kernel
theorem dX0_pairsOffered_29 : decode cX0_pairsOffered 29 = .ok (.istore_n 1, 1) := by decide +kernel
theorem dX0_pairsOffered_30 : decode cX0_pairsOffered 30 = .ok (.iinc 2 1, 3) := by decide +kernel
theorem dX0_pairsOffered_33 : decode cX0_pairsOffered 33 = .ok (.goto (-29), 3) := by decide +kernel
theorem dX0_pairsOffered_36 : decode cX0_pairsOffered 36 = .ok (.iload_n 1, 1) := by decide +kernel
theorem dX0_pairsOffered_37 : decode cX0_pairsOffered 37 = .ok (.ireturn, 1) := by decide +kernel
theorem dX0_scopesThatOffer_0 : decode cX0_scopesThatOffer 0 = .ok (.iconst 0, 1) := by decide +kernel
theorem dX0_scopesThatOffer_1 : decode cX0_scopesThatOffer 1 = .ok (.istore_n 2, 1) := by decide +kernel
theorem dX0_scopesThatOffer_2 : decode cX0_scopesThatOffer 2 = .ok (.iconst 0, 1) := by decide +kernel
theorem dX0_scopesThatOffer_3 : decode cX0_scopesThatOffer 3 = .ok (.istore_n 3, 1) := by decide +kernel
theorem dX0_scopesThatOffer_4 : decode cX0_scopesThatOffer 4 = .ok (.iload_n 3, 1) := by decide +kernel
theorem dX0_scopesThatOffer_5 : decode cX0_scopesThatOffer 5 = .ok (.aload_n 0, 1) := by decide +kernel
theorem dX0_scopesThatOffer_6 : decode cX0_scopesThatOffer 6 = .ok (.getfield 9, 3) := by decide +kernel
theorem dX0_scopesThatOffer_9 : decode cX0_scopesThatOffer 9 = .ok (.if_icmp .ge 57, 3) := by decide +kernel
theorem dX0_scopesThatOffer_12 : decode cX0_scopesThatOffer 12 = .ok (.iconst 0, 1) := by decide +kernel
theorem dX0_scopesThatOffer_13 : decode cX0_scopesThatOffer 13 = .ok (.istore 4, 2) := by decide +kernel
theorem dX0_scopesThatOffer_15 : decode cX0_scopesThatOffer 15 = .ok (.iconst 0, 1) := by decide +kernel
theorem dX0_scopesThatOffer_16 : decode cX0_scopesThatOffer 16 = .ok (.istore 5, 2) := by decide +kernel
theorem dX0_scopesThatOffer_18 : decode cX0_scopesThatOffer 18 = .ok (.iload 5, 2) := by decide +kernel
theorem dX0_scopesThatOffer_20 : decode cX0_scopesThatOffer 20 = .ok (.bipush 26, 2) := by decide +kernel
theorem dX0_scopesThatOffer_22 : decode cX0_scopesThatOffer 22 = .ok (.if_icmp .ge 29, 3) := by decide +kernel
theorem dX0_scopesThatOffer_25 : decode cX0_scopesThatOffer 25 = .ok (.iload 4, 2) := by decide +kernel
theorem dX0_scopesThatOffer_27 : decode cX0_scopesThatOffer 27 = .ok (.aload_n 0, 1) := by decide +kernel
theorem dX0_scopesThatOffer_28 : decode cX0_scopesThatOffer 28 = .ok (.getfield 67, 3) := by decide +kernel
theorem dX0_scopesThatOffer_31 : decode cX0_scopesThatOffer 31 = .ok (.getfield 111, 3) := by decide +kernel
theorem dX0_scopesThatOffer_34 : decode cX0_scopesThatOffer 34 = .ok (.iload_n 3, 1) := by decide +kernel
theorem dX0_scopesThatOffer_35 : decode cX0_scopesThatOffer 35 = .ok (.bipush 26, 2) := by decide +kernel
theorem dX0_scopesThatOffer_37 : decode cX0_scopesThatOffer 37 = .ok (.imul, 1) := by decide +kernel
theorem dX0_scopesThatOffer_38 : decode cX0_scopesThatOffer 38 = .ok (.iload 5, 2) := by decide +kernel
theorem dX0_scopesThatOffer_40 : decode cX0_scopesThatOffer 40 = .ok (.iadd, 1) := by decide +kernel
theorem dX0_scopesThatOffer_41 : decode cX0_scopesThatOffer 41 = .ok (.iaload, 1) := by decide +kernel
theorem dX0_scopesThatOffer_42 : decode cX0_scopesThatOffer 42 = .ok (.ior, 1) := by decide +kernel
theorem dX0_scopesThatOffer_43 : decode cX0_scopesThatOffer 43 = .ok (.istore 4, 2) := by decide +kernel
theorem dX0_scopesThatOffer_45 : decode cX0_scopesThatOffer 45 = .ok (.iinc 5 1, 3) := by decide +kernel
theorem dX0_scopesThatOffer_48 : decode cX0_scopesThatOffer 48 = .ok (.goto (-30), 3) := by decide +kernel
theorem dX0_scopesThatOffer_51 : decode cX0_scopesThatOffer 51 = .ok (.iload_n 2, 1) := by decide +kernel
theorem dX0_scopesThatOffer_52 : decode cX0_scopesThatOffer 52 = .ok (.iload 4, 2) := by decide +kernel
theorem dX0_scopesThatOffer_54 : decode cX0_scopesThatOffer 54 = .ok (.iload_n 1, 1) := by decide +kernel
theorem dX0_scopesThatOffer_55 : decode cX0_scopesThatOffer 55 = .ok (.ishr, 1) := by decide +kernel
theorem dX0_scopesThatOffer_56 : decode cX0_scopesThatOffer 56 = .ok (.iconst 1, 1) := by decide +kernel
theorem dX0_scopesThatOffer_57 : decode cX0_scopesThatOffer 57 = .ok (.iand, 1) := by decide +kernel
theorem dX0_scopesThatOffer_58 : decode cX0_scopesThatOffer 58 = .ok (.iadd, 1) := by decide +kernel
theorem dX0_scopesThatOffer_59 : decode cX0_scopesThatOffer 59 = .ok (.istore_n 2, 1) := by decide +kernel
theorem dX0_scopesThatOffer_60 : decode cX0_scopesThatOffer 60 = .ok (.iinc 3 1, 3) := by decide +kernel
theorem dX0_scopesThatOffer_63 : decode cX0_scopesThatOffer 63 = .ok (.goto (-59), 3) := by decide +kernel
theorem dX0_scopesThatOffer_66 : decode cX0_scopesThatOffer 66 = .ok (.iload_n 2, 1) := by decide +kernel
theorem dX0_scopesThatOffer_67 : decode cX0_scopesThatOffer 67 = .ok (.ireturn, 1) := by decide +kernel
theorem dX0_scopesThatSee_0 : decode cX0_scopesThatSee 0 = .ok (.iconst 0, 1) := by decide +kernel
theorem dX0_scopesThatSee_1 : decode cX0_scopesThatSee 1 = .ok (.istore_n 2, 1) := by decide +kernel
theorem dX0_scopesThatSee_2 : decode cX0_scopesThatSee 2 = .ok (.iconst 0, 1) := by decide +kernel
theorem dX0_scopesThatSee_3 : decode cX0_scopesThatSee 3 = .ok (.istore_n 3, 1) := by decide +kernel
theorem dX0_scopesThatSee_4 : decode cX0_scopesThatSee 4 = .ok (.iload_n 3, 1) := by decide +kernel
theorem dX0_scopesThatSee_5 : decode cX0_scopesThatSee 5 = .ok (.aload_n 0, 1) := by decide +kernel
theorem dX0_scopesThatSee_6 : decode cX0_scopesThatSee 6 = .ok (.getfield 9, 3) := by decide +kernel
theorem dX0_scopesThatSee_9 : decode cX0_scopesThatSee 9 = .ok (.if_icmp .ge 34, 3) := by decide +kernel
theorem dX0_scopesThatSee_12 : decode cX0_scopesThatSee 12 = .ok (.iload_n 2, 1) := by decide +kernel
theorem dX0_scopesThatSee_13 : decode cX0_scopesThatSee 13 = .ok (.aload_n 0, 1) := by decide +kernel
theorem dX0_scopesThatSee_14 : decode cX0_scopesThatSee 14 = .ok (.iload_n 3, 1) := by decide +kernel
theorem dX0_scopesThatSee_15 : decode cX0_scopesThatSee 15 = .ok (.aload_n 0, 1) := by decide +kernel
theorem dX0_scopesThatSee_16 : decode cX0_scopesThatSee 16 = .ok (.getfield 25, 3) := by decide +kernel
theorem dX0_scopesThatSee_19 : decode cX0_scopesThatSee 19 = .ok (.iload_n 1, 1) := by decide +kernel
theorem dX0_scopesThatSee_20 : decode cX0_scopesThatSee 20 = .ok (.iaload, 1) := by decide +kernel
theorem dX0_scopesThatSee_21 : decode cX0_scopesThatSee 21 = .ok (.invokevirtual 134, 3) := by decide +kernel
theorem dX0_scopesThatSee_24 : decode cX0_scopesThatSee 24 = .ok (.iconst 1, 1) := by decide +kernel
theorem dX0_scopesThatSee_25 : decode cX0_scopesThatSee 25 = .ok (.iload_n 1, 1) := by decide +kernel
theorem dX0_scopesThatSee_26 : decode cX0_scopesThatSee 26 = .ok (.ishl, 1) := by decide +kernel
theorem dX0_scopesThatSee_27 : decode cX0_scopesThatSee 27 = .ok (.if_icmp .ne 7, 3) := by decide +kernel
theorem dX0_scopesThatSee_30 : decode cX0_scopesThatSee 30 = .ok (.iconst 1, 1) := by decide +kernel
theorem dX0_scopesThatSee_31 : decode cX0_scopesThatSee 31 = .ok (.goto 4, 3) := by decide +kernel
theorem dX0_scopesThatSee_34 : decode cX0_scopesThatSee 34 = .ok (.iconst 0, 1) := by decide +kernel
theorem dX0_scopesThatSee_35 : decode cX0_scopesThatSee 35 = .ok (.iadd, 1) := by decide +kernel
theorem dX0_scopesThatSee_36 : decode cX0_scopesThatSee 36 = .ok (.istore_n 2, 1) := by decide +kernel
theorem dX0_scopesThatSee_37 : decode cX0_scopesThatSee 37 = .ok (.iinc 3 1, 3) := by decide +kernel
theorem dX0_scopesThatSee_40 : decode cX0_scopesThatSee 40 = .ok (.goto (-36), 3) := by decide +kernel
theorem dX0_scopesThatSee_43 : decode cX0_scopesThatSee 43 = .ok (.iload_n 2, 1) := by decide +kernel
theorem dX0_scopesThatSee_44 : decode cX0_scopesThatSee 44 = .ok (.ireturn, 1) := by decide +kernel
theorem dX1_init_0 : decode cX1_init 0 = .ok (.aload_n 0, 1) := by decide +kernel
theorem dX1_init_1 : decode cX1_init 1 = .ok (.invokespecial 3, 3) := by decide +kernel
theorem dX1_init_4 : decode cX1_init 4 = .ok (.aload_n 0, 1) := by decide +kernel
theorem dX1_init_5 : decode cX1_init 5 = .ok (.sipush 416, 3) := by decide +kernel
theorem dX1_init_8 : decode cX1_init 8 = .ok (.newarray .int, 2) := by decide +kernel
theorem dX1_init_10 : decode cX1_init 10 = .ok (.putfield 9, 3) := by decide +kernel
theorem dX1_init_13 : decode cX1_init 13 = .ok (.aload_n 0, 1) := by decide +kernel
theorem dX1_init_14 : decode cX1_init 14 = .ok (.sipush 416, 3) := by decide +kernel
theorem dX1_init_17 : decode cX1_init 17 = .ok (.newarray .int, 2) := by decide +kernel
theorem dX1_init_19 : decode cX1_init 19 = .ok (.putfield 15, 3) := by decide +kernel
theorem dX1_init_22 : decode cX1_init 22 = .ok (.aload_n 0, 1) := by decide +kernel
theorem dX1_init_23 : decode cX1_init 23 = .ok (.sipush 416, 3) := by decide +kernel
theorem dX1_init_26 : decode cX1_init 26 = .ok (.newarray .int, 2) := by decide +kernel
theorem dX1_init_28 : decode cX1_init 28 = .ok (.putfield 18, 3) := by decide +kernel
theorem dX1_init_31 : decode cX1_init 31 = .ok (.aload_n 0, 1) := by decide +kernel
theorem dX1_init_32 : decode cX1_init 32 = .ok (.sipush 416, 3) := by decide +kernel
theorem dX1_init_35 : decode cX1_init 35 = .ok (.newarray .int, 2) := by decide +kernel
theorem dX1_init_37 : decode cX1_init 37 = .ok (.putfield 21, 3) := by decide +kernel
theorem dX1_init_40 : decode cX1_init 40 = .ok (.aload_n 0, 1) := by decide +kernel
theorem dX1_init_41 : decode cX1_init 41 = .ok (.bipush 16, 2) := by decide +kernel
theorem dX1_init_43 : decode cX1_init 43 = .ok (.newarray .int, 2) := by decide +kernel
theorem dX1_init_45 : decode cX1_init 45 = .ok (.putfield 24, 3) := by decide +kernel
theorem dX1_init_48 : decode cX1_init 48 = .ok (.aload_n 0, 1) := by decide +kernel
theorem dX1_init_49 : decode cX1_init 49 = .ok (.bipush 16, 2) := by decide +kernel
theorem dX1_init_51 : decode cX1_init 51 = .ok (.newarray .int, 2) := by decide +kernel
theorem dX1_init_53 : decode cX1_init 53 = .ok (.putfield 27, 3) := by decide +kernel
theorem dX1_init_56 : decode cX1_init 56 = .ok (.return_, 1) := by decide +kernel
theorem dX1_ofSort_0 : decode cX1_ofSort 0 = .ok (.iload_n 1, 1) := by decide +kernel
theorem dX1_ofSort_1 : decode cX1_ofSort 1 = .ok (.ifCond .ne 10, 3) := by decide +kernel
theorem dX1_ofSort_4 : decode cX1_ofSort 4 = .ok (.aload_n 0, 1) := by decide +kernel
theorem dX1_ofSort_5 : decode cX1_ofSort 5 = .ok (.getfield 15, 3) := by decide +kernel
theorem dX1_ofSort_8 : decode cX1_ofSort 8 = .ok (.iload_n 2, 1) := by decide +kernel
theorem dX1_ofSort_9 : decode cX1_ofSort 9 = .ok (.iaload, 1) := by decide +kernel
theorem dX1_ofSort_10 : decode cX1_ofSort 10 = .ok (.ireturn, 1) := by decide +kernel
theorem dX1_ofSort_11 : decode cX1_ofSort 11 = .ok (.iload_n 1, 1) := by decide +kernel
theorem dX1_ofSort_12 : decode cX1_ofSort 12 = .ok (.iconst 1, 1) := by decide +kernel
theorem dX1_ofSort_13 : decode cX1_ofSort 13 = .ok (.if_icmp .ne 12, 3) := by decide +kernel
theorem dX1_ofSort_16 : decode cX1_ofSort 16 = .ok (.aload_n 0, 1) := by decide +kernel
theorem dX1_ofSort_17 : decode cX1_ofSort 17 = .ok (.getfield 18, 3) := by decide +kernel
theorem dX1_ofSort_20 : decode cX1_ofSort 20 = .ok (.iload_n 2, 1) := by decide +kernel
theorem dX1_ofSort_21 : decode cX1_ofSort 21 = .ok (.iaload, 1) := by decide +kernel
theorem dX1_ofSort_22 : decode cX1_ofSort 22 = .ok (.goto 9, 3) := by decide +kernel
theorem dX1_ofSort_25 : decode cX1_ofSort 25 = .ok (.aload_n 0, 1) := by decide +kernel
theorem dX1_ofSort_26 : decode cX1_ofSort 26 = .ok (.getfield 21, 3) := by decide +kernel
theorem dX1_ofSort_29 : decode cX1_ofSort 29 = .ok (.iload_n 2, 1) := by decide +kernel
theorem dX1_ofSort_30 : decode cX1_ofSort 30 = .ok (.iaload, 1) := by decide +kernel
theorem dX1_ofSort_31 : decode cX1_ofSort 31 = .ok (.ireturn, 1) := by decide +kernel
theorem dX1_clear_0 : decode cX1_clear 0 = .ok (.aload_n 0, 1) := by decide +kernel
theorem dX1_clear_1 : decode cX1_clear 1 = .ok (.getfield 9, 3) := by decide +kernel
theorem dX1_clear_4 : decode cX1_clear 4 = .ok (.iconst 0, 1) := by decide +kernel
theorem dX1_clear_5 : decode cX1_clear 5 = .ok (.invokestatic 30, 3) := by decide +kernel
theorem dX1_clear_8 : decode cX1_clear 8 = .ok (.aload_n 0, 1) := by decide +kernel
theorem dX1_clear_9 : decode cX1_clear 9 = .ok (.getfield 15, 3) := by decide +kernel
theorem dX1_clear_12 : decode cX1_clear 12 = .ok (.iconst 0, 1) := by decide +kernel
theorem dX1_clear_13 : decode cX1_clear 13 = .ok (.invokestatic 30, 3) := by decide +kernel
theorem dX1_clear_16 : decode cX1_clear 16 = .ok (.aload_n 0, 1) := by decide +kernel
theorem dX1_clear_17 : decode cX1_clear 17 = .ok (.getfield 18, 3) := by decide +kernel
theorem dX1_clear_20 : decode cX1_clear 20 = .ok (.iconst 0, 1) := by decide +kernel
theorem dX1_clear_21 : decode cX1_clear 21 = .ok (.invokestatic 30, 3) := by decide +kernel
theorem dX1_clear_24 : decode cX1_clear 24 = .ok (.aload_n 0, 1) := by decide +kernel
theorem dX1_clear_25 : decode cX1_clear 25 = .ok (.getfield 21, 3) := by decide +kernel
theorem dX1_clear_28 : decode cX1_clear 28 = .ok (.iconst 0, 1) := by decide +kernel
theorem dX1_clear_29 : decode cX1_clear 29 = .ok (.invokestatic 30, 3) := by decide +kernel
theorem dX1_clear_32 : decode cX1_clear 32 = .ok (.aload_n 0, 1) := by decide +kernel
theorem dX1_clear_33 : decode cX1_clear 33 = .ok (.getfield 24, 3) := by decide +kernel
theorem dX1_clear_36 : decode cX1_clear 36 = .ok (.iconst 0, 1) := by decide +kernel
theorem dX1_clear_37 : decode cX1_clear 37 = .ok (.invokestatic 30, 3) := by decide +kernel
theorem dX1_clear_40 : decode cX1_clear 40 = .ok (.aload_n 0, 1) := by decide +kernel
theorem dX1_clear_41 : decode cX1_clear 41 = .ok (.getfield 27, 3) := by decide +kernel
theorem dX1_clear_44 : decode cX1_clear 44 = .ok (.iconst 0, 1) := by decide +kernel
theorem dX1_clear_45 : decode cX1_clear 45 = .ok (.invokestatic 30, 3) := by decide +kernel
theorem dX1_clear_48 : decode cX1_clear 48 = .ok (.return_, 1) := by decide +kernel
theorem dX1_placeDeclarations_0 : decode cX1_placeDeclarations 0 = .ok (.iconst 0, 1) := by decide +kernel
theorem dX1_placeDeclarations_1 : decode cX1_placeDeclarations 1 = .ok (.istore_n 2, 1) := by decide +kernel
theorem dX1_placeDeclarations_2 : decode cX1_placeDeclarations 2 = .ok (.iload_n 2, 1) := by decide +kernel
theorem dX1_placeDeclarations_3 : decode cX1_placeDeclarations 3 = .ok (.aload_n 1, 1) := by decide +kernel
theorem dX1_placeDeclarations_4 : decode cX1_placeDeclarations 4 = .ok (.getfield 36, 3) := by decide +kernel
theorem dX1_placeDeclarations_7 : decode cX1_placeDeclarations 7 = .ok (.if_icmp .ge 89, 3) := by decide +kernel
theorem dX1_placeDeclarations_10 : decode cX1_placeDeclarations 10 = .ok (.aload_n 1, 1) := by decide +kernel
theorem dX1_placeDeclarations_11 : decode cX1_placeDeclarations 11 = .ok (.getfield 42, 3) := by decide +kernel
theorem dX1_placeDeclarations_14 : decode cX1_placeDeclarations 14 = .ok (.iload_n 2, 1) := by decide +kernel
theorem dX1_placeDeclarations_15 : decode cX1_placeDeclarations 15 = .ok (.iaload, 1) := by decide +kernel
theorem dX1_placeDeclarations_16 : decode cX1_placeDeclarations 16 = .ok (.istore_n 3, 1) := by decide +kernel
theorem dX1_placeDeclarations_17 : decode cX1_placeDeclarations 17 = .ok (.aload_n 1, 1) := by decide +kernel
theorem dX1_placeDeclarations_18 : decode cX1_placeDeclarations 18 = .ok (.getfield 45, 3) := by decide +kernel
theorem dX1_placeDeclarations_21 : decode cX1_placeDeclarations 21 = .ok (.iload_n 2, 1) := by decide +kernel
theorem dX1_placeDeclarations_22 : decode cX1_placeDeclarations 22 = .ok (.iaload, 1) := by decide +kernel
theorem dX1_placeDeclarations_23 : decode cX1_placeDeclarations 23 = .ok (.istore 4, 2) := by decide +kernel
theorem dX1_placeDeclarations_25 : decode cX1_placeDeclarations 25 = .ok (.aload_n 0, 1) := by decide +kernel
theorem dX1_placeDeclarations_26 : decode cX1_placeDeclarations 26 = .ok (.getfield 15, 3) := by decide +kernel
theorem dX1_placeDeclarations_29 : decode cX1_placeDeclarations 29 = .ok (.iload_n 3, 1) := by decide +kernel
theorem dX1_placeDeclarations_30 : decode cX1_placeDeclarations 30 = .ok (.bipush 26, 2) := by decide +kernel
theorem dX1_placeDeclarations_32 : decode cX1_placeDeclarations 32 = .ok (.imul, 1) := by decide +kernel
theorem dX1_placeDeclarations_33 : decode cX1_placeDeclarations 33 = .ok (.iload 4, 2) := by decide +kernel
theorem dX1_placeDeclarations_35 : decode cX1_placeDeclarations 35 = .ok (.iadd, 1) := by decide +kernel
theorem dX1_placeDeclarations_36 : decode cX1_placeDeclarations 36 = .ok (.iconst 1, 1) := by decide +kernel
theorem dX1_placeDeclarations_37 : decode cX1_placeDeclarations 37 = .ok (.iload_n 2, 1) := by decide +kernel
theorem dX1_placeDeclarations_38 : decode cX1_placeDeclarations 38 = .ok (.ishl, 1) := by decide +kernel
theorem dX1_placeDeclarations_39 : decode cX1_placeDeclarations 39 = .ok (.iastore, 1) := by decide +kernel
theorem dX1_placeDeclarations_40 : decode cX1_placeDeclarations 40 = .ok (.aload_n 0, 1) := by decide +kernel
theorem dX1_placeDeclarations_41 : decode cX1_placeDeclarations 41 = .ok (.getfield 27, 3) := by decide +kernel
theorem dX1_placeDeclarations_44 : decode cX1_placeDeclarations 44 = .ok (.iload_n 3, 1) := by decide +kernel
theorem dX1_placeDeclarations_45 : decode cX1_placeDeclarations 45 = .ok (.dup2, 1) := by decide +kernel
theorem dX1_placeDeclarations_46 : decode cX1_placeDeclarations 46 = .ok (.iaload, 1) := by decide +kernel
theorem dX1_placeDeclarations_47 : decode cX1_placeDeclarations 47 = .ok (.iconst 1, 1) := by decide +kernel
theorem dX1_placeDeclarations_48 : decode cX1_placeDeclarations 48 = .ok (.iload 4, 2) := by decide +kernel
theorem dX1_placeDeclarations_50 : decode cX1_placeDeclarations 50 = .ok (.ishl, 1) := by decide +kernel
theorem dX1_placeDeclarations_51 : decode cX1_placeDeclarations 51 = .ok (.ior, 1) := by decide +kernel
theorem dX1_placeDeclarations_52 : decode cX1_placeDeclarations 52 = .ok (.iastore, 1) := by decide +kernel
theorem dX1_placeDeclarations_53 : decode cX1_placeDeclarations 53 = .ok (.aload_n 1, 1) := by decide +kernel
theorem dX1_placeDeclarations_54 : decode cX1_placeDeclarations 54 = .ok (.getfield 48, 3) := by decide +kernel
theorem dX1_placeDeclarations_57 : decode cX1_placeDeclarations 57 = .ok (.iload_n 2, 1) := by decide +kernel
theorem dX1_placeDeclarations_58 : decode cX1_placeDeclarations 58 = .ok (.iaload, 1) := by decide +kernel
theorem dX1_placeDeclarations_59 : decode cX1_placeDeclarations 59 = .ok (.ifCond .eq 31, 3) := by decide +kernel
theorem dX1_placeDeclarations_62 : decode cX1_placeDeclarations 62 = .ok (.aload_n 0, 1) := by decide +kernel
theorem dX1_placeDeclarations_63 : decode cX1_placeDeclarations 63 = .ok (.getfield 9, 3) := by decide +kernel
theorem dX1_placeDeclarations_66 : decode cX1_placeDeclarations 66 = .ok (.iload_n 3, 1) := by decide +kernel
theorem dX1_placeDeclarations_67 : decode cX1_placeDeclarations 67 = .ok (.bipush 26, 2) := by decide +kernel
theorem dX1_placeDeclarations_69 : decode cX1_placeDeclarations 69 = .ok (.imul, 1) := by decide +kernel
theorem dX1_placeDeclarations_70 : decode cX1_placeDeclarations 70 = .ok (.iload 4, 2) := by decide +kernel
theorem dX1_placeDeclarations_72 : decode cX1_placeDeclarations 72 = .ok (.iadd, 1) := by decide +kernel
theorem dX1_placeDeclarations_73 : decode cX1_placeDeclarations 73 = .ok (.iconst 1, 1) := by decide +kernel
theorem dX1_placeDeclarations_74 : decode cX1_placeDeclarations 74 = .ok (.iload_n 2, 1) := by decide +kernel
theorem dX1_placeDeclarations_75 : decode cX1_placeDeclarations 75 = .ok (.ishl, 1) := by decide +kernel
theorem dX1_placeDeclarations_76 : decode cX1_placeDeclarations 76 = .ok (.iastore, 1) := by decide +kernel
theorem dX1_placeDeclarations_77 : decode cX1_placeDeclarations 77 = .ok (.aload_n 0, 1) := by decide +kernel
theorem dX1_placeDeclarations_78 : decode cX1_placeDeclarations 78 = .ok (.getfield 24, 3) := by decide +kernel
theorem dX1_placeDeclarations_81 : decode cX1_placeDeclarations 81 = .ok (.iload_n 3, 1) := by decide +kernel
theorem dX1_placeDeclarations_82 : decode cX1_placeDeclarations 82 = .ok (.dup2, 1) := by decide +kernel
theorem dX1_placeDeclarations_83 : decode cX1_placeDeclarations 83 = .ok (.iaload, 1) := by decide +kernel
theorem dX1_placeDeclarations_84 : decode cX1_placeDeclarations 84 = .ok (.iconst 1, 1) := by decide +kernel
theorem dX1_placeDeclarations_85 : decode cX1_placeDeclarations 85 = .ok (.iload 4, 2) := by decide +kernel
theorem dX1_placeDeclarations_87 : decode cX1_placeDeclarations 87 = .ok (.ishl, 1) := by decide +kernel
theorem dX1_placeDeclarations_88 : decode cX1_placeDeclarations 88 = .ok (.ior, 1) := by decide +kernel
theorem dX1_placeDeclarations_89 : decode cX1_placeDeclarations 89 = .ok (.iastore, 1) := by decide +kernel
theorem dX1_placeDeclarations_90 : decode cX1_placeDeclarations 90 = .ok (.iinc 2 1, 3) := by decide +kernel
theorem dX1_placeDeclarations_93 : decode cX1_placeDeclarations 93 = .ok (.goto (-91), 3) := by decide +kernel
theorem dX1_placeDeclarations_96 : decode cX1_placeDeclarations 96 = .ok (.return_, 1) := by decide +kernel
theorem dX1_passOnAll_0 : decode cX1_passOnAll 0 = .ok (.ldc 51, 2) := by decide +kernel
theorem dX1_passOnAll_2 : decode cX1_passOnAll 2 = .ok (.istore_n 2, 1) := by decide +kernel
theorem dX1_passOnAll_3 : decode cX1_passOnAll 3 = .ok (.iconst 0, 1) := by decide +kernel
theorem dX1_passOnAll_4 : decode cX1_passOnAll 4 = .ok (.istore_n 3, 1) := by decide +kernel
theorem dX1_passOnAll_5 : decode cX1_passOnAll 5 = .ok (.iload_n 3, 1) := by decide +kernel
theorem dX1_passOnAll_6 : decode cX1_passOnAll 6 = .ok (.sipush 12480, 3) := by decide +kernel
theorem dX1_passOnAll_9 : decode cX1_passOnAll 9 = .ok (.if_icmp .gt 100, 3) := by decide +kernel
theorem dX1_passOnAll_12 : decode cX1_passOnAll 12 = .ok (.iload_n 2, 1) := by decide +kernel
theorem dX1_passOnAll_13 : decode cX1_passOnAll 13 = .ok (.ifCond .eq 96, 3) := by decide +kernel
theorem dX1_passOnAll_16 : decode cX1_passOnAll 16 = .ok (.iconst 0, 1) := by decide +kernel
theorem dX1_passOnAll_17 : decode cX1_passOnAll 17 = .ok (.istore 4, 2) := by decide +kernel
theorem dX1_passOnAll_19 : decode cX1_passOnAll 19 = .ok (.iconst 0, 1) := by decide +kernel
theorem dX1_passOnAll_20 : decode cX1_passOnAll 20 = .ok (.istore 5, 2) := by decide +kernel
theorem dX1_passOnAll_22 : decode cX1_passOnAll 22 = .ok (.iload 5, 2) := by decide +kernel
theorem dX1_passOnAll_24 : decode cX1_passOnAll 24 = .ok (.aload_n 1, 1) := by decide +kernel
theorem dX1_passOnAll_25 : decode cX1_passOnAll 25 = .ok (.getfield 52, 3) := by decide +kernel
theorem dX1_passOnAll_28 : decode cX1_passOnAll 28 = .ok (.if_icmp .ge 72, 3) := by decide +kernel
theorem dX1_passOnAll_31 : decode cX1_passOnAll 31 = .ok (.iload_n 2, 1) := by decide +kernel
theorem dX1_passOnAll_32 : decode cX1_passOnAll 32 = .ok (.iload 4, 2) := by decide +kernel
theorem dX1_passOnAll_34 : decode cX1_passOnAll 34 = .ok (.ior, 1) := by decide +kernel
theorem dX1_passOnAll_35 : decode cX1_passOnAll 35 = .ok (.aload_n 1, 1) := by decide +kernel
theorem dX1_passOnAll_36 : decode cX1_passOnAll 36 = .ok (.getfield 55, 3) := by decide +kernel
theorem dX1_passOnAll_39 : decode cX1_passOnAll 39 = .ok (.iload 5, 2) := by decide +kernel
theorem dX1_passOnAll_41 : decode cX1_passOnAll 41 = .ok (.iaload, 1) := by decide +kernel
theorem dX1_passOnAll_42 : decode cX1_passOnAll 42 = .ok (.ishr, 1) := by decide +kernel
theorem dX1_passOnAll_43 : decode cX1_passOnAll 43 = .ok (.iconst 1, 1) := by decide +kernel
theorem dX1_passOnAll_44 : decode cX1_passOnAll 44 = .ok (.iand, 1) := by decide +kernel
theorem dX1_passOnAll_45 : decode cX1_passOnAll 45 = .ok (.ifCond .eq 7, 3) := by decide +kernel
theorem dX1_passOnAll_48 : decode cX1_passOnAll 48 = .ok (.iconst 1, 1) := by decide +kernel
theorem dX1_passOnAll_49 : decode cX1_passOnAll 49 = .ok (.goto 4, 3) := by decide +kernel
theorem dX1_passOnAll_52 : decode cX1_passOnAll 52 = .ok (.iconst 0, 1) := by decide +kernel
theorem dX1_passOnAll_53 : decode cX1_passOnAll 53 = .ok (.istore 6, 2) := by decide +kernel
theorem dX1_passOnAll_55 : decode cX1_passOnAll 55 = .ok (.iload 6, 2) := by decide +kernel
theorem dX1_passOnAll_57 : decode cX1_passOnAll 57 = .ok (.ifCond .eq 37, 3) := by decide +kernel
theorem dX1_passOnAll_60 : decode cX1_passOnAll 60 = .ok (.aload_n 1, 1) := by decide +kernel
theorem dX1_passOnAll_61 : decode cX1_passOnAll 61 = .ok (.getfield 58, 3) := by decide +kernel
theorem dX1_passOnAll_64 : decode cX1_passOnAll 64 = .ok (.iload 5, 2) := by decide +kernel
theorem dX1_passOnAll_66 : decode cX1_passOnAll 66 = .ok (.iaload, 1) := by decide +kernel
theorem dX1_passOnAll_67 : decode cX1_passOnAll 67 = .ok (.ifCond .eq 27, 3) := by decide +kernel
theorem dX1_passOnAll_70 : decode cX1_passOnAll 70 = .ok (.aload_n 0, 1) := by decide +kernel
theorem dX1_passOnAll_71 : decode cX1_passOnAll 71 = .ok (.aload_n 1, 1) := by decide +kernel
theorem dX1_passOnAll_72 : decode cX1_passOnAll 72 = .ok (.iload 5, 2) := by decide +kernel
theorem dX1_passOnAll_74 : decode cX1_passOnAll 74 = .ok (.invokevirtual 61, 3) := by decide +kernel
theorem dX1_passOnAll_77 : decode cX1_passOnAll 77 = .ok (.ifCond .eq 17, 3) := by decide +kernel
theorem dX1_passOnAll_80 : decode cX1_passOnAll 80 = .ok (.iload 4, 2) := by decide +kernel
theorem dX1_passOnAll_82 : decode cX1_passOnAll 82 = .ok (.iconst 1, 1) := by decide +kernel
theorem dX1_passOnAll_83 : decode cX1_passOnAll 83 = .ok (.aload_n 1, 1) := by decide +kernel
theorem dX1_passOnAll_84 : decode cX1_passOnAll 84 = .ok (.getfield 65, 3) := by decide +kernel
theorem dX1_passOnAll_87 : decode cX1_passOnAll 87 = .ok (.iload 5, 2) := by decide +kernel
theorem dX1_passOnAll_89 : decode cX1_passOnAll 89 = .ok (.iaload, 1) := by decide +kernel
theorem dX1_passOnAll_90 : decode cX1_passOnAll 90 = .ok (.ishl, 1) := by decide +kernel
theorem dX1_passOnAll_91 : decode cX1_passOnAll 91 = .ok (.ior, 1) := by decide +kernel
theorem dX1_passOnAll_92 : decode cX1_passOnAll 92 = .ok (.istore 4, 2) := by decide +kernel
theorem dX1_passOnAll_94 : decode cX1_passOnAll 94 = .ok (.iinc 5 1, 3) := by decide +kernel
theorem dX1_passOnAll_97 : decode cX1_passOnAll 97 = .ok (.goto (-75), 3) := by decide +kernel
theorem dX1_passOnAll_100 : decode cX1_passOnAll 100 = .ok (.iload 4, 2) := by decide +kernel
theorem dX1_passOnAll_102 : decode cX1_passOnAll 102 = .ok (.istore_n 2, 1) := by decide +kernel
theorem dX1_passOnAll_103 : decode cX1_passOnAll 103 = .ok (.iinc 3 1, 3) := by decide +kernel
theorem dX1_passOnAll_106 : decode cX1_passOnAll 106 = .ok (.goto (-101), 3) := by decide +kernel
theorem dX1_passOnAll_109 : decode cX1_passOnAll 109 = .ok (.return_, 1) := by decide +kernel
theorem dX1_passOn_0 : decode cX1_passOn 0 = .ok (.aload_n 1, 1) := by decide +kernel
theorem dX1_passOn_1 : decode cX1_passOn 1 = .ok (.getfield 65, 3) := by decide +kernel
theorem dX1_passOn_4 : decode cX1_passOn 4 = .ok (.iload_n 2, 1) := by decide +kernel
theorem dX1_passOn_5 : decode cX1_passOn 5 = .ok (.iaload, 1) := by decide +kernel
theorem dX1_passOn_6 : decode cX1_passOn 6 = .ok (.istore_n 3, 1) := by decide +kernel
theorem dX1_passOn_7 : decode cX1_passOn 7 = .ok (.aload_n 1, 1) := by decide +kernel
theorem dX1_passOn_8 : decode cX1_passOn 8 = .ok (.getfield 55, 3) := by decide +kernel
theorem dX1_passOn_11 : decode cX1_passOn 11 = .ok (.iload_n 2, 1) := by decide +kernel
theorem dX1_passOn_12 : decode cX1_passOn 12 = .ok (.iaload, 1) := by decide +kernel
theorem dX1_passOn_13 : decode cX1_passOn 13 = .ok (.istore 4, 2) := by decide +kernel
theorem dX1_passOn_15 : decode cX1_passOn 15 = .ok (.aload_n 1, 1) := by decide +kernel
theorem dX1_passOn_16 : decode cX1_passOn 16 = .ok (.getfield 68, 3) := by decide +kernel
theorem dX1_passOn_19 : decode cX1_passOn 19 = .ok (.iload_n 2, 1) := by decide +kernel
theorem dX1_passOn_20 : decode cX1_passOn 20 = .ok (.iaload, 1) := by decide +kernel
theorem dX1_passOn_21 : decode cX1_passOn 21 = .ok (.istore 5, 2) := by decide +kernel
theorem dX1_passOn_23 : decode cX1_passOn 23 = .ok (.aload_n 0, 1) := by decide +kernel
theorem dX1_passOn_24 : decode cX1_passOn 24 = .ok (.getfield 24, 3) := by decide +kernel
theorem dX1_passOn_27 : decode cX1_passOn 27 = .ok (.iload 4, 2) := by decide +kernel
theorem dX1_passOn_29 : decode cX1_passOn 29 = .ok (.iaload, 1) := by decide +kernel
theorem dX1_passOn_30 : decode cX1_passOn 30 = .ok (.iload 5, 2) := by decide +kernel
theorem dX1_passOn_32 : decode cX1_passOn 32 = .ok (.iconst (-1), 1) := by decide +kernel
theorem dX1_passOn_33 : decode cX1_passOn 33 = .ok (.if_icmp .eq 10, 3) := by decide +kernel
theorem dX1_passOn_36 : decode cX1_passOn 36 = .ok (.iconst 1, 1) := by decide +kernel
theorem dX1_passOn_37 : decode cX1_passOn 37 = .ok (.iload 5, 2) := by decide +kernel
theorem dX1_passOn_39 : decode cX1_passOn 39 = .ok (.ishl, 1) := by decide +kernel
theorem dX1_passOn_40 : decode cX1_passOn 40 = .ok (.goto 11, 3) := by decide +kernel
theorem dX1_passOn_43 : decode cX1_passOn 43 = .ok (.aload_n 1, 1) := by decide +kernel
theorem dX1_passOn_44 : decode cX1_passOn 44 = .ok (.getfield 71, 3) := by decide +kernel
theorem dX1_passOn_47 : decode cX1_passOn 47 = .ok (.iload_n 2, 1) := by decide +kernel
theorem dX1_passOn_48 : decode cX1_passOn 48 = .ok (.iaload, 1) := by decide +kernel
theorem dX1_passOn_49 : decode cX1_passOn 49 = .ok (.iconst (-1), 1) := by decide +kernel
theorem dX1_passOn_50 : decode cX1_passOn 50 = .ok (.ixor, 1) := by decide +kernel
theorem dX1_passOn_51 : decode cX1_passOn 51 = .ok (.iand, 1) := by decide +kernel
theorem dX1_passOn_52 : decode cX1_passOn 52 = .ok (.istore 6, 2) := by decide +kernel
theorem dX1_passOn_54 : decode cX1_passOn 54 = .ok (.iconst 0, 1) := by decide +kernel
theorem dX1_passOn_55 : decode cX1_passOn 55 = .ok (.istore 7, 2) := by decide +kernel
theorem dX1_passOn_57 : decode cX1_passOn 57 = .ok (.iconst 0, 1) := by decide +kernel
theorem dX1_passOn_58 : decode cX1_passOn 58 = .ok (.istore 8, 2) := by decide +kernel
theorem dX1_passOn_60 : decode cX1_passOn 60 = .ok (.iload 8, 2) := by decide +kernel
theorem dX1_passOn_62 : decode cX1_passOn 62 = .ok (.bipush 26, 2) := by decide +kernel
theorem dX1_passOn_64 : decode cX1_passOn 64 = .ok (.if_icmp .ge 136, 3) := by decide +kernel
theorem dX1_passOn_67 : decode cX1_passOn 67 = .ok (.iload 6, 2) := by decide +kernel
theorem dX1_passOn_69 : decode cX1_passOn 69 = .ok (.iload 8, 2) := by decide +kernel
theorem dX1_passOn_71 : decode cX1_passOn 71 = .ok (.ishr, 1) := by decide +kernel
theorem dX1_passOn_72 : decode cX1_passOn 72 = .ok (.ifCond .eq 128, 3) := by decide +kernel
theorem dX1_passOn_75 : decode cX1_passOn 75 = .ok (.iload 5, 2) := by decide +kernel
theorem dX1_passOn_77 : decode cX1_passOn 77 = .ok (.iconst (-1), 1) := by decide +kernel
theorem dX1_passOn_78 : decode cX1_passOn 78 = .ok (.if_icmp .eq 12, 3) := by decide +kernel
theorem dX1_passOn_81 : decode cX1_passOn 81 = .ok (.aload_n 1, 1) := by decide +kernel
theorem dX1_passOn_82 : decode cX1_passOn 82 = .ok (.getfield 74, 3) := by decide +kernel
theorem dX1_passOn_85 : decode cX1_passOn 85 = .ok (.iload_n 2, 1) := by decide +kernel
theorem dX1_passOn_86 : decode cX1_passOn 86 = .ok (.iaload, 1) := by decide +kernel
theorem dX1_passOn_87 : decode cX1_passOn 87 = .ok (.goto 5, 3) := by decide +kernel
theorem dX1_passOn_90 : decode cX1_passOn 90 = .ok (.iload 8, 2) := by decide +kernel
theorem dX1_passOn_92 : decode cX1_passOn 92 = .ok (.istore 9, 2) := by decide +kernel
theorem dX1_passOn_94 : decode cX1_passOn 94 = .ok (.iload 6, 2) := by decide +kernel
theorem dX1_passOn_96 : decode cX1_passOn 96 = .ok (.iload 8, 2) := by decide +kernel
theorem dX1_passOn_98 : decode cX1_passOn 98 = .ok (.ishr, 1) := by decide +kernel
theorem dX1_passOn_99 : decode cX1_passOn 99 = .ok (.iconst 1, 1) := by decide +kernel
theorem dX1_passOn_100 : decode cX1_passOn 100 = .ok (.iand, 1) := by decide +kernel
theorem dX1_passOn_101 : decode cX1_passOn 101 = .ok (.ifCond .eq 93, 3) := by decide +kernel
theorem dX1_passOn_104 : decode cX1_passOn 104 = .ok (.aload_n 0, 1) := by decide +kernel
theorem dX1_passOn_105 : decode cX1_passOn 105 = .ok (.getfield 27, 3) := by decide +kernel
theorem dX1_passOn_108 : decode cX1_passOn 108 = .ok (.iload_n 3, 1) := by decide +kernel
theorem dX1_passOn_109 : decode cX1_passOn 109 = .ok (.iaload, 1) := by decide +kernel
theorem dX1_passOn_110 : decode cX1_passOn 110 = .ok (.iload 9, 2) := by decide +kernel
theorem dX1_passOn_112 : decode cX1_passOn 112 = .ok (.ishr, 1) := by decide +kernel
theorem dX1_passOn_113 : decode cX1_passOn 113 = .ok (.iconst 1, 1) := by decide +kernel
theorem dX1_passOn_114 : decode cX1_passOn 114 = .ok (.iand, 1) := by decide +kernel
theorem dX1_passOn_115 : decode cX1_passOn 115 = .ok (.ifCond .ne 79, 3) := by decide +kernel
theorem dX1_passOn_118 : decode cX1_passOn 118 = .ok (.iload_n 3, 1) := by decide +kernel
theorem dX1_passOn_119 : decode cX1_passOn 119 = .ok (.bipush 26, 2) := by decide +kernel
theorem dX1_passOn_121 : decode cX1_passOn 121 = .ok (.imul, 1) := by decide +kernel
theorem dX1_passOn_122 : decode cX1_passOn 122 = .ok (.iload 9, 2) := by decide +kernel
theorem dX1_passOn_124 : decode cX1_passOn 124 = .ok (.iadd, 1) := by decide +kernel
theorem dX1_passOn_125 : decode cX1_passOn 125 = .ok (.istore 10, 2) := by decide +kernel
theorem dX1_passOn_127 : decode cX1_passOn 127 = .ok (.aload_n 0, 1) := by decide +kernel
theorem dX1_passOn_128 : decode cX1_passOn 128 = .ok (.getfield 9, 3) := by decide +kernel
theorem dX1_passOn_131 : decode cX1_passOn 131 = .ok (.iload 10, 2) := by decide +kernel
theorem dX1_passOn_133 : decode cX1_passOn 133 = .ok (.iaload, 1) := by decide +kernel
theorem dX1_passOn_134 : decode cX1_passOn 134 = .ok (.istore 11, 2) := by decide +kernel
theorem dX1_passOn_136 : decode cX1_passOn 136 = .ok (.aload_n 0, 1) := by decide +kernel
theorem dX1_passOn_137 : decode cX1_passOn 137 = .ok (.getfield 9, 3) := by decide +kernel
theorem dX1_passOn_140 : decode cX1_passOn 140 = .ok (.iload 10, 2) := by decide +kernel
theorem dX1_passOn_142 : decode cX1_passOn 142 = .ok (.dup2, 1) := by decide +kernel
theorem dX1_passOn_143 : decode cX1_passOn 143 = .ok (.iaload, 1) := by decide +kernel
theorem dX1_passOn_144 : decode cX1_passOn 144 = .ok (.aload_n 0, 1) := by decide +kernel
theorem dX1_passOn_145 : decode cX1_passOn 145 = .ok (.getfield 9, 3) := by decide +kernel
theorem dX1_passOn_148 : decode cX1_passOn 148 = .ok (.iload 4, 2) := by decide +kernel
theorem dX1_passOn_150 : decode cX1_passOn 150 = .ok (.bipush 26, 2) := by decide +kernel
theorem dX1_passOn_152 : decode cX1_passOn 152 = .ok (.imul, 1) := by decide +kernel
theorem dX1_passOn_153 : decode cX1_passOn 153 = .ok (.iload 8, 2) := by decide +kernel
theorem dX1_passOn_155 : decode cX1_passOn 155 = .ok (.iadd, 1) := by decide +kernel
theorem dX1_passOn_156 : decode cX1_passOn 156 = .ok (.iaload, 1) := by decide +kernel
theorem dX1_passOn_157 : decode cX1_passOn 157 = .ok (.ior, 1) := by decide +kernel
theorem dX1_passOn_158 : decode cX1_passOn 158 = .ok (.iastore, 1) := by decide +kernel
theorem dX1_passOn_159 : decode cX1_passOn 159 = .ok (.aload_n 0, 1) := by decide +kernel
theorem dX1_passOn_160 : decode cX1_passOn 160 = .ok (.getfield 24, 3) := by decide +kernel
theorem dX1_passOn_163 : decode cX1_passOn 163 = .ok (.iload_n 3, 1) := by decide +kernel
theorem dX1_passOn_164 : decode cX1_passOn 164 = .ok (.dup2, 1) := by decide +kernel
theorem dX1_passOn_165 : decode cX1_passOn 165 = .ok (.iaload, 1) := by decide +kernel
theorem dX1_passOn_166 : decode cX1_passOn 166 = .ok (.iconst 1, 1) := by decide +kernel
theorem dX1_passOn_167 : decode cX1_passOn 167 = .ok (.iload 9, 2) := by decide +kernel
theorem dX1_passOn_169 : decode cX1_passOn 169 = .ok (.ishl, 1) := by decide +kernel
theorem dX1_passOn_170 : decode cX1_passOn 170 = .ok (.ior, 1) := by decide +kernel
theorem dX1_passOn_171 : decode cX1_passOn 171 = .ok (.iastore, 1) := by decide +kernel
theorem dX1_passOn_172 : decode cX1_passOn 172 = .ok (.iload 7, 2) := by decide +kernel
theorem dX1_passOn_174 : decode cX1_passOn 174 = .ok (.aload_n 0, 1) := by decide +kernel
theorem dX1_passOn_175 : decode cX1_passOn 175 = .ok (.getfield 9, 3) := by decide +kernel
theorem dX1_passOn_178 : decode cX1_passOn 178 = .ok (.iload 10, 2) := by decide +kernel
theorem dX1_passOn_180 : decode cX1_passOn 180 = .ok (.iaload, 1) := by decide +kernel
theorem dX1_passOn_181 : decode cX1_passOn 181 = .ok (.iload 11, 2) := by decide +kernel
theorem dX1_passOn_183 : decode cX1_passOn 183 = .ok (.if_icmp .eq 7, 3) := by decide +kernel
theorem dX1_passOn_186 : decode cX1_passOn 186 = .ok (.iconst 1, 1) := by decide +kernel
theorem dX1_passOn_187 : decode cX1_passOn 187 = .ok (.goto 4, 3) := by decide +kernel
theorem dX1_passOn_190 : decode cX1_passOn 190 = .ok (.iconst 0, 1) := by decide +kernel
theorem dX1_passOn_191 : decode cX1_passOn 191 = .ok (.ior, 1) := by decide +kernel
theorem dX1_passOn_192 : decode cX1_passOn 192 = .ok (.istore 7, 2) := by decide +kernel
theorem dX1_passOn_194 : decode cX1_passOn 194 = .ok (.iinc 8 1, 3) := by decide +kernel
theorem dX1_passOn_197 : decode cX1_passOn 197 = .ok (.goto (-137), 3) := by decide +kernel
theorem dX1_passOn_200 : decode cX1_passOn 200 = .ok (.iload 7, 2) := by decide +kernel
theorem dX1_passOn_202 : decode cX1_passOn 202 = .ok (.ireturn, 1) := by decide +kernel
theorem dX1_bringAll_0 : decode cX1_bringAll 0 = .ok (.iconst 0, 1) := by decide +kernel
theorem dX1_bringAll_1 : decode cX1_bringAll 1 = .ok (.istore_n 2, 1) := by decide +kernel
theorem dX1_bringAll_2 : decode cX1_bringAll 2 = .ok (.iload_n 2, 1) := by decide +kernel
theorem dX1_bringAll_3 : decode cX1_bringAll 3 = .ok (.aload_n 1, 1) := by decide +kernel
theorem dX1_bringAll_4 : decode cX1_bringAll 4 = .ok (.getfield 52, 3) := by decide +kernel
theorem dX1_bringAll_7 : decode cX1_bringAll 7 = .ok (.if_icmp .ge 151, 3) := by decide +kernel
theorem dX1_bringAll_10 : decode cX1_bringAll 10 = .ok (.aload_n 1, 1) := by decide +kernel
theorem dX1_bringAll_11 : decode cX1_bringAll 11 = .ok (.getfield 65, 3) := by decide +kernel
theorem dX1_bringAll_14 : decode cX1_bringAll 14 = .ok (.iload_n 2, 1) := by decide +kernel
theorem dX1_bringAll_15 : decode cX1_bringAll 15 = .ok (.iaload, 1) := by decide +kernel
theorem dX1_bringAll_16 : decode cX1_bringAll 16 = .ok (.bipush 26, 2) := by decide +kernel
theorem dX1_bringAll_18 : decode cX1_bringAll 18 = .ok (.imul, 1) := by decide +kernel
theorem dX1_bringAll_19 : decode cX1_bringAll 19 = .ok (.istore_n 3, 1) := by decide +kernel
theorem dX1_bringAll_20 : decode cX1_bringAll 20 = .ok (.aload_n 1, 1) := by decide +kernel
theorem dX1_bringAll_21 : decode cX1_bringAll 21 = .ok (.getfield 55, 3) := by decide +kernel
theorem dX1_bringAll_24 : decode cX1_bringAll 24 = .ok (.iload_n 2, 1) := by decide +kernel
theorem dX1_bringAll_25 : decode cX1_bringAll 25 = .ok (.iaload, 1) := by decide +kernel
theorem dX1_bringAll_26 : decode cX1_bringAll 26 = .ok (.bipush 26, 2) := by decide +kernel
theorem dX1_bringAll_28 : decode cX1_bringAll 28 = .ok (.imul, 1) := by decide +kernel
theorem dX1_bringAll_29 : decode cX1_bringAll 29 = .ok (.istore 4, 2) := by decide +kernel
theorem dX1_bringAll_31 : decode cX1_bringAll 31 = .ok (.aload_n 1, 1) := by decide +kernel
theorem dX1_bringAll_32 : decode cX1_bringAll 32 = .ok (.getfield 68, 3) := by decide +kernel
theorem dX1_bringAll_35 : decode cX1_bringAll 35 = .ok (.iload_n 2, 1) := by decide +kernel
theorem dX1_bringAll_36 : decode cX1_bringAll 36 = .ok (.iaload, 1) := by decide +kernel
theorem dX1_bringAll_37 : decode cX1_bringAll 37 = .ok (.iconst (-1), 1) := by decide +kernel
theorem dX1_bringAll_38 : decode cX1_bringAll 38 = .ok (.if_icmp .eq 36, 3) := by decide +kernel
theorem dX1_bringAll_41 : decode cX1_bringAll 41 = .ok (.aload_n 0, 1) := by decide +kernel
theorem dX1_bringAll_42 : decode cX1_bringAll 42 = .ok (.getfield 18, 3) := by decide +kernel
theorem dX1_bringAll_45 : decode cX1_bringAll 45 = .ok (.iload_n 3, 1) := by decide +kernel
theorem dX1_bringAll_46 : decode cX1_bringAll 46 = .ok (.aload_n 1, 1) := by decide +kernel
theorem dX1_bringAll_47 : decode cX1_bringAll 47 = .ok (.getfield 74, 3) := by decide +kernel
theorem dX1_bringAll_50 : decode cX1_bringAll 50 = .ok (.iload_n 2, 1) := by decide +kernel
theorem dX1_bringAll_51 : decode cX1_bringAll 51 = .ok (.iaload, 1) := by decide +kernel
theorem dX1_bringAll_52 : decode cX1_bringAll 52 = .ok (.iadd, 1) := by decide +kernel
theorem dX1_bringAll_53 : decode cX1_bringAll 53 = .ok (.dup2, 1) := by decide +kernel
theorem dX1_bringAll_54 : decode cX1_bringAll 54 = .ok (.iaload, 1) := by decide +kernel
theorem dX1_bringAll_55 : decode cX1_bringAll 55 = .ok (.aload_n 0, 1) := by decide +kernel
theorem dX1_bringAll_56 : decode cX1_bringAll 56 = .ok (.getfield 9, 3) := by decide +kernel
theorem dX1_bringAll_59 : decode cX1_bringAll 59 = .ok (.iload 4, 2) := by decide +kernel
theorem dX1_bringAll_61 : decode cX1_bringAll 61 = .ok (.aload_n 1, 1) := by decide +kernel
theorem dX1_bringAll_62 : decode cX1_bringAll 62 = .ok (.getfield 68, 3) := by decide +kernel
theorem dX1_bringAll_65 : decode cX1_bringAll 65 = .ok (.iload_n 2, 1) := by decide +kernel
theorem dX1_bringAll_66 : decode cX1_bringAll 66 = .ok (.iaload, 1) := by decide +kernel
theorem dX1_bringAll_67 : decode cX1_bringAll 67 = .ok (.iadd, 1) := by decide +kernel
theorem dX1_bringAll_68 : decode cX1_bringAll 68 = .ok (.iaload, 1) := by decide +kernel
theorem dX1_bringAll_69 : decode cX1_bringAll 69 = .ok (.ior, 1) := by decide +kernel
theorem dX1_bringAll_70 : decode cX1_bringAll 70 = .ok (.iastore, 1) := by decide +kernel
theorem dX1_bringAll_71 : decode cX1_bringAll 71 = .ok (.goto 81, 3) := by decide +kernel
theorem dX1_bringAll_74 : decode cX1_bringAll 74 = .ok (.aload_n 0, 1) := by decide +kernel
theorem dX1_bringAll_75 : decode cX1_bringAll 75 = .ok (.getfield 24, 3) := by decide +kernel
theorem dX1_bringAll_78 : decode cX1_bringAll 78 = .ok (.aload_n 1, 1) := by decide +kernel
theorem dX1_bringAll_79 : decode cX1_bringAll 79 = .ok (.getfield 55, 3) := by decide +kernel
theorem dX1_bringAll_82 : decode cX1_bringAll 82 = .ok (.iload_n 2, 1) := by decide +kernel
theorem dX1_bringAll_83 : decode cX1_bringAll 83 = .ok (.iaload, 1) := by decide +kernel
theorem dX1_bringAll_84 : decode cX1_bringAll 84 = .ok (.iaload, 1) := by decide +kernel
theorem dX1_bringAll_85 : decode cX1_bringAll 85 = .ok (.aload_n 1, 1) := by decide +kernel
theorem dX1_bringAll_86 : decode cX1_bringAll 86 = .ok (.getfield 71, 3) := by decide +kernel
theorem dX1_bringAll_89 : decode cX1_bringAll 89 = .ok (.iload_n 2, 1) := by decide +kernel
theorem dX1_bringAll_90 : decode cX1_bringAll 90 = .ok (.iaload, 1) := by decide +kernel
theorem dX1_bringAll_91 : decode cX1_bringAll 91 = .ok (.iconst (-1), 1) := by decide +kernel
theorem dX1_bringAll_92 : decode cX1_bringAll 92 = .ok (.ixor, 1) := by decide +kernel
theorem dX1_bringAll_93 : decode cX1_bringAll 93 = .ok (.iand, 1) := by decide +kernel
theorem dX1_bringAll_94 : decode cX1_bringAll 94 = .ok (.istore 5, 2) := by decide +kernel
theorem dX1_bringAll_96 : decode cX1_bringAll 96 = .ok (.iconst 0, 1) := by decide +kernel
theorem dX1_bringAll_97 : decode cX1_bringAll 97 = .ok (.istore 6, 2) := by decide +kernel
theorem dX1_bringAll_99 : decode cX1_bringAll 99 = .ok (.iload 6, 2) := by decide +kernel
theorem dX1_bringAll_101 : decode cX1_bringAll 101 = .ok (.bipush 26, 2) := by decide +kernel
theorem dX1_bringAll_103 : decode cX1_bringAll 103 = .ok (.if_icmp .ge 49, 3) := by decide +kernel
theorem dX1_bringAll_106 : decode cX1_bringAll 106 = .ok (.iload 5, 2) := by decide +kernel
theorem dX1_bringAll_108 : decode cX1_bringAll 108 = .ok (.iload 6, 2) := by decide +kernel
theorem dX1_bringAll_110 : decode cX1_bringAll 110 = .ok (.ishr, 1) := by decide +kernel
theorem dX1_bringAll_111 : decode cX1_bringAll 111 = .ok (.ifCond .eq 41, 3) := by decide +kernel
theorem dX1_bringAll_114 : decode cX1_bringAll 114 = .ok (.iload 5, 2) := by decide +kernel
theorem dX1_bringAll_116 : decode cX1_bringAll 116 = .ok (.iload 6, 2) := by decide +kernel
theorem dX1_bringAll_118 : decode cX1_bringAll 118 = .ok (.ishr, 1) := by decide +kernel
theorem dX1_bringAll_119 : decode cX1_bringAll 119 = .ok (.iconst 1, 1) := by decide +kernel
theorem dX1_bringAll_120 : decode cX1_bringAll 120 = .ok (.iand, 1) := by decide +kernel
theorem dX1_bringAll_121 : decode cX1_bringAll 121 = .ok (.ifCond .eq 25, 3) := by decide +kernel
theorem dX1_bringAll_124 : decode cX1_bringAll 124 = .ok (.aload_n 0, 1) := by decide +kernel
theorem dX1_bringAll_125 : decode cX1_bringAll 125 = .ok (.getfield 21, 3) := by decide +kernel
theorem dX1_bringAll_128 : decode cX1_bringAll 128 = .ok (.iload_n 3, 1) := by decide +kernel
theorem dX1_bringAll_129 : decode cX1_bringAll 129 = .ok (.iload 6, 2) := by decide +kernel
theorem dX1_bringAll_131 : decode cX1_bringAll 131 = .ok (.iadd, 1) := by decide +kernel
theorem dX1_bringAll_132 : decode cX1_bringAll 132 = .ok (.dup2, 1) := by decide +kernel
theorem dX1_bringAll_133 : decode cX1_bringAll 133 = .ok (.iaload, 1) := by decide +kernel
theorem dX1_bringAll_134 : decode cX1_bringAll 134 = .ok (.aload_n 0, 1) := by decide +kernel
theorem dX1_bringAll_135 : decode cX1_bringAll 135 = .ok (.getfield 9, 3) := by decide +kernel
theorem dX1_bringAll_138 : decode cX1_bringAll 138 = .ok (.iload 4, 2) := by decide +kernel
theorem dX1_bringAll_140 : decode cX1_bringAll 140 = .ok (.iload 6, 2) := by decide +kernel
theorem dX1_bringAll_142 : decode cX1_bringAll 142 = .ok (.iadd, 1) := by decide +kernel
theorem dX1_bringAll_143 : decode cX1_bringAll 143 = .ok (.iaload, 1) := by decide +kernel
theorem dX1_bringAll_144 : decode cX1_bringAll 144 = .ok (.ior, 1) := by decide +kernel
theorem dX1_bringAll_145 : decode cX1_bringAll 145 = .ok (.iastore, 1) := by decide +kernel
theorem dX1_bringAll_146 : decode cX1_bringAll 146 = .ok (.iinc 6 1, 3) := by decide +kernel
theorem dX1_bringAll_149 : decode cX1_bringAll 149 = .ok (.goto (-50), 3) := by decide +kernel
theorem dX1_bringAll_152 : decode cX1_bringAll 152 = .ok (.iinc 2 1, 3) := by decide +kernel
theorem dX1_bringAll_155 : decode cX1_bringAll 155 = .ok (.goto (-153), 3) := by decide +kernel
theorem dX1_bringAll_158 : decode cX1_bringAll 158 = .ok (.return_, 1) := by decide +kernel
theorem dX2_init_0 : decode cX2_init 0 = .ok (.aload_n 0, 1) := by decide +kernel
theorem dX2_init_1 : decode cX2_init 1 = .ok (.invokespecial 3, 3) := by decide +kernel
theorem dX2_init_4 : decode cX2_init 4 = .ok (.aload_n 0, 1) := by decide +kernel
theorem dX2_init_5 : decode cX2_init 5 = .ok (.bipush 50, 2) := by decide +kernel
theorem dX2_init_7 : decode cX2_init 7 = .ok (.newarray .int, 2) := by decide +kernel
theorem dX2_init_9 : decode cX2_init 9 = .ok (.putfield 9, 3) := by decide +kernel
theorem dX2_init_12 : decode cX2_init 12 = .ok (.aload_n 0, 1) := by decide +kernel
theorem dX2_init_13 : decode cX2_init 13 = .ok (.iconst 0, 1) := by decide +kernel
theorem dX2_init_14 : decode cX2_init 14 = .ok (.putfield 15, 3) := by decide +kernel
theorem dX2_init_17 : decode cX2_init 17 = .ok (.return_, 1) := by decide +kernel
theorem dX2_put_0 : decode cX2_put 0 = .ok (.aload_n 0, 1) := by decide +kernel
theorem dX2_put_1 : decode cX2_put 1 = .ok (.getfield 15, 3) := by decide +kernel
theorem dX2_put_4 : decode cX2_put 4 = .ok (.bipush 50, 2) := by decide +kernel
theorem dX2_put_6 : decode cX2_put 6 = .ok (.if_icmp .ge 23, 3) := by decide +kernel
theorem dX2_put_9 : decode cX2_put 9 = .ok (.aload_n 0, 1) := by decide +kernel
theorem dX2_put_10 : decode cX2_put 10 = .ok (.getfield 9, 3) := by decide +kernel
theorem dX2_put_13 : decode cX2_put 13 = .ok (.aload_n 0, 1) := by decide +kernel
theorem dX2_put_14 : decode cX2_put 14 = .ok (.getfield 15, 3) := by decide +kernel
theorem dX2_put_17 : decode cX2_put 17 = .ok (.iload_n 1, 1) := by decide +kernel
theorem dX2_put_18 : decode cX2_put 18 = .ok (.iastore, 1) := by decide +kernel
theorem dX2_put_19 : decode cX2_put 19 = .ok (.aload_n 0, 1) := by decide +kernel
theorem dX2_put_20 : decode cX2_put 20 = .ok (.dup, 1) := by decide +kernel
theorem dX2_put_21 : decode cX2_put 21 = .ok (.getfield 15, 3) := by decide +kernel
theorem dX2_put_24 : decode cX2_put 24 = .ok (.iconst 1, 1) := by decide +kernel
theorem dX2_put_25 : decode cX2_put 25 = .ok (.iadd, 1) := by decide +kernel
theorem dX2_put_26 : decode cX2_put 26 = .ok (.putfield 15, 3) := by decide +kernel
theorem dX2_put_29 : decode cX2_put 29 = .ok (.aload_n 0, 1) := by decide +kernel
theorem dX2_put_30 : decode cX2_put 30 = .ok (.getfield 15, 3) := by decide +kernel
theorem dX2_put_33 : decode cX2_put 33 = .ok (.ireturn, 1) := by decide +kernel
theorem dX2_codeAt_0 : decode cX2_codeAt 0 = .ok (.iload_n 1, 1) := by decide +kernel
theorem dX2_codeAt_1 : decode cX2_codeAt 1 = .ok (.ifCond .lt 20, 3) := by decide +kernel
theorem dX2_codeAt_4 : decode cX2_codeAt 4 = .ok (.iload_n 1, 1) := by decide +kernel
theorem dX2_codeAt_5 : decode cX2_codeAt 5 = .ok (.aload_n 0, 1) := by decide +kernel
theorem dX2_codeAt_6 : decode cX2_codeAt 6 = .ok (.getfield 15, 3) := by decide +kernel
theorem dX2_codeAt_9 : decode cX2_codeAt 9 = .ok (.if_icmp .ge 12, 3) := by decide +kernel
theorem dX2_codeAt_12 : decode cX2_codeAt 12 = .ok (.aload_n 0, 1) := by decide +kernel
theorem dX2_codeAt_13 : decode cX2_codeAt 13 = .ok (.getfield 9, 3) := by decide +kernel
theorem dX2_codeAt_16 : decode cX2_codeAt 16 = .ok (.iload_n 1, 1) := by decide +kernel
theorem dX2_codeAt_17 : decode cX2_codeAt 17 = .ok (.iaload, 1) := by decide +kernel
theorem dX2_codeAt_18 : decode cX2_codeAt 18 = .ok (.goto 4, 3) := by decide +kernel
theorem dX2_codeAt_21 : decode cX2_codeAt 21 = .ok (.iconst 0, 1) := by decide +kernel
theorem dX2_codeAt_22 : decode cX2_codeAt 22 = .ok (.ireturn, 1) := by decide +kernel
theorem dX2_firstWrong_0 : decode cX2_firstWrong 0 = .ok (.iconst 1, 1) := by decide +kernel
theorem dX2_firstWrong_1 : decode cX2_firstWrong 1 = .ok (.istore_n 1, 1) := by decide +kernel
theorem dX2_firstWrong_2 : decode cX2_firstWrong 2 = .ok (.iconst 0, 1) := by decide +kernel
theorem dX2_firstWrong_3 : decode cX2_firstWrong 3 = .ok (.istore_n 2, 1) := by decide +kernel
theorem dX2_firstWrong_4 : decode cX2_firstWrong 4 = .ok (.iload_n 2, 1) := by decide +kernel
theorem dX2_firstWrong_5 : decode cX2_firstWrong 5 = .ok (.aload_n 0, 1) := by decide +kernel
theorem dX2_firstWrong_6 : decode cX2_firstWrong 6 = .ok (.getfield 15, 3) := by decide +kernel
theorem dX2_firstWrong_9 : decode cX2_firstWrong 9 = .ok (.if_icmp .ge 26, 3) := by decide +kernel
theorem dX2_firstWrong_12 : decode cX2_firstWrong 12 = .ok (.iload_n 1, 1) := by decide +kernel
theorem dX2_firstWrong_13 : decode cX2_firstWrong 13 = .ok (.aload_n 0, 1) := by decide +kernel
theorem dX2_firstWrong_14 : decode cX2_firstWrong 14 = .ok (.getfield 9, 3) := by decide +kernel
theorem dX2_firstWrong_17 : decode cX2_firstWrong 17 = .ok (.iload_n 2, 1) := by decide +kernel
theorem dX2_firstWrong_18 : decode cX2_firstWrong 18 = .ok (.iaload, 1) := by decide +kernel
theorem dX2_firstWrong_19 : decode cX2_firstWrong 19 = .ok (.invokestatic 19, 3) := by decide +kernel
theorem dX2_firstWrong_22 : decode cX2_firstWrong 22 = .ok (.istore_n 1, 1) := by decide +kernel
theorem dX2_firstWrong_23 : decode cX2_firstWrong 23 = .ok (.iload_n 1, 1) := by decide +kernel
theorem dX2_firstWrong_24 : decode cX2_firstWrong 24 = .ok (.ifCond .ne 5, 3) := by decide +kernel
theorem dX2_firstWrong_27 : decode cX2_firstWrong 27 = .ok (.iload_n 2, 1) := by decide +kernel
theorem dX2_firstWrong_28 : decode cX2_firstWrong 28 = .ok (.ireturn, 1) := by decide +kernel
theorem dX2_firstWrong_29 : decode cX2_firstWrong 29 = .ok (.iinc 2 1, 3) := by decide +kernel
theorem dX2_firstWrong_32 : decode cX2_firstWrong 32 = .ok (.goto (-28), 3) := by decide +kernel
theorem dX2_firstWrong_35 : decode cX2_firstWrong 35 = .ok (.aload_n 0, 1) := by decide +kernel
theorem dX2_firstWrong_36 : decode cX2_firstWrong 36 = .ok (.getfield 15, 3) := by decide +kernel
theorem dX2_firstWrong_39 : decode cX2_firstWrong 39 = .ok (.ireturn, 1) := by decide +kernel
theorem dX2_isComplete_0 : decode cX2_isComplete 0 = .ok (.iconst 1, 1) := by decide +kernel
theorem dX2_isComplete_1 : decode cX2_isComplete 1 = .ok (.istore_n 1, 1) := by decide +kernel
theorem dX2_isComplete_2 : decode cX2_isComplete 2 = .ok (.iconst 0, 1) := by decide +kernel
theorem dX2_isComplete_3 : decode cX2_isComplete 3 = .ok (.istore_n 2, 1) := by decide +kernel
theorem dX2_isComplete_4 : decode cX2_isComplete 4 = .ok (.iload_n 2, 1) := by decide +kernel
theorem dX2_isComplete_5 : decode cX2_isComplete 5 = .ok (.aload_n 0, 1) := by decide +kernel
theorem dX2_isComplete_6 : decode cX2_isComplete 6 = .ok (.getfield 15, 3) := by decide +kernel
theorem dX2_isComplete_9 : decode cX2_isComplete 9 = .ok (.if_icmp .ge 20, 3) := by decide +kernel
theorem dX2_isComplete_12 : decode cX2_isComplete 12 = .ok (.iload_n 1, 1) := by decide +kernel
theorem dX2_isComplete_13 : decode cX2_isComplete 13 = .ok (.aload_n 0, 1) := by decide +kernel
theorem dX2_isComplete_14 : decode cX2_isComplete 14 = .ok (.getfield 9, 3) := by decide +kernel
theorem dX2_isComplete_17 : decode cX2_isComplete 17 = .ok (.iload_n 2, 1) := by decide +kernel
theorem dX2_isComplete_18 : decode cX2_isComplete 18 = .ok (.iaload, 1) := by decide +kernel
theorem dX2_isComplete_19 : decode cX2_isComplete 19 = .ok (.invokestatic 19, 3) := by decide +kernel
theorem dX2_isComplete_22 : decode cX2_isComplete 22 = .ok (.istore_n 1, 1) := by decide +kernel
theorem dX2_isComplete_23 : decode cX2_isComplete 23 = .ok (.iinc 2 1, 3) := by decide +kernel
theorem dX2_isComplete_26 : decode cX2_isComplete 26 = .ok (.goto (-22), 3) := by decide +kernel
theorem dX2_isComplete_29 : decode cX2_isComplete 29 = .ok (.iload_n 1, 1) := by decide +kernel
theorem dX2_isComplete_30 : decode cX2_isComplete 30 = .ok (.iconst 4, 1) := by decide +kernel
theorem dX2_isComplete_31 : decode cX2_isComplete 31 = .ok (.if_icmp .eq 21, 3) := by decide +kernel
theorem dX2_isComplete_34 : decode cX2_isComplete 34 = .ok (.iload_n 1, 1) := by decide +kernel
theorem dX2_isComplete_35 : decode cX2_isComplete 35 = .ok (.bipush 7, 2) := by decide +kernel
theorem dX2_isComplete_37 : decode cX2_isComplete 37 = .ok (.if_icmp .eq 15, 3) := by decide +kernel
theorem dX2_isComplete_40 : decode cX2_isComplete 40 = .ok (.iload_n 1, 1) := by decide +kernel
theorem dX2_isComplete_41 : decode cX2_isComplete 41 = .ok (.bipush 9, 2) := by decide +kernel
theorem dX2_isComplete_43 : decode cX2_isComplete 43 = .ok (.if_icmp .eq 9, 3) := by decide +kernel
theorem dX2_isComplete_46 : decode cX2_isComplete 46 = .ok (.iload_n 1, 1) := by decide +kernel
theorem dX2_isComplete_47 : decode cX2_isComplete 47 = .ok (.bipush 11, 2) := by decide +kernel
theorem dX2_isComplete_49 : decode cX2_isComplete 49 = .ok (.if_icmp .ne 7, 3) := by decide +kernel
theorem dX2_isComplete_52 : decode cX2_isComplete 52 = .ok (.iconst 1, 1) := by decide +kernel
theorem dX2_isComplete_53 : decode cX2_isComplete 53 = .ok (.goto 4, 3) := by decide +kernel
theorem dX2_isComplete_56 : decode cX2_isComplete 56 = .ok (.iconst 0, 1) := by decide +kernel
theorem dX2_isComplete_57 : decode cX2_isComplete 57 = .ok (.ireturn, 1) := by decide +kernel
theorem dX2_after_0 : decode cX2_after 0 = .ok (.iload_n 1, 1) := by decide +kernel
theorem dX2_after_1 : decode cX2_after 1 = .ok (.bipush 65, 2) := by decide +kernel
theorem dX2_after_3 : decode cX2_after 3 = .ok (.if_icmp .lt 13, 3) := by decide +kernel
theorem dX2_after_6 : decode cX2_after 6 = .ok (.iload_n 1, 1) := by decide +kernel
theorem dX2_after_7 : decode cX2_after 7 = .ok (.bipush 80, 2) := by decide +kernel
theorem dX2_after_9 : decode cX2_after 9 = .ok (.if_icmp .gt 7, 3) := by decide +kernel
theorem dX2_after_12 : decode cX2_after 12 = .ok (.iconst 1, 1) := by decide +kernel
theorem dX2_after_13 : decode cX2_after 13 = .ok (.goto 4, 3) := by decide +kernel
theorem dX2_after_16 : decode cX2_after 16 = .ok (.iconst 0, 1) := by decide +kernel
theorem dX2_after_17 : decode cX2_after 17 = .ok (.istore_n 2, 1) := by decide +kernel
theorem dX2_after_18 : decode cX2_after 18 = .ok (.iload_n 1, 1) := by decide +kernel
theorem dX2_after_19 : decode cX2_after 19 = .ok (.bipush 97, 2) := by decide +kernel
theorem dX2_after_21 : decode cX2_after 21 = .ok (.if_icmp .lt 13, 3) := by decide +kernel
theorem dX2_after_24 : decode cX2_after 24 = .ok (.iload_n 1, 1) := by decide +kernel
theorem dX2_after_25 : decode cX2_after 25 = .ok (.bipush 122, 2) := by decide +kernel
theorem dX2_after_27 : decode cX2_after 27 = .ok (.if_icmp .gt 7, 3) := by decide +kernel
theorem dX2_after_30 : decode cX2_after 30 = .ok (.iconst 1, 1) := by decide +kernel
theorem dX2_after_31 : decode cX2_after 31 = .ok (.goto 4, 3) := by decide +kernel
theorem dX2_after_34 : decode cX2_after 34 = .ok (.iconst 0, 1) := by decide +kernel
theorem dX2_after_35 : decode cX2_after 35 = .ok (.istore_n 3, 1) := by decide +kernel
theorem dX2_after_36 : decode cX2_after 36 = .ok (.iload_n 0, 1) := by decide +kernel
theorem dX2_after_37 : decode cX2_after 37 = .ok (.tableswitch 228 1 11 #[59, 69, 74, 84, 96, 118, 129, 163, 174, 196, 207], 59) := by decide +kernel
theorem dX2_after_96 : decode cX2_after 96 = .ok (.iload_n 2, 1) := by decide +kernel
theorem dX2_after_97 : decode cX2_after 97 = .ok (.ifCond .eq 7, 3) := by decide +kernel
theorem dX2_after_100 : decode cX2_after 100 = .ok (.iconst 2, 1) := by decide +kernel
theorem dX2_after_101 : decode cX2_after 101 = .ok (.goto 4, 3) := by decide +kernel
theorem dX2_after_104 : decode cX2_after 104 = .ok (.iconst 0, 1) := by decide +kernel
theorem dX2_after_105 : decode cX2_after 105 = .ok (.ireturn, 1) := by decide +kernel
theorem dX2_after_106 : decode cX2_after 106 = .ok (.iload_n 1, 1) := by decide +kernel
theorem dX2_after_107 : decode cX2_after 107 = .ok (.invokestatic 23, 3) := by decide +kernel
theorem dX2_after_110 : decode cX2_after 110 = .ok (.ireturn, 1) := by decide +kernel
theorem dX2_after_111 : decode cX2_after 111 = .ok (.iload_n 3, 1) := by decide +kernel
theorem dX2_after_112 : decode cX2_after 112 = .ok (.ifCond .eq 7, 3) := by decide +kernel
theorem dX2_after_115 : decode cX2_after 115 = .ok (.iconst 4, 1) := by decide +kernel
theorem dX2_after_116 : decode cX2_after 116 = .ok (.goto 4, 3) := by decide +kernel
theorem dX2_after_119 : decode cX2_after 119 = .ok (.iconst 0, 1) := by decide +kernel
theorem dX2_after_120 : decode cX2_after 120 = .ok (.ireturn, 1) := by decide +kernel
theorem dX2_after_121 : decode cX2_after 121 = .ok (.iload_n 1, 1) := by decide +kernel
theorem dX2_after_122 : decode cX2_after 122 = .ok (.bipush 44, 2) := by decide +kernel
theorem dX2_after_124 : decode cX2_after 124 = .ok (.if_icmp .ne 7, 3) := by decide +kernel
theorem dX2_after_127 : decode cX2_after 127 = .ok (.iconst 1, 1) := by decide +kernel
theorem dX2_after_128 : decode cX2_after 128 = .ok (.goto 4, 3) := by decide +kernel
theorem dX2_after_131 : decode cX2_after 131 = .ok (.iconst 0, 1) := by decide +kernel
theorem dX2_after_132 : decode cX2_after 132 = .ok (.ireturn, 1) := by decide +kernel
theorem dX2_after_133 : decode cX2_after 133 = .ok (.iload_n 1, 1) := by decide +kernel
theorem dX2_after_134 : decode cX2_after 134 = .ok (.bipush 60, 2) := by decide +kernel
theorem dX2_after_136 : decode cX2_after 136 = .ok (.if_icmp .ne 8, 3) := by decide +kernel
theorem dX2_after_139 : decode cX2_after 139 = .ok (.bipush 6, 2) := by decide +kernel
theorem dX2_after_141 : decode cX2_after 141 = .ok (.goto 13, 3) := by decide +kernel
theorem dX2_after_144 : decode cX2_after 144 = .ok (.iload_n 2, 1) := by decide +kernel
theorem dX2_after_145 : decode cX2_after 145 = .ok (.ifCond .eq 8, 3) := by decide +kernel
theorem dX2_after_148 : decode cX2_after 148 = .ok (.bipush 7, 2) := by decide +kernel
theorem dX2_after_150 : decode cX2_after 150 = .ok (.goto 4, 3) := by decide +kernel
theorem dX2_after_153 : decode cX2_after 153 = .ok (.iconst 0, 1) := by decide +kernel
theorem dX2_after_154 : decode cX2_after 154 = .ok (.ireturn, 1) := by decide +kernel
theorem dX2_after_155 : decode cX2_after 155 = .ok (.iload_n 2, 1) := by decide +kernel
theorem dX2_after_156 : decode cX2_after 156 = .ok (.ifCond .eq 8, 3) := by decide +kernel
theorem dX2_after_159 : decode cX2_after 159 = .ok (.bipush 7, 2) := by decide +kernel
theorem dX2_after_161 : decode cX2_after 161 = .ok (.goto 4, 3) := by decide +kernel
theorem dX2_after_164 : decode cX2_after 164 = .ok (.iconst 0, 1) := by decide +kernel
theorem dX2_after_165 : decode cX2_after 165 = .ok (.ireturn, 1) := by decide +kernel
theorem dX2_after_166 : decode cX2_after 166 = .ok (.iload_n 1, 1) := by decide +kernel
theorem dX2_after_167 : decode cX2_after 167 = .ok (.bipush 46, 2) := by decide +kernel
theorem dX2_after_169 : decode cX2_after 169 = .ok (.if_icmp .ne 8, 3) := by decide +kernel
theorem dX2_after_172 : decode cX2_after 172 = .ok (.bipush 8, 2) := by decide +kernel
theorem dX2_after_174 : decode cX2_after 174 = .ok (.goto 25, 3) := by decide +kernel
theorem dX2_after_177 : decode cX2_after 177 = .ok (.iload_n 1, 1) := by decide +kernel
theorem dX2_after_178 : decode cX2_after 178 = .ok (.bipush 47, 2) := by decide +kernel
theorem dX2_after_180 : decode cX2_after 180 = .ok (.if_icmp .ne 8, 3) := by decide +kernel
theorem dX2_after_183 : decode cX2_after 183 = .ok (.bipush 10, 2) := by decide +kernel
theorem dX2_after_185 : decode cX2_after 185 = .ok (.goto 14, 3) := by decide +kernel
theorem dX2_after_188 : decode cX2_after 188 = .ok (.iload_n 1, 1) := by decide +kernel
theorem dX2_after_189 : decode cX2_after 189 = .ok (.bipush 44, 2) := by decide +kernel
theorem dX2_after_191 : decode cX2_after 191 = .ok (.if_icmp .ne 7, 3) := by decide +kernel
theorem dX2_after_194 : decode cX2_after 194 = .ok (.iconst 1, 1) := by decide +kernel
theorem dX2_after_195 : decode cX2_after 195 = .ok (.goto 4, 3) := by decide +kernel
theorem dX2_after_198 : decode cX2_after 198 = .ok (.iconst 0, 1) := by decide +kernel
theorem dX2_after_199 : decode cX2_after 199 = .ok (.ireturn, 1) := by decide +kernel
theorem dX2_after_200 : decode cX2_after 200 = .ok (.iload_n 3, 1) := by decide +kernel
theorem dX2_after_201 : decode cX2_after 201 = .ok (.ifCond .eq 8, 3) := by decide +kernel
theorem dX2_after_204 : decode cX2_after 204 = .ok (.bipush 9, 2) := by decide +kernel
theorem dX2_after_206 : decode cX2_after 206 = .ok (.goto 4, 3) := by decide +kernel
theorem dX2_after_209 : decode cX2_after 209 = .ok (.iconst 0, 1) := by decide +kernel
theorem dX2_after_210 : decode cX2_after 210 = .ok (.ireturn, 1) := by decide +kernel
theorem dX2_after_211 : decode cX2_after 211 = .ok (.iload_n 1, 1) := by decide +kernel
theorem dX2_after_212 : decode cX2_after 212 = .ok (.bipush 61, 2) := by decide +kernel
theorem dX2_after_214 : decode cX2_after 214 = .ok (.if_icmp .ne 7, 3) := by decide +kernel
theorem dX2_after_217 : decode cX2_after 217 = .ok (.iconst 3, 1) := by decide +kernel
theorem dX2_after_218 : decode cX2_after 218 = .ok (.goto 14, 3) := by decide +kernel
theorem dX2_after_221 : decode cX2_after 221 = .ok (.iload_n 1, 1) := by decide +kernel
theorem dX2_after_222 : decode cX2_after 222 = .ok (.bipush 44, 2) := by decide +kernel
theorem dX2_after_224 : decode cX2_after 224 = .ok (.if_icmp .ne 7, 3) := by decide +kernel
theorem dX2_after_227 : decode cX2_after 227 = .ok (.iconst 1, 1) := by decide +kernel
theorem dX2_after_228 : decode cX2_after 228 = .ok (.goto 4, 3) := by decide +kernel
theorem dX2_after_231 : decode cX2_after 231 = .ok (.iconst 0, 1) := by decide +kernel
theorem dX2_after_232 : decode cX2_after 232 = .ok (.ireturn, 1) := by decide +kernel
theorem dX2_after_233 : decode cX2_after 233 = .ok (.iload_n 3, 1) := by decide +kernel
theorem dX2_after_234 : decode cX2_after 234 = .ok (.ifCond .eq 8, 3) := by decide +kernel
theorem dX2_after_237 : decode cX2_after 237 = .ok (.bipush 11, 2) := by decide +kernel
theorem dX2_after_239 : decode cX2_after 239 = .ok (.goto 4, 3) := by decide +kernel
theorem dX2_after_242 : decode cX2_after 242 = .ok (.iconst 0, 1) := by decide +kernel
theorem dX2_after_243 : decode cX2_after 243 = .ok (.ireturn, 1) := by decide +kernel
theorem dX2_after_244 : decode cX2_after 244 = .ok (.iload_n 3, 1) := by decide +kernel
theorem dX2_after_245 : decode cX2_after 245 = .ok (.ifCond .eq 8, 3) := by decide +kernel
theorem dX2_after_248 : decode cX2_after 248 = .ok (.bipush 11, 2) := by decide +kernel
theorem dX2_after_250 : decode cX2_after 250 = .ok (.goto 14, 3) := by decide +kernel
theorem dX2_after_253 : decode cX2_after 253 = .ok (.iload_n 1, 1) := by decide +kernel
theorem dX2_after_254 : decode cX2_after 254 = .ok (.bipush 44, 2) := by decide +kernel
theorem dX2_after_256 : decode cX2_after 256 = .ok (.if_icmp .ne 7, 3) := by decide +kernel
theorem dX2_after_259 : decode cX2_after 259 = .ok (.iconst 1, 1) := by decide +kernel
theorem dX2_after_260 : decode cX2_after 260 = .ok (.goto 4, 3) := by decide +kernel
theorem dX2_after_263 : decode cX2_after 263 = .ok (.iconst 0, 1) := by decide +kernel
theorem dX2_after_264 : decode cX2_after 264 = .ok (.ireturn, 1) := by decide +kernel
theorem dX2_after_265 : decode cX2_after 265 = .ok (.iconst 0, 1) := by decide +kernel
theorem dX2_after_266 : decode cX2_after 266 = .ok (.ireturn, 1) := by decide +kernel
theorem dX2_afterScope_0 : decode cX2_afterScope 0 = .ok (.iload_n 0, 1) := by decide +kernel
theorem dX2_afterScope_1 : decode cX2_afterScope 1 = .ok (.lookupswitch 57 #[(45, 53), (46, 53), (60, 55), (63, 53), (94, 51)], 51) := by decide +kernel
theorem dX2_afterScope_52 : decode cX2_afterScope 52 = .ok (.iconst 4, 1) := by decide +kernel
theorem dX2_afterScope_53 : decode cX2_afterScope 53 = .ok (.ireturn, 1) := by decide +kernel
theorem dX2_afterScope_54 : decode cX2_afterScope 54 = .ok (.iconst 3, 1) := by decide +kernel
theorem dX2_afterScope_55 : decode cX2_afterScope 55 = .ok (.ireturn, 1) := by decide +kernel
theorem dX2_afterScope_56 : decode cX2_afterScope 56 = .ok (.iconst 5, 1) := by decide +kernel
theorem dX2_afterScope_57 : decode cX2_afterScope 57 = .ok (.ireturn, 1) := by decide +kernel
theorem dX2_afterScope_58 : decode cX2_afterScope 58 = .ok (.iconst 0, 1) := by decide +kernel
theorem dX2_afterScope_59 : decode cX2_afterScope 59 = .ok (.ireturn, 1) := by decide +kernel
theorem dX2_putItems_0 : decode cX2_putItems 0 = .ok (.iconst 0, 1) := by decide +kernel
theorem dX2_putItems_1 : decode cX2_putItems 1 = .ok (.istore_n 2, 1) := by decide +kernel
theorem dX2_putItems_2 : decode cX2_putItems 2 = .ok (.iconst 0, 1) := by decide +kernel
theorem dX2_putItems_3 : decode cX2_putItems 3 = .ok (.istore_n 3, 1) := by decide +kernel
theorem dX2_putItems_4 : decode cX2_putItems 4 = .ok (.iconst 0, 1) := by decide +kernel
theorem dX2_putItems_5 : decode cX2_putItems 5 = .ok (.istore 4, 2) := by decide +kernel
theorem dX2_putItems_7 : decode cX2_putItems 7 = .ok (.iload 4, 2) := by decide +kernel
theorem dX2_putItems_9 : decode cX2_putItems 9 = .ok (.aload_n 0, 1) := by decide +kernel
theorem dX2_putItems_10 : decode cX2_putItems 10 = .ok (.getfield 15, 3) := by decide +kernel
theorem dX2_putItems_13 : decode cX2_putItems 13 = .ok (.if_icmp .gt 49, 3) := by decide +kernel
theorem dX2_putItems_16 : decode cX2_putItems 16 = .ok (.iload 4, 2) := by decide +kernel
theorem dX2_putItems_18 : decode cX2_putItems 18 = .ok (.aload_n 0, 1) := by decide +kernel
theorem dX2_putItems_19 : decode cX2_putItems 19 = .ok (.getfield 15, 3) := by decide +kernel
theorem dX2_putItems_22 : decode cX2_putItems 22 = .ok (.if_icmp .eq 15, 3) := by decide +kernel
theorem dX2_putItems_25 : decode cX2_putItems 25 = .ok (.aload_n 0, 1) := by decide +kernel
theorem dX2_putItems_26 : decode cX2_putItems 26 = .ok (.getfield 9, 3) := by decide +kernel
theorem dX2_putItems_29 : decode cX2_putItems 29 = .ok (.iload 4, 2) := by decide +kernel
theorem dX2_putItems_31 : decode cX2_putItems 31 = .ok (.iaload, 1) := by decide +kernel
theorem dX2_putItems_32 : decode cX2_putItems 32 = .ok (.bipush 44, 2) := by decide +kernel
theorem dX2_putItems_34 : decode cX2_putItems 34 = .ok (.if_icmp .ne 22, 3) := by decide +kernel
theorem dX2_putItems_37 : decode cX2_putItems 37 = .ok (.aload_n 0, 1) := by decide +kernel
theorem dX2_putItems_38 : decode cX2_putItems 38 = .ok (.aload_n 1, 1) := by decide +kernel
theorem dX2_putItems_39 : decode cX2_putItems 39 = .ok (.iload_n 3, 1) := by decide +kernel
theorem dX2_putItems_40 : decode cX2_putItems 40 = .ok (.invokevirtual 27, 3) := by decide +kernel
theorem dX2_putItems_43 : decode cX2_putItems 43 = .ok (.ifCond .eq 5, 3) := by decide +kernel
theorem dX2_putItems_46 : decode cX2_putItems 46 = .ok (.iconst (-1), 1) := by decide +kernel
theorem dX2_putItems_47 : decode cX2_putItems 47 = .ok (.ireturn, 1) := by decide +kernel
theorem dX2_putItems_48 : decode cX2_putItems 48 = .ok (.iinc 2 1, 3) := by decide +kernel
theorem dX2_putItems_51 : decode cX2_putItems 51 = .ok (.iload 4, 2) := by decide +kernel
theorem dX2_putItems_53 : decode cX2_putItems 53 = .ok (.iconst 1, 1) := by decide +kernel
theorem dX2_putItems_54 : decode cX2_putItems 54 = .ok (.iadd, 1) := by decide +kernel
theorem dX2_putItems_55 : decode cX2_putItems 55 = .ok (.istore_n 3, 1) := by decide +kernel
theorem dX2_putItems_56 : decode cX2_putItems 56 = .ok (.iinc 4 1, 3) := by decide +kernel
theorem dX2_putItems_59 : decode cX2_putItems 59 = .ok (.goto (-52), 3) := by decide +kernel
theorem dX2_putItems_62 : decode cX2_putItems 62 = .ok (.iload_n 2, 1) := by decide +kernel
theorem dX2_putItems_63 : decode cX2_putItems 63 = .ok (.ireturn, 1) := by decide +kernel
theorem dX2_putItem_0 : decode cX2_putItem 0 = .ok (.aload_n 0, 1) := by decide +kernel
theorem dX2_putItem_1 : decode cX2_putItem 1 = .ok (.iload_n 2, 1) := by decide +kernel
theorem dX2_putItem_2 : decode cX2_putItem 2 = .ok (.invokevirtual 31, 3) := by decide +kernel
theorem dX2_putItem_5 : decode cX2_putItem 5 = .ok (.bipush 65, 2) := by decide +kernel
theorem dX2_putItem_7 : decode cX2_putItem 7 = .ok (.isub, 1) := by decide +kernel
theorem dX2_putItem_8 : decode cX2_putItem 8 = .ok (.istore_n 3, 1) := by decide +kernel
theorem dX2_putItem_9 : decode cX2_putItem 9 = .ok (.aload_n 0, 1) := by decide +kernel
theorem dX2_putItem_10 : decode cX2_putItem 10 = .ok (.iload_n 2, 1) := by decide +kernel
theorem dX2_putItem_11 : decode cX2_putItem 11 = .ok (.iconst 1, 1) := by decide +kernel
theorem dX2_putItem_12 : decode cX2_putItem 12 = .ok (.iadd, 1) := by decide +kernel
theorem dX2_putItem_13 : decode cX2_putItem 13 = .ok (.invokevirtual 31, 3) := by decide +kernel
theorem dX2_putItem_16 : decode cX2_putItem 16 = .ok (.istore 4, 2) := by decide +kernel
theorem dX2_putItem_18 : decode cX2_putItem 18 = .ok (.aload_n 0, 1) := by decide +kernel
theorem dX2_putItem_19 : decode cX2_putItem 19 = .ok (.iload_n 2, 1) := by decide +kernel
theorem dX2_putItem_20 : decode cX2_putItem 20 = .ok (.iconst 2, 1) := by decide +kernel
theorem dX2_putItem_21 : decode cX2_putItem 21 = .ok (.iadd, 1) := by decide +kernel
theorem dX2_putItem_22 : decode cX2_putItem 22 = .ok (.invokevirtual 31, 3) := by decide +kernel
theorem dX2_putItem_25 : decode cX2_putItem 25 = .ok (.bipush 97, 2) := by decide +kernel
theorem dX2_putItem_27 : decode cX2_putItem 27 = .ok (.isub, 1) := by decide +kernel
theorem dX2_putItem_28 : decode cX2_putItem 28 = .ok (.istore 5, 2) := by decide +kernel
theorem dX2_putItem_30 : decode cX2_putItem 30 = .ok (.iload 4, 2) := by decide +kernel
theorem dX2_putItem_32 : decode cX2_putItem 32 = .ok (.bipush 60, 2) := by decide +kernel
theorem dX2_putItem_34 : decode cX2_putItem 34 = .ok (.if_icmp .ne 13, 3) := by decide +kernel
theorem dX2_putItem_37 : decode cX2_putItem 37 = .ok (.aload_n 0, 1) := by decide +kernel
theorem dX2_putItem_38 : decode cX2_putItem 38 = .ok (.aload_n 1, 1) := by decide +kernel
theorem dX2_putItem_39 : decode cX2_putItem 39 = .ok (.iload_n 3, 1) := by decide +kernel
theorem dX2_putItem_40 : decode cX2_putItem 40 = .ok (.iload_n 2, 1) := by decide +kernel
theorem dX2_putItem_41 : decode cX2_putItem 41 = .ok (.iconst 2, 1) := by decide +kernel
theorem dX2_putItem_42 : decode cX2_putItem 42 = .ok (.iadd, 1) := by decide +kernel
theorem dX2_putItem_43 : decode cX2_putItem 43 = .ok (.invokevirtual 34, 3) := by decide +kernel
theorem dX2_putItem_46 : decode cX2_putItem 46 = .ok (.ireturn, 1) := by decide +kernel
theorem dX2_putItem_47 : decode cX2_putItem 47 = .ok (.iload 4, 2) := by decide +kernel
theorem dX2_putItem_49 : decode cX2_putItem 49 = .ok (.bipush 94, 2) := by decide +kernel
theorem dX2_putItem_51 : decode cX2_putItem 51 = .ok (.if_icmp .ne 11, 3) := by decide +kernel
theorem dX2_putItem_54 : decode cX2_putItem 54 = .ok (.aload_n 1, 1) := by decide +kernel
theorem dX2_putItem_55 : decode cX2_putItem 55 = .ok (.iload_n 3, 1) := by decide +kernel
theorem dX2_putItem_56 : decode cX2_putItem 56 = .ok (.invokevirtual 38, 3) := by decide +kernel
theorem dX2_putItem_59 : decode cX2_putItem 59 = .ok (.goto 27, 3) := by decide +kernel
theorem dX2_putItem_62 : decode cX2_putItem 62 = .ok (.iload 4, 2) := by decide +kernel
theorem dX2_putItem_64 : decode cX2_putItem 64 = .ok (.bipush 63, 2) := by decide +kernel
theorem dX2_putItem_66 : decode cX2_putItem 66 = .ok (.if_icmp .ne 13, 3) := by decide +kernel
theorem dX2_putItem_69 : decode cX2_putItem 69 = .ok (.aload_n 1, 1) := by decide +kernel
theorem dX2_putItem_70 : decode cX2_putItem 70 = .ok (.iload_n 3, 1) := by decide +kernel
theorem dX2_putItem_71 : decode cX2_putItem 71 = .ok (.iload 5, 2) := by decide +kernel
theorem dX2_putItem_73 : decode cX2_putItem 73 = .ok (.invokevirtual 43, 3) := by decide +kernel
theorem dX2_putItem_76 : decode cX2_putItem 76 = .ok (.goto 10, 3) := by decide +kernel
theorem dX2_putItem_79 : decode cX2_putItem 79 = .ok (.aload_n 1, 1) := by decide +kernel
theorem dX2_putItem_80 : decode cX2_putItem 80 = .ok (.iload_n 3, 1) := by decide +kernel
theorem dX2_putItem_81 : decode cX2_putItem 81 = .ok (.iload 5, 2) := by decide +kernel
theorem dX2_putItem_83 : decode cX2_putItem 83 = .ok (.invokevirtual 46, 3) := by decide +kernel
theorem dX2_putItem_86 : decode cX2_putItem 86 = .ok (.istore 6, 2) := by decide +kernel
theorem dX2_putItem_88 : decode cX2_putItem 88 = .ok (.iload 6, 2) := by decide +kernel
theorem dX2_putItem_90 : decode cX2_putItem 90 = .ok (.ifCond .ne 57, 3) := by decide +kernel
theorem dX2_putItem_93 : decode cX2_putItem 93 = .ok (.iload 4, 2) := by decide +kernel
theorem dX2_putItem_95 : decode cX2_putItem 95 = .ok (.bipush 94, 2) := by decide +kernel
theorem dX2_putItem_97 : decode cX2_putItem 97 = .ok (.if_icmp .ne 12, 3) := by decide +kernel
theorem dX2_putItem_100 : decode cX2_putItem 100 = .ok (.aload_n 1, 1) := by decide +kernel
theorem dX2_putItem_101 : decode cX2_putItem 101 = .ok (.iload_n 3, 1) := by decide +kernel
theorem dX2_putItem_102 : decode cX2_putItem 102 = .ok (.invokevirtual 49, 3) := by decide +kernel
theorem dX2_putItem_105 : decode cX2_putItem 105 = .ok (.pop, 1) := by decide +kernel
theorem dX2_putItem_106 : decode cX2_putItem 106 = .ok (.goto 41, 3) := by decide +kernel
theorem dX2_putItem_109 : decode cX2_putItem 109 = .ok (.iload 4, 2) := by decide +kernel
theorem dX2_putItem_111 : decode cX2_putItem 111 = .ok (.bipush 63, 2) := by decide +kernel
theorem dX2_putItem_113 : decode cX2_putItem 113 = .ok (.if_icmp .ne 14, 3) := by decide +kernel
theorem dX2_putItem_116 : decode cX2_putItem 116 = .ok (.aload_n 1, 1) := by decide +kernel
theorem dX2_putItem_117 : decode cX2_putItem 117 = .ok (.iload_n 3, 1) := by decide +kernel
theorem dX2_putItem_118 : decode cX2_putItem 118 = .ok (.iload 5, 2) := by decide +kernel
theorem dX2_putItem_120 : decode cX2_putItem 120 = .ok (.invokevirtual 52, 3) := by decide +kernel
theorem dX2_putItem_123 : decode cX2_putItem 123 = .ok (.pop, 1) := by decide +kernel
theorem dX2_putItem_124 : decode cX2_putItem 124 = .ok (.goto 23, 3) := by decide +kernel
theorem dX2_putItem_127 : decode cX2_putItem 127 = .ok (.aload_n 1, 1) := by decide +kernel
theorem dX2_putItem_128 : decode cX2_putItem 128 = .ok (.iload_n 3, 1) := by decide +kernel
theorem dX2_putItem_129 : decode cX2_putItem 129 = .ok (.iload 5, 2) := by decide +kernel
theorem dX2_putItem_131 : decode cX2_putItem 131 = .ok (.iload 4, 2) := by decide +kernel
theorem dX2_putItem_133 : decode cX2_putItem 133 = .ok (.bipush 46, 2) := by decide +kernel
theorem dX2_putItem_135 : decode cX2_putItem 135 = .ok (.if_icmp .ne 7, 3) := by decide +kernel
theorem dX2_putItem_138 : decode cX2_putItem 138 = .ok (.iconst 1, 1) := by decide +kernel
theorem dX2_putItem_139 : decode cX2_putItem 139 = .ok (.goto 4, 3) := by decide +kernel
theorem dX2_putItem_142 : decode cX2_putItem 142 = .ok (.iconst 0, 1) := by decide +kernel
theorem dX2_putItem_143 : decode cX2_putItem 143 = .ok (.invokevirtual 55, 3) := by decide +kernel
theorem dX2_putItem_146 : decode cX2_putItem 146 = .ok (.pop, 1) := by decide +kernel
theorem dX2_putItem_147 : decode cX2_putItem 147 = .ok (.iload 6, 2) := by decide +kernel
theorem dX2_putItem_149 : decode cX2_putItem 149 = .ok (.ireturn, 1) := by decide +kernel
theorem dX2_putImportItem_0 : decode cX2_putImportItem 0 = .ok (.aload_n 0, 1) := by decide +kernel
theorem dX2_putImportItem_1 : decode cX2_putImportItem 1 = .ok (.iload_n 3, 1) := by decide +kernel
theorem dX2_putImportItem_2 : decode cX2_putImportItem 2 = .ok (.invokevirtual 31, 3) := by decide +kernel
theorem dX2_putImportItem_5 : decode cX2_putImportItem 5 = .ok (.bipush 60, 2) := by decide +kernel
theorem dX2_putImportItem_7 : decode cX2_putImportItem 7 = .ok (.if_icmp .ne 7, 3) := by decide +kernel
theorem dX2_putImportItem_10 : decode cX2_putImportItem 10 = .ok (.iconst 1, 1) := by decide +kernel
theorem dX2_putImportItem_11 : decode cX2_putImportItem 11 = .ok (.goto 4, 3) := by decide +kernel
theorem dX2_putImportItem_14 : decode cX2_putImportItem 14 = .ok (.iconst 0, 1) := by decide +kernel
theorem dX2_putImportItem_15 : decode cX2_putImportItem 15 = .ok (.istore 4, 2) := by decide +kernel
theorem dX2_putImportItem_17 : decode cX2_putImportItem 17 = .ok (.iload_n 3, 1) := by decide +kernel
theorem dX2_putImportItem_18 : decode cX2_putImportItem 18 = .ok (.iload 4, 2) := by decide +kernel
theorem dX2_putImportItem_20 : decode cX2_putImportItem 20 = .ok (.iadd, 1) := by decide +kernel
theorem dX2_putImportItem_21 : decode cX2_putImportItem 21 = .ok (.istore 5, 2) := by decide +kernel
theorem dX2_putImportItem_23 : decode cX2_putImportItem 23 = .ok (.aload_n 0, 1) := by decide +kernel
theorem dX2_putImportItem_24 : decode cX2_putImportItem 24 = .ok (.iload 5, 2) := by decide +kernel
theorem dX2_putImportItem_26 : decode cX2_putImportItem 26 = .ok (.invokevirtual 31, 3) := by decide +kernel
theorem dX2_putImportItem_29 : decode cX2_putImportItem 29 = .ok (.bipush 65, 2) := by decide +kernel
theorem dX2_putImportItem_31 : decode cX2_putImportItem 31 = .ok (.isub, 1) := by decide +kernel
theorem dX2_putImportItem_32 : decode cX2_putImportItem 32 = .ok (.istore 6, 2) := by decide +kernel
theorem dX2_putImportItem_34 : decode cX2_putImportItem 34 = .ok (.aload_n 1, 1) := by decide +kernel
theorem dX2_putImportItem_35 : decode cX2_putImportItem 35 = .ok (.iload_n 2, 1) := by decide +kernel
theorem dX2_putImportItem_36 : decode cX2_putImportItem 36 = .ok (.iload 6, 2) := by decide +kernel
theorem dX2_putImportItem_38 : decode cX2_putImportItem 38 = .ok (.iconst 1, 1) := by decide +kernel
theorem dX2_putImportItem_39 : decode cX2_putImportItem 39 = .ok (.invokevirtual 59, 3) := by decide +kernel
theorem dX2_putImportItem_42 : decode cX2_putImportItem 42 = .ok (.istore 7, 2) := by decide +kernel
theorem dX2_putImportItem_44 : decode cX2_putImportItem 44 = .ok (.iload 7, 2) := by decide +kernel
theorem dX2_putImportItem_46 : decode cX2_putImportItem 46 = .ok (.ifCond .eq 6, 3) := by decide +kernel
theorem dX2_putImportItem_49 : decode cX2_putImportItem 49 = .ok (.iload 7, 2) := by decide +kernel
theorem dX2_putImportItem_51 : decode cX2_putImportItem 51 = .ok (.ireturn, 1) := by decide +kernel
theorem dX2_putImportItem_52 : decode cX2_putImportItem 52 = .ok (.aload_n 0, 1) := by decide +kernel
theorem dX2_putImportItem_53 : decode cX2_putImportItem 53 = .ok (.iload 5, 2) := by decide +kernel
theorem dX2_putImportItem_55 : decode cX2_putImportItem 55 = .ok (.iconst 1, 1) := by decide +kernel
theorem dX2_putImportItem_56 : decode cX2_putImportItem 56 = .ok (.iadd, 1) := by decide +kernel
theorem dX2_putImportItem_57 : decode cX2_putImportItem 57 = .ok (.invokevirtual 31, 3) := by decide +kernel
theorem dX2_putImportItem_60 : decode cX2_putImportItem 60 = .ok (.bipush 46, 2) := by decide +kernel
theorem dX2_putImportItem_62 : decode cX2_putImportItem 62 = .ok (.if_icmp .ne 65, 3) := by decide +kernel
theorem dX2_putImportItem_65 : decode cX2_putImportItem 65 = .ok (.aload_n 0, 1) := by decide +kernel
theorem dX2_putImportItem_66 : decode cX2_putImportItem 66 = .ok (.iload 5, 2) := by decide +kernel
theorem dX2_putImportItem_68 : decode cX2_putImportItem 68 = .ok (.iconst 2, 1) := by decide +kernel
theorem dX2_putImportItem_69 : decode cX2_putImportItem 69 = .ok (.iadd, 1) := by decide +kernel
theorem dX2_putImportItem_70 : decode cX2_putImportItem 70 = .ok (.invokevirtual 31, 3) := by decide +kernel
theorem dX2_putImportItem_73 : decode cX2_putImportItem 73 = .ok (.bipush 97, 2) := by decide +kernel
theorem dX2_putImportItem_75 : decode cX2_putImportItem 75 = .ok (.isub, 1) := by decide +kernel
theorem dX2_putImportItem_76 : decode cX2_putImportItem 76 = .ok (.istore 8, 2) := by decide +kernel
theorem dX2_putImportItem_78 : decode cX2_putImportItem 78 = .ok (.aload_n 0, 1) := by decide +kernel
theorem dX2_putImportItem_79 : decode cX2_putImportItem 79 = .ok (.iload 5, 2) := by decide +kernel
theorem dX2_putImportItem_81 : decode cX2_putImportItem 81 = .ok (.iconst 3, 1) := by decide +kernel
theorem dX2_putImportItem_82 : decode cX2_putImportItem 82 = .ok (.iadd, 1) := by decide +kernel
theorem dX2_putImportItem_83 : decode cX2_putImportItem 83 = .ok (.invokevirtual 31, 3) := by decide +kernel
theorem dX2_putImportItem_86 : decode cX2_putImportItem 86 = .ok (.bipush 61, 2) := by decide +kernel
theorem dX2_putImportItem_88 : decode cX2_putImportItem 88 = .ok (.if_icmp .ne 17, 3) := by decide +kernel
theorem dX2_putImportItem_91 : decode cX2_putImportItem 91 = .ok (.aload_n 0, 1) := by decide +kernel
theorem dX2_putImportItem_92 : decode cX2_putImportItem 92 = .ok (.iload 5, 2) := by decide +kernel
theorem dX2_putImportItem_94 : decode cX2_putImportItem 94 = .ok (.iconst 4, 1) := by decide +kernel
theorem dX2_putImportItem_95 : decode cX2_putImportItem 95 = .ok (.iadd, 1) := by decide +kernel
theorem dX2_putImportItem_96 : decode cX2_putImportItem 96 = .ok (.invokevirtual 31, 3) := by decide +kernel
theorem dX2_putImportItem_99 : decode cX2_putImportItem 99 = .ok (.bipush 97, 2) := by decide +kernel
theorem dX2_putImportItem_101 : decode cX2_putImportItem 101 = .ok (.isub, 1) := by decide +kernel
theorem dX2_putImportItem_102 : decode cX2_putImportItem 102 = .ok (.goto 5, 3) := by decide +kernel
theorem dX2_putImportItem_105 : decode cX2_putImportItem 105 = .ok (.iload 8, 2) := by decide +kernel
theorem dX2_putImportItem_107 : decode cX2_putImportItem 107 = .ok (.istore 9, 2) := by decide +kernel
theorem dX2_putImportItem_109 : decode cX2_putImportItem 109 = .ok (.aload_n 1, 1) := by decide +kernel
theorem dX2_putImportItem_110 : decode cX2_putImportItem 110 = .ok (.iload_n 2, 1) := by decide +kernel
theorem dX2_putImportItem_111 : decode cX2_putImportItem 111 = .ok (.iload 6, 2) := by decide +kernel
theorem dX2_putImportItem_113 : decode cX2_putImportItem 113 = .ok (.iload 8, 2) := by decide +kernel
theorem dX2_putImportItem_115 : decode cX2_putImportItem 115 = .ok (.iload 9, 2) := by decide +kernel
theorem dX2_putImportItem_117 : decode cX2_putImportItem 117 = .ok (.iconst 0, 1) := by decide +kernel
theorem dX2_putImportItem_118 : decode cX2_putImportItem 118 = .ok (.iload 4, 2) := by decide +kernel
theorem dX2_putImportItem_120 : decode cX2_putImportItem 120 = .ok (.invokevirtual 63, 3) := by decide +kernel
theorem dX2_putImportItem_123 : decode cX2_putImportItem 123 = .ok (.pop, 1) := by decide +kernel
theorem dX2_putImportItem_124 : decode cX2_putImportItem 124 = .ok (.goto 44, 3) := by decide +kernel
theorem dX2_putImportItem_127 : decode cX2_putImportItem 127 = .ok (.aload_n 0, 1) := by decide +kernel
theorem dX2_putImportItem_128 : decode cX2_putImportItem 128 = .ok (.iload 5, 2) := by decide +kernel
theorem dX2_putImportItem_130 : decode cX2_putImportItem 130 = .ok (.iconst 1, 1) := by decide +kernel
theorem dX2_putImportItem_131 : decode cX2_putImportItem 131 = .ok (.iadd, 1) := by decide +kernel
theorem dX2_putImportItem_132 : decode cX2_putImportItem 132 = .ok (.invokevirtual 31, 3) := by decide +kernel
theorem dX2_putImportItem_135 : decode cX2_putImportItem 135 = .ok (.bipush 47, 2) := by decide +kernel
theorem dX2_putImportItem_137 : decode cX2_putImportItem 137 = .ok (.if_icmp .ne 14, 3) := by decide +kernel
theorem dX2_putImportItem_140 : decode cX2_putImportItem 140 = .ok (.aload_n 0, 1) := by decide +kernel
theorem dX2_putImportItem_141 : decode cX2_putImportItem 141 = .ok (.iload 5, 2) := by decide +kernel
theorem dX2_putImportItem_143 : decode cX2_putImportItem 143 = .ok (.iconst 2, 1) := by decide +kernel
theorem dX2_putImportItem_144 : decode cX2_putImportItem 144 = .ok (.iadd, 1) := by decide +kernel
theorem dX2_putImportItem_145 : decode cX2_putImportItem 145 = .ok (.invokevirtual 67, 3) := by decide +kernel
theorem dX2_putImportItem_148 : decode cX2_putImportItem 148 = .ok (.goto 4, 3) := by decide +kernel
theorem dX2_putImportItem_151 : decode cX2_putImportItem 151 = .ok (.iconst 0, 1) := by decide +kernel
theorem dX2_putImportItem_152 : decode cX2_putImportItem 152 = .ok (.istore 8, 2) := by decide +kernel
theorem dX2_putImportItem_154 : decode cX2_putImportItem 154 = .ok (.aload_n 1, 1) := by decide +kernel
theorem dX2_putImportItem_155 : decode cX2_putImportItem 155 = .ok (.iload_n 2, 1) := by decide +kernel
theorem dX2_putImportItem_156 : decode cX2_putImportItem 156 = .ok (.iload 6, 2) := by decide +kernel
theorem dX2_putImportItem_158 : decode cX2_putImportItem 158 = .ok (.iconst (-1), 1) := by decide +kernel
theorem dX2_putImportItem_159 : decode cX2_putImportItem 159 = .ok (.iconst (-1), 1) := by decide +kernel
theorem dX2_putImportItem_160 : decode cX2_putImportItem 160 = .ok (.iload 8, 2) := by decide +kernel
theorem dX2_putImportItem_162 : decode cX2_putImportItem 162 = .ok (.iload 4, 2) := by decide +kernel
theorem dX2_putImportItem_164 : decode cX2_putImportItem 164 = .ok (.invokevirtual 63, 3) := by decide +kernel
theorem dX2_putImportItem_167 : decode cX2_putImportItem 167 = .ok (.pop, 1) := by decide +kernel
theorem dX2_putImportItem_168 : decode cX2_putImportItem 168 = .ok (.iconst 0, 1) := by decide +kernel
theorem dX2_putImportItem_169 : decode cX2_putImportItem 169 = .ok (.ireturn, 1) := by decide +kernel
theorem dX2_exceptedFrom_0 : decode cX2_exceptedFrom 0 = .ok (.iconst 0, 1) := by decide +kernel
theorem dX2_exceptedFrom_1 : decode cX2_exceptedFrom 1 = .ok (.istore_n 2, 1) := by decide +kernel
theorem dX2_exceptedFrom_2 : decode cX2_exceptedFrom 2 = .ok (.iload_n 1, 1) := by decide +kernel
theorem dX2_exceptedFrom_3 : decode cX2_exceptedFrom 3 = .ok (.istore_n 3, 1) := by decide +kernel
theorem dX2_exceptedFrom_4 : decode cX2_exceptedFrom 4 = .ok (.iload_n 3, 1) := by decide +kernel
theorem dX2_exceptedFrom_5 : decode cX2_exceptedFrom 5 = .ok (.aload_n 0, 1) := by decide +kernel
theorem dX2_exceptedFrom_6 : decode cX2_exceptedFrom 6 = .ok (.getfield 15, 3) := by decide +kernel
theorem dX2_exceptedFrom_9 : decode cX2_exceptedFrom 9 = .ok (.if_icmp .ge 32, 3) := by decide +kernel
theorem dX2_exceptedFrom_12 : decode cX2_exceptedFrom 12 = .ok (.aload_n 0, 1) := by decide +kernel
theorem dX2_exceptedFrom_13 : decode cX2_exceptedFrom 13 = .ok (.iload_n 3, 1) := by decide +kernel
theorem dX2_exceptedFrom_14 : decode cX2_exceptedFrom 14 = .ok (.invokevirtual 31, 3) := by decide +kernel
theorem dX2_exceptedFrom_17 : decode cX2_exceptedFrom 17 = .ok (.bipush 97, 2) := by decide +kernel
theorem dX2_exceptedFrom_19 : decode cX2_exceptedFrom 19 = .ok (.if_icmp .lt 22, 3) := by decide +kernel
theorem dX2_exceptedFrom_22 : decode cX2_exceptedFrom 22 = .ok (.iload_n 2, 1) := by decide +kernel
theorem dX2_exceptedFrom_23 : decode cX2_exceptedFrom 23 = .ok (.iconst 1, 1) := by decide +kernel
theorem dX2_exceptedFrom_24 : decode cX2_exceptedFrom 24 = .ok (.aload_n 0, 1) := by decide +kernel
theorem dX2_exceptedFrom_25 : decode cX2_exceptedFrom 25 = .ok (.iload_n 3, 1) := by decide +kernel
theorem dX2_exceptedFrom_26 : decode cX2_exceptedFrom 26 = .ok (.invokevirtual 31, 3) := by decide +kernel
theorem dX2_exceptedFrom_29 : decode cX2_exceptedFrom 29 = .ok (.bipush 97, 2) := by decide +kernel
theorem dX2_exceptedFrom_31 : decode cX2_exceptedFrom 31 = .ok (.isub, 1) := by decide +kernel
theorem dX2_exceptedFrom_32 : decode cX2_exceptedFrom 32 = .ok (.ishl, 1) := by decide +kernel
theorem dX2_exceptedFrom_33 : decode cX2_exceptedFrom 33 = .ok (.ior, 1) := by decide +kernel
theorem dX2_exceptedFrom_34 : decode cX2_exceptedFrom 34 = .ok (.istore_n 2, 1) := by decide +kernel
theorem dX2_exceptedFrom_35 : decode cX2_exceptedFrom 35 = .ok (.iinc 3 1, 3) := by decide +kernel
theorem dX2_exceptedFrom_38 : decode cX2_exceptedFrom 38 = .ok (.goto (-34), 3) := by decide +kernel
theorem dX2_exceptedFrom_41 : decode cX2_exceptedFrom 41 = .ok (.iload_n 2, 1) := by decide +kernel
theorem dX2_exceptedFrom_42 : decode cX2_exceptedFrom 42 = .ok (.ireturn, 1) := by decide +kernel
theorem dX3_init_0 : decode cX3_init 0 = .ok (.aload_n 0, 1) := by decide +kernel
theorem dX3_init_1 : decode cX3_init 1 = .ok (.invokespecial 3, 3) := by decide +kernel
theorem dX3_init_4 : decode cX3_init 4 = .ok (.aload_n 0, 1) := by decide +kernel
theorem dX3_init_5 : decode cX3_init 5 = .ok (.new 9, 3) := by decide +kernel
theorem dX3_init_8 : decode cX3_init 8 = .ok (.dup, 1) := by decide +kernel
theorem dX3_init_9 : decode cX3_init 9 = .ok (.invokespecial 11, 3) := by decide +kernel
theorem dX3_init_12 : decode cX3_init 12 = .ok (.putfield 12, 3) := by decide +kernel
theorem dX3_init_15 : decode cX3_init 15 = .ok (.aload_n 0, 1) := by decide +kernel
theorem dX3_init_16 : decode cX3_init 16 = .ok (.new 16, 3) := by decide +kernel
theorem dX3_init_19 : decode cX3_init 19 = .ok (.dup, 1) := by decide +kernel
theorem dX3_init_20 : decode cX3_init 20 = .ok (.invokespecial 18, 3) := by decide +kernel
theorem dX3_init_23 : decode cX3_init 23 = .ok (.putfield 19, 3) := by decide +kernel
theorem dX3_init_26 : decode cX3_init 26 = .ok (.aload_n 0, 1) := by decide +kernel
theorem dX3_init_27 : decode cX3_init 27 = .ok (.new 16, 3) := by decide +kernel
theorem dX3_init_30 : decode cX3_init 30 = .ok (.dup, 1) := by decide +kernel
theorem dX3_init_31 : decode cX3_init 31 = .ok (.invokespecial 18, 3) := by decide +kernel
theorem dX3_init_34 : decode cX3_init 34 = .ok (.putfield 23, 3) := by decide +kernel
theorem dX3_init_37 : decode cX3_init 37 = .ok (.return_, 1) := by decide +kernel
theorem dX3_begin_0 : decode cX3_begin 0 = .ok (.aload_n 0, 1) := by decide +kernel
theorem dX3_begin_1 : decode cX3_begin 1 = .ok (.getfield 19, 3) := by decide +kernel
theorem dX3_begin_4 : decode cX3_begin 4 = .ok (.getfield 26, 3) := by decide +kernel
theorem dX3_begin_7 : decode cX3_begin 7 = .ok (.istore_n 1, 1) := by decide +kernel
theorem dX3_begin_8 : decode cX3_begin 8 = .ok (.aload_n 0, 1) := by decide +kernel
theorem dX3_begin_9 : decode cX3_begin 9 = .ok (.getfield 19, 3) := by decide +kernel
theorem dX3_begin_12 : decode cX3_begin 12 = .ok (.invokevirtual 30, 3) := by decide +kernel
theorem dX3_begin_15 : decode cX3_begin 15 = .ok (.aload_n 0, 1) := by decide +kernel
theorem dX3_begin_16 : decode cX3_begin 16 = .ok (.getfield 19, 3) := by decide +kernel
theorem dX3_begin_19 : decode cX3_begin 19 = .ok (.invokevirtual 33, 3) := by decide +kernel
theorem dX3_begin_22 : decode cX3_begin 22 = .ok (.iload_n 1, 1) := by decide +kernel
theorem dX3_begin_23 : decode cX3_begin 23 = .ok (.ireturn, 1) := by decide +kernel
theorem dX3_addScope_0 : decode cX3_addScope 0 = .ok (.aload_n 0, 1) := by decide +kernel
theorem dX3_addScope_1 : decode cX3_addScope 1 = .ok (.getfield 19, 3) := by decide +kernel
theorem dX3_addScope_4 : decode cX3_addScope 4 = .ok (.iload_n 1, 1) := by decide +kernel
theorem dX3_addScope_5 : decode cX3_addScope 5 = .ok (.invokevirtual 36, 3) := by decide +kernel
theorem dX3_addScope_8 : decode cX3_addScope 8 = .ok (.invokestatic 40, 3) := by decide +kernel
theorem dX3_addScope_11 : decode cX3_addScope 11 = .ok (.aload_n 0, 1) := by decide +kernel
theorem dX3_addScope_12 : decode cX3_addScope 12 = .ok (.getfield 19, 3) := by decide +kernel
theorem dX3_addScope_15 : decode cX3_addScope 15 = .ok (.iload_n 1, 1) := by decide +kernel
theorem dX3_addScope_16 : decode cX3_addScope 16 = .ok (.invokevirtual 44, 3) := by decide +kernel
theorem dX3_addScope_19 : decode cX3_addScope 19 = .ok (.istore_n 2, 1) := by decide +kernel
theorem dX3_addScope_20 : decode cX3_addScope 20 = .ok (.aload_n 0, 1) := by decide +kernel
theorem dX3_addScope_21 : decode cX3_addScope 21 = .ok (.getfield 19, 3) := by decide +kernel
theorem dX3_addScope_24 : decode cX3_addScope 24 = .ok (.invokevirtual 33, 3) := by decide +kernel
theorem dX3_addScope_27 : decode cX3_addScope 27 = .ok (.iload_n 2, 1) := by decide +kernel
theorem dX3_addScope_28 : decode cX3_addScope 28 = .ok (.ireturn, 1) := by decide +kernel
theorem dX3_declare_0 : decode cX3_declare 0 = .ok (.aload_n 0, 1) := by decide +kernel
theorem dX3_declare_1 : decode cX3_declare 1 = .ok (.getfield 19, 3) := by decide +kernel
theorem dX3_declare_4 : decode cX3_declare 4 = .ok (.iload_n 1, 1) := by decide +kernel
theorem dX3_declare_5 : decode cX3_declare 5 = .ok (.iload_n 2, 1) := by decide +kernel
theorem dX3_declare_6 : decode cX3_declare 6 = .ok (.invokevirtual 47, 3) := by decide +kernel
theorem dX3_declare_9 : decode cX3_declare 9 = .ok (.invokestatic 40, 3) := by decide +kernel
theorem dX3_declare_12 : decode cX3_declare 12 = .ok (.aload_n 0, 1) := by decide +kernel
theorem dX3_declare_13 : decode cX3_declare 13 = .ok (.getfield 19, 3) := by decide +kernel
theorem dX3_declare_16 : decode cX3_declare 16 = .ok (.iload_n 1, 1) := by decide +kernel
theorem dX3_declare_17 : decode cX3_declare 17 = .ok (.iload_n 2, 1) := by decide +kernel
theorem dX3_declare_18 : decode cX3_declare 18 = .ok (.iload_n 3, 1) := by decide +kernel
theorem dX3_declare_19 : decode cX3_declare 19 = .ok (.ifCond .eq 7, 3) := by decide +kernel
theorem dX3_declare_22 : decode cX3_declare 22 = .ok (.iconst 1, 1) := by decide +kernel
theorem dX3_declare_23 : decode cX3_declare 23 = .ok (.goto 4, 3) := by decide +kernel
theorem dX3_declare_26 : decode cX3_declare 26 = .ok (.iconst 0, 1) := by decide +kernel
theorem dX3_declare_27 : decode cX3_declare 27 = .ok (.invokevirtual 51, 3) := by decide +kernel
theorem dX3_declare_30 : decode cX3_declare 30 = .ok (.istore 4, 2) := by decide +kernel
theorem dX3_declare_32 : decode cX3_declare 32 = .ok (.aload_n 0, 1) := by decide +kernel
theorem dX3_declare_33 : decode cX3_declare 33 = .ok (.getfield 19, 3) := by decide +kernel
theorem dX3_declare_36 : decode cX3_declare 36 = .ok (.invokevirtual 33, 3) := by decide +kernel
theorem dX3_declare_39 : decode cX3_declare 39 = .ok (.iload 4, 2) := by decide +kernel
theorem dX3_declare_41 : decode cX3_declare 41 = .ok (.ireturn, 1) := by decide +kernel
theorem dX3_importOne_0 : decode cX3_importOne 0 = .ok (.aload_n 0, 1) := by decide +kernel
theorem dX3_importOne_1 : decode cX3_importOne 1 = .ok (.getfield 19, 3) := by decide +kernel
theorem dX3_importOne_4 : decode cX3_importOne 4 = .ok (.iload_n 1, 1) := by decide +kernel
theorem dX3_importOne_5 : decode cX3_importOne 5 = .ok (.iload_n 2, 1) := by decide +kernel
theorem dX3_importOne_6 : decode cX3_importOne 6 = .ok (.iload_n 3, 1) := by decide +kernel
theorem dX3_importOne_7 : decode cX3_importOne 7 = .ok (.invokestatic 55, 3) := by decide +kernel
theorem dX3_importOne_10 : decode cX3_importOne 10 = .ok (.ifCond .eq 15, 3) := by decide +kernel
theorem dX3_importOne_13 : decode cX3_importOne 13 = .ok (.iload 4, 2) := by decide +kernel
theorem dX3_importOne_15 : decode cX3_importOne 15 = .ok (.invokestatic 55, 3) := by decide +kernel
theorem dX3_importOne_18 : decode cX3_importOne 18 = .ok (.ifCond .eq 7, 3) := by decide +kernel
theorem dX3_importOne_21 : decode cX3_importOne 21 = .ok (.iconst 1, 1) := by decide +kernel
theorem dX3_importOne_22 : decode cX3_importOne 22 = .ok (.goto 4, 3) := by decide +kernel
theorem dX3_importOne_25 : decode cX3_importOne 25 = .ok (.iconst 0, 1) := by decide +kernel
theorem dX3_importOne_26 : decode cX3_importOne 26 = .ok (.invokevirtual 59, 3) := by decide +kernel
theorem dX3_importOne_29 : decode cX3_importOne 29 = .ok (.invokestatic 40, 3) := by decide +kernel
theorem dX3_importOne_32 : decode cX3_importOne 32 = .ok (.aload_n 0, 1) := by decide +kernel
theorem dX3_importOne_33 : decode cX3_importOne 33 = .ok (.getfield 19, 3) := by decide +kernel
theorem dX3_importOne_36 : decode cX3_importOne 36 = .ok (.iload_n 1, 1) := by decide +kernel
theorem dX3_importOne_37 : decode cX3_importOne 37 = .ok (.iload_n 2, 1) := by decide +kernel
theorem dX3_importOne_38 : decode cX3_importOne 38 = .ok (.iload_n 3, 1) := by decide +kernel
theorem dX3_importOne_39 : decode cX3_importOne 39 = .ok (.iload 4, 2) := by decide +kernel
theorem dX3_importOne_41 : decode cX3_importOne 41 = .ok (.iconst 0, 1) := by decide +kernel
theorem dX3_importOne_42 : decode cX3_importOne 42 = .ok (.iload 5, 2) := by decide +kernel
theorem dX3_importOne_44 : decode cX3_importOne 44 = .ok (.ifCond .eq 7, 3) := by decide +kernel
theorem dX3_importOne_47 : decode cX3_importOne 47 = .ok (.iconst 1, 1) := by decide +kernel
theorem dX3_importOne_48 : decode cX3_importOne 48 = .ok (.goto 4, 3) := by decide +kernel
theorem dX3_importOne_51 : decode cX3_importOne 51 = .ok (.iconst 0, 1) := by decide +kernel
theorem dX3_importOne_52 : decode cX3_importOne 52 = .ok (.invokevirtual 63, 3) := by decide +kernel
theorem dX3_importOne_55 : decode cX3_importOne 55 = .ok (.istore 6, 2) := by decide +kernel
theorem dX3_importOne_57 : decode cX3_importOne 57 = .ok (.aload_n 0, 1) := by decide +kernel
theorem dX3_importOne_58 : decode cX3_importOne 58 = .ok (.getfield 19, 3) := by decide +kernel
theorem dX3_importOne_61 : decode cX3_importOne 61 = .ok (.invokevirtual 33, 3) := by decide +kernel
theorem dX3_importOne_64 : decode cX3_importOne 64 = .ok (.iload 6, 2) := by decide +kernel
theorem dX3_importOne_66 : decode cX3_importOne 66 = .ok (.ireturn, 1) := by decide +kernel
theorem dX3_importAll_0 : decode cX3_importAll 0 = .ok (.aload_n 0, 1) := by decide +kernel
theorem dX3_importAll_1 : decode cX3_importAll 1 = .ok (.getfield 19, 3) := by decide +kernel
theorem dX3_importAll_4 : decode cX3_importAll 4 = .ok (.iload_n 1, 1) := by decide +kernel
theorem dX3_importAll_5 : decode cX3_importAll 5 = .ok (.iload_n 2, 1) := by decide +kernel
theorem dX3_importAll_6 : decode cX3_importAll 6 = .ok (.iload_n 3, 1) := by decide +kernel
theorem dX3_importAll_7 : decode cX3_importAll 7 = .ok (.ifCond .lt 13, 3) := by decide +kernel
theorem dX3_importAll_10 : decode cX3_importAll 10 = .ok (.iload_n 3, 1) := by decide +kernel
theorem dX3_importAll_11 : decode cX3_importAll 11 = .ok (.ldc 67, 2) := by decide +kernel
theorem dX3_importAll_13 : decode cX3_importAll 13 = .ok (.if_icmp .ge 7, 3) := by decide +kernel
theorem dX3_importAll_16 : decode cX3_importAll 16 = .ok (.iconst 1, 1) := by decide +kernel
theorem dX3_importAll_17 : decode cX3_importAll 17 = .ok (.goto 4, 3) := by decide +kernel
theorem dX3_importAll_20 : decode cX3_importAll 20 = .ok (.iconst 0, 1) := by decide +kernel
theorem dX3_importAll_21 : decode cX3_importAll 21 = .ok (.invokevirtual 59, 3) := by decide +kernel
theorem dX3_importAll_24 : decode cX3_importAll 24 = .ok (.invokestatic 40, 3) := by decide +kernel
theorem dX3_importAll_27 : decode cX3_importAll 27 = .ok (.aload_n 0, 1) := by decide +kernel
theorem dX3_importAll_28 : decode cX3_importAll 28 = .ok (.getfield 19, 3) := by decide +kernel
theorem dX3_importAll_31 : decode cX3_importAll 31 = .ok (.iload_n 1, 1) := by decide +kernel
theorem dX3_importAll_32 : decode cX3_importAll 32 = .ok (.iload_n 2, 1) := by decide +kernel
theorem dX3_importAll_33 : decode cX3_importAll 33 = .ok (.iconst (-1), 1) := by decide +kernel
theorem dX3_importAll_34 : decode cX3_importAll 34 = .ok (.iconst (-1), 1) := by decide +kernel
theorem dX3_importAll_35 : decode cX3_importAll 35 = .ok (.iload_n 3, 1) := by decide +kernel
theorem dX3_importAll_36 : decode cX3_importAll 36 = .ok (.iload 4, 2) := by decide +kernel
theorem dX3_importAll_38 : decode cX3_importAll 38 = .ok (.ifCond .eq 7, 3) := by decide +kernel
theorem dX3_importAll_41 : decode cX3_importAll 41 = .ok (.iconst 1, 1) := by decide +kernel
theorem dX3_importAll_42 : decode cX3_importAll 42 = .ok (.goto 4, 3) := by decide +kernel
theorem dX3_importAll_45 : decode cX3_importAll 45 = .ok (.iconst 0, 1) := by decide +kernel
theorem dX3_importAll_46 : decode cX3_importAll 46 = .ok (.invokevirtual 63, 3) := by decide +kernel
theorem dX3_importAll_49 : decode cX3_importAll 49 = .ok (.istore 5, 2) := by decide +kernel
theorem dX3_importAll_51 : decode cX3_importAll 51 = .ok (.aload_n 0, 1) := by decide +kernel
theorem dX3_importAll_52 : decode cX3_importAll 52 = .ok (.getfield 19, 3) := by decide +kernel
theorem dX3_importAll_55 : decode cX3_importAll 55 = .ok (.invokevirtual 33, 3) := by decide +kernel
theorem dX3_importAll_58 : decode cX3_importAll 58 = .ok (.iload 5, 2) := by decide +kernel
theorem dX3_importAll_60 : decode cX3_importAll 60 = .ok (.ireturn, 1) := by decide +kernel
theorem dX3_use_0 : decode cX3_use 0 = .ok (.aload_n 0, 1) := by decide +kernel
theorem dX3_use_1 : decode cX3_use 1 = .ok (.getfield 19, 3) := by decide +kernel
theorem dX3_use_4 : decode cX3_use 4 = .ok (.iload_n 1, 1) := by decide +kernel
theorem dX3_use_5 : decode cX3_use 5 = .ok (.iload_n 2, 1) := by decide +kernel
theorem dX3_use_6 : decode cX3_use 6 = .ok (.invokevirtual 68, 3) := by decide +kernel
theorem dX3_use_9 : decode cX3_use 9 = .ok (.invokestatic 40, 3) := by decide +kernel
theorem dX3_use_12 : decode cX3_use 12 = .ok (.aload_n 0, 1) := by decide +kernel
theorem dX3_use_13 : decode cX3_use 13 = .ok (.getfield 19, 3) := by decide +kernel
theorem dX3_use_16 : decode cX3_use 16 = .ok (.iload_n 1, 1) := by decide +kernel
theorem dX3_use_17 : decode cX3_use 17 = .ok (.iload_n 2, 1) := by decide +kernel
theorem dX3_use_18 : decode cX3_use 18 = .ok (.invokevirtual 71, 3) := by decide +kernel
theorem dX3_use_21 : decode cX3_use 21 = .ok (.istore_n 3, 1) := by decide +kernel
theorem dX3_use_22 : decode cX3_use 22 = .ok (.aload_n 0, 1) := by decide +kernel
theorem dX3_use_23 : decode cX3_use 23 = .ok (.getfield 19, 3) := by decide +kernel
theorem dX3_use_26 : decode cX3_use 26 = .ok (.invokevirtual 33, 3) := by decide +kernel
theorem dX3_use_29 : decode cX3_use 29 = .ok (.iload_n 3, 1) := by decide +kernel
theorem dX3_use_30 : decode cX3_use 30 = .ok (.ireturn, 1) := by decide +kernel
theorem dX3_remove_0 : decode cX3_remove 0 = .ok (.iload_n 1, 1) := by decide +kernel
theorem dX3_remove_1 : decode cX3_remove 1 = .ok (.iconst 3, 1) := by decide +kernel
theorem dX3_remove_2 : decode cX3_remove 2 = .ok (.invokestatic 74, 3) := by decide +kernel
theorem dX3_remove_5 : decode cX3_remove 5 = .ok (.iload_n 2, 1) := by decide +kernel
theorem dX3_remove_6 : decode cX3_remove 6 = .ok (.iload_n 1, 1) := by decide +kernel
theorem dX3_remove_7 : decode cX3_remove 7 = .ok (.ifCond .ne 13, 3) := by decide +kernel
theorem dX3_remove_10 : decode cX3_remove 10 = .ok (.aload_n 0, 1) := by decide +kernel
theorem dX3_remove_11 : decode cX3_remove 11 = .ok (.getfield 19, 3) := by decide +kernel
theorem dX3_remove_14 : decode cX3_remove 14 = .ok (.getfield 78, 3) := by decide +kernel
theorem dX3_remove_17 : decode cX3_remove 17 = .ok (.goto 25, 3) := by decide +kernel
theorem dX3_remove_20 : decode cX3_remove 20 = .ok (.iload_n 1, 1) := by decide +kernel
theorem dX3_remove_21 : decode cX3_remove 21 = .ok (.iconst 1, 1) := by decide +kernel
theorem dX3_remove_22 : decode cX3_remove 22 = .ok (.if_icmp .ne 13, 3) := by decide +kernel
theorem dX3_remove_25 : decode cX3_remove 25 = .ok (.aload_n 0, 1) := by decide +kernel
theorem dX3_remove_26 : decode cX3_remove 26 = .ok (.getfield 19, 3) := by decide +kernel
theorem dX3_remove_29 : decode cX3_remove 29 = .ok (.getfield 81, 3) := by decide +kernel
theorem dX3_remove_32 : decode cX3_remove 32 = .ok (.goto 10, 3) := by decide +kernel
theorem dX3_remove_35 : decode cX3_remove 35 = .ok (.aload_n 0, 1) := by decide +kernel
theorem dX3_remove_36 : decode cX3_remove 36 = .ok (.getfield 19, 3) := by decide +kernel
theorem dX3_remove_39 : decode cX3_remove 39 = .ok (.getfield 84, 3) := by decide +kernel
theorem dX3_remove_42 : decode cX3_remove 42 = .ok (.invokestatic 87, 3) := by decide +kernel
theorem dX3_remove_45 : decode cX3_remove 45 = .ok (.iload_n 1, 1) := by decide +kernel
theorem dX3_remove_46 : decode cX3_remove 46 = .ok (.lookupswitch 38 #[(0, 26), (1, 32)], 26) := by decide +kernel
theorem dX3_remove_72 : decode cX3_remove 72 = .ok (.aload_n 0, 1) := by decide +kernel
theorem dX3_remove_73 : decode cX3_remove 73 = .ok (.iload_n 2, 1) := by decide +kernel
theorem dX3_remove_74 : decode cX3_remove 74 = .ok (.invokevirtual 90, 3) := by decide +kernel
theorem dX3_remove_77 : decode cX3_remove 77 = .ok (.ireturn, 1) := by decide +kernel
theorem dX3_remove_78 : decode cX3_remove 78 = .ok (.aload_n 0, 1) := by decide +kernel
theorem dX3_remove_79 : decode cX3_remove 79 = .ok (.iload_n 2, 1) := by decide +kernel
theorem dX3_remove_80 : decode cX3_remove 80 = .ok (.invokevirtual 93, 3) := by decide +kernel
theorem dX3_remove_83 : decode cX3_remove 83 = .ok (.ireturn, 1) := by decide +kernel
theorem dX3_remove_84 : decode cX3_remove 84 = .ok (.aload_n 0, 1) := by decide +kernel
theorem dX3_remove_85 : decode cX3_remove 85 = .ok (.getfield 19, 3) := by decide +kernel
theorem dX3_remove_88 : decode cX3_remove 88 = .ok (.iload_n 2, 1) := by decide +kernel
theorem dX3_remove_89 : decode cX3_remove 89 = .ok (.invokevirtual 96, 3) := by decide +kernel
theorem dX3_remove_92 : decode cX3_remove 92 = .ok (.aload_n 0, 1) := by decide +kernel
theorem dX3_remove_93 : decode cX3_remove 93 = .ok (.getfield 19, 3) := by decide +kernel
theorem dX3_remove_96 : decode cX3_remove 96 = .ok (.invokevirtual 33, 3) := by decide +kernel
theorem dX3_remove_99 : decode cX3_remove 99 = .ok (.iconst 0, 1) := by decide +kernel
theorem dX3_remove_100 : decode cX3_remove 100 = .ok (.ireturn, 1) := by decide +kernel
theorem dX3_append_0 : decode cX3_append 0 = .ok (.iload_n 1, 1) := by decide +kernel
theorem dX3_append_1 : decode cX3_append 1 = .ok (.bipush 33, 2) := by decide +kernel
theorem dX3_append_3 : decode cX3_append 3 = .ok (.if_icmp .lt 9, 3) := by decide +kernel
theorem dX3_append_6 : decode cX3_append 6 = .ok (.iload_n 1, 1) := by decide +kernel
theorem dX3_append_7 : decode cX3_append 7 = .ok (.bipush 126, 2) := by decide +kernel
theorem dX3_append_9 : decode cX3_append 9 = .ok (.if_icmp .le 13, 3) := by decide +kernel
theorem dX3_append_12 : decode cX3_append 12 = .ok (.new 99, 3) := by decide +kernel
theorem dX3_append_15 : decode cX3_append 15 = .ok (.dup, 1) := by decide +kernel
theorem dX3_append_16 : decode cX3_append 16 = .ok (.ldc 101, 2) := by decide +kernel
theorem dX3_append_18 : decode cX3_append 18 = .ok (.invokespecial 103, 3) := by decide +kernel
theorem dX3_append_21 : decode cX3_append 21 = .ok (.athrow, 1) := by decide +kernel
theorem dX3_append_22 : decode cX3_append 22 = .ok (.aload_n 0, 1) := by decide +kernel
theorem dX3_append_23 : decode cX3_append 23 = .ok (.getfield 12, 3) := by decide +kernel
theorem dX3_append_26 : decode cX3_append 26 = .ok (.getfield 106, 3) := by decide +kernel
theorem dX3_append_29 : decode cX3_append 29 = .ok (.bipush 50, 2) := by decide +kernel
theorem dX3_append_31 : decode cX3_append 31 = .ok (.if_icmp .lt 13, 3) := by decide +kernel
theorem dX3_append_34 : decode cX3_append 34 = .ok (.new 109, 3) := by decide +kernel
theorem dX3_append_37 : decode cX3_append 37 = .ok (.dup, 1) := by decide +kernel
theorem dX3_append_38 : decode cX3_append 38 = .ok (.ldc 111, 2) := by decide +kernel
theorem dX3_append_40 : decode cX3_append 40 = .ok (.invokespecial 113, 3) := by decide +kernel
theorem dX3_append_43 : decode cX3_append 43 = .ok (.athrow, 1) := by decide +kernel
theorem dX3_append_44 : decode cX3_append 44 = .ok (.aload_n 0, 1) := by decide +kernel
theorem dX3_append_45 : decode cX3_append 45 = .ok (.getfield 12, 3) := by decide +kernel
theorem dX3_append_48 : decode cX3_append 48 = .ok (.iload_n 1, 1) := by decide +kernel
theorem dX3_append_49 : decode cX3_append 49 = .ok (.invokevirtual 114, 3) := by decide +kernel
theorem dX3_append_52 : decode cX3_append 52 = .ok (.ireturn, 1) := by decide +kernel
theorem dX3_clearBuffer_0 : decode cX3_clearBuffer 0 = .ok (.aload_n 0, 1) := by decide +kernel
theorem dX3_clearBuffer_1 : decode cX3_clearBuffer 1 = .ok (.getfield 12, 3) := by decide +kernel
theorem dX3_clearBuffer_4 : decode cX3_clearBuffer 4 = .ok (.getfield 106, 3) := by decide +kernel
theorem dX3_clearBuffer_7 : decode cX3_clearBuffer 7 = .ok (.istore_n 1, 1) := by decide +kernel
theorem dX3_clearBuffer_8 : decode cX3_clearBuffer 8 = .ok (.aload_n 0, 1) := by decide +kernel
theorem dX3_clearBuffer_9 : decode cX3_clearBuffer 9 = .ok (.getfield 12, 3) := by decide +kernel
theorem dX3_clearBuffer_12 : decode cX3_clearBuffer 12 = .ok (.iconst 0, 1) := by decide +kernel
theorem dX3_clearBuffer_13 : decode cX3_clearBuffer 13 = .ok (.putfield 106, 3) := by decide +kernel
theorem dX3_clearBuffer_16 : decode cX3_clearBuffer 16 = .ok (.iload_n 1, 1) := by decide +kernel
theorem dX3_clearBuffer_17 : decode cX3_clearBuffer 17 = .ok (.ireturn, 1) := by decide +kernel
theorem dX3_firstError_0 : decode cX3_firstError 0 = .ok (.aload_n 0, 1) := by decide +kernel
theorem dX3_firstError_1 : decode cX3_firstError 1 = .ok (.getfield 12, 3) := by decide +kernel
theorem dX3_firstError_4 : decode cX3_firstError 4 = .ok (.invokevirtual 117, 3) := by decide +kernel
theorem dX3_firstError_7 : decode cX3_firstError 7 = .ok (.ireturn, 1) := by decide +kernel
theorem dX3_load_0 : decode cX3_load 0 = .ok (.aload_n 0, 1) := by decide +kernel
theorem dX3_load_1 : decode cX3_load 1 = .ok (.getfield 12, 3) := by decide +kernel
theorem dX3_load_4 : decode cX3_load 4 = .ok (.invokevirtual 121, 3) := by decide +kernel
theorem dX3_load_7 : decode cX3_load 7 = .ok (.ifCond .ne 13, 3) := by decide +kernel
theorem dX3_load_10 : decode cX3_load 10 = .ok (.new 99, 3) := by decide +kernel
theorem dX3_load_13 : decode cX3_load 13 = .ok (.dup, 1) := by decide +kernel
theorem dX3_load_14 : decode cX3_load 14 = .ok (.ldc 125, 2) := by decide +kernel
theorem dX3_load_16 : decode cX3_load 16 = .ok (.invokespecial 103, 3) := by decide +kernel
theorem dX3_load_19 : decode cX3_load 19 = .ok (.athrow, 1) := by decide +kernel
theorem dX3_load_20 : decode cX3_load 20 = .ok (.aload_n 0, 1) := by decide +kernel
theorem dX3_load_21 : decode cX3_load 21 = .ok (.getfield 23, 3) := by decide +kernel
theorem dX3_load_24 : decode cX3_load 24 = .ok (.aload_n 0, 1) := by decide +kernel
theorem dX3_load_25 : decode cX3_load 25 = .ok (.getfield 19, 3) := by decide +kernel
theorem dX3_load_28 : decode cX3_load 28 = .ok (.invokevirtual 127, 3) := by decide +kernel
theorem dX3_load_31 : decode cX3_load 31 = .ok (.aload_n 0, 1) := by decide +kernel
theorem dX3_load_32 : decode cX3_load 32 = .ok (.getfield 12, 3) := by decide +kernel
theorem dX3_load_35 : decode cX3_load 35 = .ok (.aload_n 0, 1) := by decide +kernel
theorem dX3_load_36 : decode cX3_load 36 = .ok (.getfield 23, 3) := by decide +kernel
theorem dX3_load_39 : decode cX3_load 39 = .ok (.invokevirtual 131, 3) := by decide +kernel
theorem dX3_load_42 : decode cX3_load 42 = .ok (.istore_n 1, 1) := by decide +kernel
theorem dX3_load_43 : decode cX3_load 43 = .ok (.iload_n 1, 1) := by decide +kernel
theorem dX3_load_44 : decode cX3_load 44 = .ok (.iconst (-1), 1) := by decide +kernel
theorem dX3_load_45 : decode cX3_load 45 = .ok (.if_icmp .ne 13, 3) := by decide +kernel
theorem dX3_load_48 : decode cX3_load 48 = .ok (.new 109, 3) := by decide +kernel
theorem dX3_load_51 : decode cX3_load 51 = .ok (.dup, 1) := by decide +kernel
theorem dX3_load_52 : decode cX3_load 52 = .ok (.ldc 135, 2) := by decide +kernel
theorem dX3_load_54 : decode cX3_load 54 = .ok (.invokespecial 113, 3) := by decide +kernel
theorem dX3_load_57 : decode cX3_load 57 = .ok (.athrow, 1) := by decide +kernel
theorem dX3_load_58 : decode cX3_load 58 = .ok (.aload_n 0, 1) := by decide +kernel
theorem dX3_load_59 : decode cX3_load 59 = .ok (.getfield 23, 3) := by decide +kernel
theorem dX3_load_62 : decode cX3_load 62 = .ok (.invokevirtual 33, 3) := by decide +kernel
theorem dX3_load_65 : decode cX3_load 65 = .ok (.aload_n 0, 1) := by decide +kernel
theorem dX3_load_66 : decode cX3_load 66 = .ok (.invokevirtual 137, 3) := by decide +kernel
theorem dX3_load_69 : decode cX3_load 69 = .ok (.aload_n 0, 1) := by decide +kernel
theorem dX3_load_70 : decode cX3_load 70 = .ok (.getfield 12, 3) := by decide +kernel
theorem dX3_load_73 : decode cX3_load 73 = .ok (.iconst 0, 1) := by decide +kernel
theorem dX3_load_74 : decode cX3_load 74 = .ok (.putfield 106, 3) := by decide +kernel
theorem dX3_load_77 : decode cX3_load 77 = .ok (.iload_n 1, 1) := by decide +kernel
theorem dX3_load_78 : decode cX3_load 78 = .ok (.ireturn, 1) := by decide +kernel
theorem dX3_resolve_0 : decode cX3_resolve 0 = .ok (.iload_n 1, 1) := by decide +kernel
theorem dX3_resolve_1 : decode cX3_resolve 1 = .ok (.aload_n 0, 1) := by decide +kernel
theorem dX3_resolve_2 : decode cX3_resolve 2 = .ok (.getfield 19, 3) := by decide +kernel
theorem dX3_resolve_5 : decode cX3_resolve 5 = .ok (.getfield 26, 3) := by decide +kernel
theorem dX3_resolve_8 : decode cX3_resolve 8 = .ok (.invokestatic 87, 3) := by decide +kernel
theorem dX3_resolve_11 : decode cX3_resolve 11 = .ok (.iload_n 2, 1) := by decide +kernel
theorem dX3_resolve_12 : decode cX3_resolve 12 = .ok (.bipush 26, 2) := by decide +kernel
theorem dX3_resolve_14 : decode cX3_resolve 14 = .ok (.invokestatic 74, 3) := by decide +kernel
theorem dX3_resolve_17 : decode cX3_resolve 17 = .ok (.iload_n 3, 1) := by decide +kernel
theorem dX3_resolve_18 : decode cX3_resolve 18 = .ok (.iconst 5, 1) := by decide +kernel
theorem dX3_resolve_19 : decode cX3_resolve 19 = .ok (.invokestatic 74, 3) := by decide +kernel
theorem dX3_resolve_22 : decode cX3_resolve 22 = .ok (.aload_n 0, 1) := by decide +kernel
theorem dX3_resolve_23 : decode cX3_resolve 23 = .ok (.getfield 19, 3) := by decide +kernel
theorem dX3_resolve_26 : decode cX3_resolve 26 = .ok (.iload_n 1, 1) := by decide +kernel
theorem dX3_resolve_27 : decode cX3_resolve 27 = .ok (.iload_n 2, 1) := by decide +kernel
theorem dX3_resolve_28 : decode cX3_resolve 28 = .ok (.iconst 0, 1) := by decide +kernel
theorem dX3_resolve_29 : decode cX3_resolve 29 = .ok (.invokevirtual 140, 3) := by decide +kernel
theorem dX3_resolve_32 : decode cX3_resolve 32 = .ok (.istore 4, 2) := by decide +kernel
theorem dX3_resolve_34 : decode cX3_resolve 34 = .ok (.iload_n 3, 1) := by decide +kernel
theorem dX3_resolve_35 : decode cX3_resolve 35 = .ok (.tableswitch 85 0 3 #[29, 42, 55, 70], 29) := by decide +kernel
theorem dX3_resolve_64 : decode cX3_resolve 64 = .ok (.aload_n 0, 1) := by decide +kernel
theorem dX3_resolve_65 : decode cX3_resolve 65 = .ok (.getfield 19, 3) := by decide +kernel
theorem dX3_resolve_68 : decode cX3_resolve 68 = .ok (.iload_n 1, 1) := by decide +kernel
theorem dX3_resolve_69 : decode cX3_resolve 69 = .ok (.iload_n 2, 1) := by decide +kernel
theorem dX3_resolve_70 : decode cX3_resolve 70 = .ok (.invokevirtual 143, 3) := by decide +kernel
theorem dX3_resolve_73 : decode cX3_resolve 73 = .ok (.invokestatic 146, 3) := by decide +kernel
theorem dX3_resolve_76 : decode cX3_resolve 76 = .ok (.ireturn, 1) := by decide +kernel
theorem dX3_resolve_77 : decode cX3_resolve 77 = .ok (.aload_n 0, 1) := by decide +kernel
theorem dX3_resolve_78 : decode cX3_resolve 78 = .ok (.getfield 19, 3) := by decide +kernel
theorem dX3_resolve_81 : decode cX3_resolve 81 = .ok (.iload_n 1, 1) := by decide +kernel
theorem dX3_resolve_82 : decode cX3_resolve 82 = .ok (.iload_n 2, 1) := by decide +kernel
theorem dX3_resolve_83 : decode cX3_resolve 83 = .ok (.invokevirtual 143, 3) := by decide +kernel
theorem dX3_resolve_86 : decode cX3_resolve 86 = .ok (.invokestatic 149, 3) := by decide +kernel
theorem dX3_resolve_89 : decode cX3_resolve 89 = .ok (.ireturn, 1) := by decide +kernel
theorem dX3_resolve_90 : decode cX3_resolve 90 = .ok (.iload 4, 2) := by decide +kernel
theorem dX3_resolve_92 : decode cX3_resolve 92 = .ok (.iconst (-1), 1) := by decide +kernel
theorem dX3_resolve_93 : decode cX3_resolve 93 = .ok (.if_icmp .ne 7, 3) := by decide +kernel
theorem dX3_resolve_96 : decode cX3_resolve 96 = .ok (.iconst (-1), 1) := by decide +kernel
theorem dX3_resolve_97 : decode cX3_resolve 97 = .ok (.goto 7, 3) := by decide +kernel
theorem dX3_resolve_100 : decode cX3_resolve 100 = .ok (.iload 4, 2) := by decide +kernel
theorem dX3_resolve_102 : decode cX3_resolve 102 = .ok (.iconst 3, 1) := by decide +kernel
theorem dX3_resolve_103 : decode cX3_resolve 103 = .ok (.irem, 1) := by decide +kernel
theorem dX3_resolve_104 : decode cX3_resolve 104 = .ok (.ireturn, 1) := by decide +kernel
theorem dX3_resolve_105 : decode cX3_resolve 105 = .ok (.iload 4, 2) := by decide +kernel
theorem dX3_resolve_107 : decode cX3_resolve 107 = .ok (.iconst (-1), 1) := by decide +kernel
theorem dX3_resolve_108 : decode cX3_resolve 108 = .ok (.if_icmp .ne 7, 3) := by decide +kernel
theorem dX3_resolve_111 : decode cX3_resolve 111 = .ok (.iconst (-1), 1) := by decide +kernel
theorem dX3_resolve_112 : decode cX3_resolve 112 = .ok (.goto 7, 3) := by decide +kernel
theorem dX3_resolve_115 : decode cX3_resolve 115 = .ok (.iload 4, 2) := by decide +kernel
theorem dX3_resolve_117 : decode cX3_resolve 117 = .ok (.iconst 3, 1) := by decide +kernel
theorem dX3_resolve_118 : decode cX3_resolve 118 = .ok (.idiv, 1) := by decide +kernel
theorem dX3_resolve_119 : decode cX3_resolve 119 = .ok (.ireturn, 1) := by decide +kernel
theorem dX3_resolve_120 : decode cX3_resolve 120 = .ok (.iconst 0, 1) := by decide +kernel
theorem dX3_resolve_121 : decode cX3_resolve 121 = .ok (.aload_n 0, 1) := by decide +kernel
theorem dX3_resolve_122 : decode cX3_resolve 122 = .ok (.getfield 19, 3) := by decide +kernel
theorem dX3_resolve_125 : decode cX3_resolve 125 = .ok (.iload_n 1, 1) := by decide +kernel
theorem dX3_resolve_126 : decode cX3_resolve 126 = .ok (.iload_n 2, 1) := by decide +kernel
theorem dX3_resolve_127 : decode cX3_resolve 127 = .ok (.invokevirtual 154, 3) := by decide +kernel
theorem dX3_resolve_130 : decode cX3_resolve 130 = .ok (.iconst 1, 1) := by decide +kernel
theorem dX3_resolve_131 : decode cX3_resolve 131 = .ok (.isub, 1) := by decide +kernel
theorem dX3_resolve_132 : decode cX3_resolve 132 = .ok (.invokestatic 157, 3) := by decide +kernel
theorem dX3_resolve_135 : decode cX3_resolve 135 = .ok (.ireturn, 1) := by decide +kernel
theorem dX3_candidate_0 : decode cX3_candidate 0 = .ok (.iload_n 1, 1) := by decide +kernel
theorem dX3_candidate_1 : decode cX3_candidate 1 = .ok (.aload_n 0, 1) := by decide +kernel
theorem dX3_candidate_2 : decode cX3_candidate 2 = .ok (.getfield 19, 3) := by decide +kernel
theorem dX3_candidate_5 : decode cX3_candidate 5 = .ok (.getfield 26, 3) := by decide +kernel
theorem dX3_candidate_8 : decode cX3_candidate 8 = .ok (.invokestatic 87, 3) := by decide +kernel
theorem dX3_candidate_11 : decode cX3_candidate 11 = .ok (.iload_n 2, 1) := by decide +kernel
theorem dX3_candidate_12 : decode cX3_candidate 12 = .ok (.bipush 26, 2) := by decide +kernel
theorem dX3_candidate_14 : decode cX3_candidate 14 = .ok (.invokestatic 74, 3) := by decide +kernel
theorem dX3_candidate_17 : decode cX3_candidate 17 = .ok (.iload_n 3, 1) := by decide +kernel
theorem dX3_candidate_18 : decode cX3_candidate 18 = .ok (.ifCond .ge 7, 3) := by decide +kernel
theorem dX3_candidate_21 : decode cX3_candidate 21 = .ok (.iconst (-1), 1) := by decide +kernel
theorem dX3_candidate_22 : decode cX3_candidate 22 = .ok (.goto 13, 3) := by decide +kernel
theorem dX3_candidate_25 : decode cX3_candidate 25 = .ok (.aload_n 0, 1) := by decide +kernel
theorem dX3_candidate_26 : decode cX3_candidate 26 = .ok (.getfield 19, 3) := by decide +kernel
theorem dX3_candidate_29 : decode cX3_candidate 29 = .ok (.iload_n 1, 1) := by decide +kernel
theorem dX3_candidate_30 : decode cX3_candidate 30 = .ok (.iload_n 2, 1) := by decide +kernel
theorem dX3_candidate_31 : decode cX3_candidate 31 = .ok (.iload_n 3, 1) := by decide +kernel
theorem dX3_candidate_32 : decode cX3_candidate 32 = .ok (.invokevirtual 140, 3) := by decide +kernel
theorem dX3_candidate_35 : decode cX3_candidate 35 = .ok (.istore 5, 2) := by decide +kernel
theorem dX3_candidate_37 : decode cX3_candidate 37 = .ok (.iload 5, 2) := by decide +kernel
theorem dX3_candidate_39 : decode cX3_candidate 39 = .ok (.iconst (-1), 1) := by decide +kernel
theorem dX3_candidate_40 : decode cX3_candidate 40 = .ok (.if_icmp .ne 7, 3) := by decide +kernel
theorem dX3_candidate_43 : decode cX3_candidate 43 = .ok (.iconst (-1), 1) := by decide +kernel
theorem dX3_candidate_44 : decode cX3_candidate 44 = .ok (.goto 19, 3) := by decide +kernel
theorem dX3_candidate_47 : decode cX3_candidate 47 = .ok (.aload_n 0, 1) := by decide +kernel
theorem dX3_candidate_48 : decode cX3_candidate 48 = .ok (.getfield 19, 3) := by decide +kernel
theorem dX3_candidate_51 : decode cX3_candidate 51 = .ok (.iload_n 1, 1) := by decide +kernel
theorem dX3_candidate_52 : decode cX3_candidate 52 = .ok (.iload_n 2, 1) := by decide +kernel
theorem dX3_candidate_53 : decode cX3_candidate 53 = .ok (.iload 5, 2) := by decide +kernel
theorem dX3_candidate_55 : decode cX3_candidate 55 = .ok (.invokevirtual 162, 3) := by decide +kernel
theorem dX3_candidate_58 : decode cX3_candidate 58 = .ok (.iload 4, 2) := by decide +kernel
theorem dX3_candidate_60 : decode cX3_candidate 60 = .ok (.invokestatic 165, 3) := by decide +kernel
theorem dX3_candidate_63 : decode cX3_candidate 63 = .ok (.ireturn, 1) := by decide +kernel
theorem dX3_offers_0 : decode cX3_offers 0 = .ok (.iload_n 1, 1) := by decide +kernel
theorem dX3_offers_1 : decode cX3_offers 1 = .ok (.aload_n 0, 1) := by decide +kernel
theorem dX3_offers_2 : decode cX3_offers 2 = .ok (.getfield 19, 3) := by decide +kernel
theorem dX3_offers_5 : decode cX3_offers 5 = .ok (.getfield 26, 3) := by decide +kernel
theorem dX3_offers_8 : decode cX3_offers 8 = .ok (.invokestatic 87, 3) := by decide +kernel
theorem dX3_offers_11 : decode cX3_offers 11 = .ok (.iload_n 2, 1) := by decide +kernel
theorem dX3_offers_12 : decode cX3_offers 12 = .ok (.bipush 26, 2) := by decide +kernel
theorem dX3_offers_14 : decode cX3_offers 14 = .ok (.invokestatic 74, 3) := by decide +kernel
theorem dX3_offers_17 : decode cX3_offers 17 = .ok (.aload_n 0, 1) := by decide +kernel
theorem dX3_offers_18 : decode cX3_offers 18 = .ok (.getfield 19, 3) := by decide +kernel
theorem dX3_offers_21 : decode cX3_offers 21 = .ok (.getfield 168, 3) := by decide +kernel
theorem dX3_offers_24 : decode cX3_offers 24 = .ok (.getfield 172, 3) := by decide +kernel
theorem dX3_offers_27 : decode cX3_offers 27 = .ok (.iload_n 1, 1) := by decide +kernel
theorem dX3_offers_28 : decode cX3_offers 28 = .ok (.bipush 26, 2) := by decide +kernel
theorem dX3_offers_30 : decode cX3_offers 30 = .ok (.imul, 1) := by decide +kernel
theorem dX3_offers_31 : decode cX3_offers 31 = .ok (.iload_n 2, 1) := by decide +kernel
theorem dX3_offers_32 : decode cX3_offers 32 = .ok (.iadd, 1) := by decide +kernel
theorem dX3_offers_33 : decode cX3_offers 33 = .ok (.iaload, 1) := by decide +kernel
theorem dX3_offers_34 : decode cX3_offers 34 = .ok (.invokestatic 149, 3) := by decide +kernel
theorem dX3_offers_37 : decode cX3_offers 37 = .ok (.ireturn, 1) := by decide +kernel
theorem dX3_visible_0 : decode cX3_visible 0 = .ok (.iload_n 1, 1) := by decide +kernel
theorem dX3_visible_1 : decode cX3_visible 1 = .ok (.aload_n 0, 1) := by decide +kernel
theorem dX3_visible_2 : decode cX3_visible 2 = .ok (.getfield 19, 3) := by decide +kernel
theorem dX3_visible_5 : decode cX3_visible 5 = .ok (.getfield 26, 3) := by decide +kernel
theorem dX3_visible_8 : decode cX3_visible 8 = .ok (.invokestatic 87, 3) := by decide +kernel
theorem dX3_visible_11 : decode cX3_visible 11 = .ok (.iconst 0, 1) := by decide +kernel
theorem dX3_visible_12 : decode cX3_visible 12 = .ok (.istore_n 3, 1) := by decide +kernel
theorem dX3_visible_13 : decode cX3_visible 13 = .ok (.iconst 0, 1) := by decide +kernel
theorem dX3_visible_14 : decode cX3_visible 14 = .ok (.istore 4, 2) := by decide +kernel
theorem dX3_visible_16 : decode cX3_visible 16 = .ok (.iload 4, 2) := by decide +kernel
theorem dX3_visible_18 : decode cX3_visible 18 = .ok (.bipush 26, 2) := by decide +kernel
theorem dX3_visible_20 : decode cX3_visible 20 = .ok (.if_icmp .ge 50, 3) := by decide +kernel
theorem dX3_visible_23 : decode cX3_visible 23 = .ok (.aload_n 0, 1) := by decide +kernel
theorem dX3_visible_24 : decode cX3_visible 24 = .ok (.getfield 19, 3) := by decide +kernel
theorem dX3_visible_27 : decode cX3_visible 27 = .ok (.iload_n 1, 1) := by decide +kernel
theorem dX3_visible_28 : decode cX3_visible 28 = .ok (.iload 4, 2) := by decide +kernel
theorem dX3_visible_30 : decode cX3_visible 30 = .ok (.invokevirtual 143, 3) := by decide +kernel
theorem dX3_visible_33 : decode cX3_visible 33 = .ok (.invokestatic 149, 3) := by decide +kernel
theorem dX3_visible_36 : decode cX3_visible 36 = .ok (.istore 5, 2) := by decide +kernel
theorem dX3_visible_38 : decode cX3_visible 38 = .ok (.iload_n 2, 1) := by decide +kernel
theorem dX3_visible_39 : decode cX3_visible 39 = .ok (.ifCond .eq 12, 3) := by decide +kernel
theorem dX3_visible_42 : decode cX3_visible 42 = .ok (.iload 5, 2) := by decide +kernel
theorem dX3_visible_44 : decode cX3_visible 44 = .ok (.iconst 1, 1) := by decide +kernel
theorem dX3_visible_45 : decode cX3_visible 45 = .ok (.if_icmp .le 19, 3) := by decide +kernel
theorem dX3_visible_48 : decode cX3_visible 48 = .ok (.goto 9, 3) := by decide +kernel
theorem dX3_visible_51 : decode cX3_visible 51 = .ok (.iload 5, 2) := by decide +kernel
theorem dX3_visible_53 : decode cX3_visible 53 = .ok (.iconst 1, 1) := by decide +kernel
theorem dX3_visible_54 : decode cX3_visible 54 = .ok (.if_icmp .ne 10, 3) := by decide +kernel
theorem dX3_visible_57 : decode cX3_visible 57 = .ok (.iload_n 3, 1) := by decide +kernel
theorem dX3_visible_58 : decode cX3_visible 58 = .ok (.iconst 1, 1) := by decide +kernel
theorem dX3_visible_59 : decode cX3_visible 59 = .ok (.iload 4, 2) := by decide +kernel
theorem dX3_visible_61 : decode cX3_visible 61 = .ok (.ishl, 1) := by decide +kernel
theorem dX3_visible_62 : decode cX3_visible 62 = .ok (.ior, 1) := by decide +kernel
theorem dX3_visible_63 : decode cX3_visible 63 = .ok (.istore_n 3, 1) := by decide +kernel
theorem dX3_visible_64 : decode cX3_visible 64 = .ok (.iinc 4 1, 3) := by decide +kernel
theorem dX3_visible_67 : decode cX3_visible 67 = .ok (.goto (-51), 3) := by decide +kernel
theorem dX3_visible_70 : decode cX3_visible 70 = .ok (.iload_n 3, 1) := by decide +kernel
theorem dX3_visible_71 : decode cX3_visible 71 = .ok (.ireturn, 1) := by decide +kernel
theorem dX3_rename_0 : decode cX3_rename 0 = .ok (.iload_n 1, 1) := by decide +kernel
theorem dX3_rename_1 : decode cX3_rename 1 = .ok (.aload_n 0, 1) := by decide +kernel
theorem dX3_rename_2 : decode cX3_rename 2 = .ok (.getfield 19, 3) := by decide +kernel
theorem dX3_rename_5 : decode cX3_rename 5 = .ok (.getfield 78, 3) := by decide +kernel
theorem dX3_rename_8 : decode cX3_rename 8 = .ok (.invokestatic 87, 3) := by decide +kernel
theorem dX3_rename_11 : decode cX3_rename 11 = .ok (.iload_n 2, 1) := by decide +kernel
theorem dX3_rename_12 : decode cX3_rename 12 = .ok (.bipush 26, 2) := by decide +kernel
theorem dX3_rename_14 : decode cX3_rename 14 = .ok (.invokestatic 74, 3) := by decide +kernel
theorem dX3_rename_17 : decode cX3_rename 17 = .ok (.aload_n 0, 1) := by decide +kernel
theorem dX3_rename_18 : decode cX3_rename 18 = .ok (.iload_n 1, 1) := by decide +kernel
theorem dX3_rename_19 : decode cX3_rename 19 = .ok (.iload_n 2, 1) := by decide +kernel
theorem dX3_rename_20 : decode cX3_rename 20 = .ok (.invokevirtual 178, 3) := by decide +kernel
theorem dX3_rename_23 : decode cX3_rename 23 = .ok (.istore_n 3, 1) := by decide +kernel
theorem dX3_rename_24 : decode cX3_rename 24 = .ok (.iload_n 3, 1) := by decide +kernel
theorem dX3_rename_25 : decode cX3_rename 25 = .ok (.ifCond .ne 7, 3) := by decide +kernel
theorem dX3_rename_28 : decode cX3_rename 28 = .ok (.aload_n 0, 1) := by decide +kernel
theorem dX3_rename_29 : decode cX3_rename 29 = .ok (.invokevirtual 137, 3) := by decide +kernel
theorem dX3_rename_32 : decode cX3_rename 32 = .ok (.iload_n 3, 1) := by decide +kernel
theorem dX3_rename_33 : decode cX3_rename 33 = .ok (.ireturn, 1) := by decide +kernel
theorem dX3_ifRenamed_0 : decode cX3_ifRenamed 0 = .ok (.iload_n 1, 1) := by decide +kernel
theorem dX3_ifRenamed_1 : decode cX3_ifRenamed 1 = .ok (.aload_n 0, 1) := by decide +kernel
theorem dX3_ifRenamed_2 : decode cX3_ifRenamed 2 = .ok (.getfield 19, 3) := by decide +kernel
theorem dX3_ifRenamed_5 : decode cX3_ifRenamed 5 = .ok (.getfield 78, 3) := by decide +kernel
theorem dX3_ifRenamed_8 : decode cX3_ifRenamed 8 = .ok (.invokestatic 87, 3) := by decide +kernel
theorem dX3_ifRenamed_11 : decode cX3_ifRenamed 11 = .ok (.iload_n 2, 1) := by decide +kernel
theorem dX3_ifRenamed_12 : decode cX3_ifRenamed 12 = .ok (.bipush 26, 2) := by decide +kernel
theorem dX3_ifRenamed_14 : decode cX3_ifRenamed 14 = .ok (.invokestatic 74, 3) := by decide +kernel
theorem dX3_ifRenamed_17 : decode cX3_ifRenamed 17 = .ok (.iload_n 3, 1) := by decide +kernel
theorem dX3_ifRenamed_18 : decode cX3_ifRenamed 18 = .ok (.iconst 3, 1) := by decide +kernel
theorem dX3_ifRenamed_19 : decode cX3_ifRenamed 19 = .ok (.invokestatic 74, 3) := by decide +kernel
theorem dX3_ifRenamed_22 : decode cX3_ifRenamed 22 = .ok (.iload_n 3, 1) := by decide +kernel
theorem dX3_ifRenamed_23 : decode cX3_ifRenamed 23 = .ok (.iconst 2, 1) := by decide +kernel
theorem dX3_ifRenamed_24 : decode cX3_ifRenamed 24 = .ok (.if_icmp .ne 9, 3) := by decide +kernel
theorem dX3_ifRenamed_27 : decode cX3_ifRenamed 27 = .ok (.aload_n 0, 1) := by decide +kernel
theorem dX3_ifRenamed_28 : decode cX3_ifRenamed 28 = .ok (.iload_n 1, 1) := by decide +kernel
theorem dX3_ifRenamed_29 : decode cX3_ifRenamed 29 = .ok (.invokevirtual 181, 3) := by decide +kernel
theorem dX3_ifRenamed_32 : decode cX3_ifRenamed 32 = .ok (.ireturn, 1) := by decide +kernel
theorem dX3_ifRenamed_33 : decode cX3_ifRenamed 33 = .ok (.aload_n 0, 1) := by decide +kernel
theorem dX3_ifRenamed_34 : decode cX3_ifRenamed 34 = .ok (.iload_n 1, 1) := by decide +kernel
theorem dX3_ifRenamed_35 : decode cX3_ifRenamed 35 = .ok (.iload_n 2, 1) := by decide +kernel
theorem dX3_ifRenamed_36 : decode cX3_ifRenamed 36 = .ok (.invokevirtual 178, 3) := by decide +kernel
theorem dX3_ifRenamed_39 : decode cX3_ifRenamed 39 = .ok (.istore 4, 2) := by decide +kernel
theorem dX3_ifRenamed_41 : decode cX3_ifRenamed 41 = .ok (.iload_n 3, 1) := by decide +kernel
theorem dX3_ifRenamed_42 : decode cX3_ifRenamed 42 = .ok (.ifCond .ne 6, 3) := by decide +kernel
theorem dX3_ifRenamed_45 : decode cX3_ifRenamed 45 = .ok (.iload 4, 2) := by decide +kernel
theorem dX3_ifRenamed_47 : decode cX3_ifRenamed 47 = .ok (.ireturn, 1) := by decide +kernel
theorem dX3_ifRenamed_48 : decode cX3_ifRenamed 48 = .ok (.iload 4, 2) := by decide +kernel
theorem dX3_ifRenamed_50 : decode cX3_ifRenamed 50 = .ok (.iconst 2, 1) := by decide +kernel
theorem dX3_ifRenamed_51 : decode cX3_ifRenamed 51 = .ok (.if_icmp .eq 9, 3) := by decide +kernel
theorem dX3_ifRenamed_54 : decode cX3_ifRenamed 54 = .ok (.iload 4, 2) := by decide +kernel
theorem dX3_ifRenamed_56 : decode cX3_ifRenamed 56 = .ok (.iconst 3, 1) := by decide +kernel
theorem dX3_ifRenamed_57 : decode cX3_ifRenamed 57 = .ok (.if_icmp .ne 22, 3) := by decide +kernel
theorem dX3_ifRenamed_60 : decode cX3_ifRenamed 60 = .ok (.aload_n 0, 1) := by decide +kernel
theorem dX3_ifRenamed_61 : decode cX3_ifRenamed 61 = .ok (.iload_n 1, 1) := by decide +kernel
theorem dX3_ifRenamed_62 : decode cX3_ifRenamed 62 = .ok (.iload 4, 2) := by decide +kernel
theorem dX3_ifRenamed_64 : decode cX3_ifRenamed 64 = .ok (.iconst 2, 1) := by decide +kernel
theorem dX3_ifRenamed_65 : decode cX3_ifRenamed 65 = .ok (.if_icmp .ne 7, 3) := by decide +kernel
theorem dX3_ifRenamed_68 : decode cX3_ifRenamed 68 = .ok (.iconst 1, 1) := by decide +kernel
theorem dX3_ifRenamed_69 : decode cX3_ifRenamed 69 = .ok (.goto 4, 3) := by decide +kernel
theorem dX3_ifRenamed_72 : decode cX3_ifRenamed 72 = .ok (.iconst 0, 1) := by decide +kernel
theorem dX3_ifRenamed_73 : decode cX3_ifRenamed 73 = .ok (.invokevirtual 184, 3) := by decide +kernel
theorem dX3_ifRenamed_76 : decode cX3_ifRenamed 76 = .ok (.goto 4, 3) := by decide +kernel
theorem dX3_ifRenamed_79 : decode cX3_ifRenamed 79 = .ok (.iconst (-1), 1) := by decide +kernel
theorem dX3_ifRenamed_80 : decode cX3_ifRenamed 80 = .ok (.ireturn, 1) := by decide +kernel
theorem dX3_freeName_0 : decode cX3_freeName 0 = .ok (.iload_n 1, 1) := by decide +kernel
theorem dX3_freeName_1 : decode cX3_freeName 1 = .ok (.aload_n 0, 1) := by decide +kernel
theorem dX3_freeName_2 : decode cX3_freeName 2 = .ok (.getfield 19, 3) := by decide +kernel
theorem dX3_freeName_5 : decode cX3_freeName 5 = .ok (.getfield 78, 3) := by decide +kernel
theorem dX3_freeName_8 : decode cX3_freeName 8 = .ok (.invokestatic 87, 3) := by decide +kernel
theorem dX3_freeName_11 : decode cX3_freeName 11 = .ok (.iconst 0, 1) := by decide +kernel
theorem dX3_freeName_12 : decode cX3_freeName 12 = .ok (.istore_n 2, 1) := by decide +kernel
theorem dX3_freeName_13 : decode cX3_freeName 13 = .ok (.iload_n 2, 1) := by decide +kernel
theorem dX3_freeName_14 : decode cX3_freeName 14 = .ok (.bipush 26, 2) := by decide +kernel
theorem dX3_freeName_16 : decode cX3_freeName 16 = .ok (.if_icmp .ge 20, 3) := by decide +kernel
theorem dX3_freeName_19 : decode cX3_freeName 19 = .ok (.aload_n 0, 1) := by decide +kernel
theorem dX3_freeName_20 : decode cX3_freeName 20 = .ok (.iload_n 1, 1) := by decide +kernel
theorem dX3_freeName_21 : decode cX3_freeName 21 = .ok (.iload_n 2, 1) := by decide +kernel
theorem dX3_freeName_22 : decode cX3_freeName 22 = .ok (.invokevirtual 178, 3) := by decide +kernel
theorem dX3_freeName_25 : decode cX3_freeName 25 = .ok (.ifCond .ne 5, 3) := by decide +kernel
theorem dX3_freeName_28 : decode cX3_freeName 28 = .ok (.iload_n 2, 1) := by decide +kernel
theorem dX3_freeName_29 : decode cX3_freeName 29 = .ok (.ireturn, 1) := by decide +kernel
theorem dX3_freeName_30 : decode cX3_freeName 30 = .ok (.iinc 2 1, 3) := by decide +kernel
theorem dX3_freeName_33 : decode cX3_freeName 33 = .ok (.goto (-20), 3) := by decide +kernel
theorem dX3_freeName_36 : decode cX3_freeName 36 = .ok (.iconst (-1), 1) := by decide +kernel
theorem dX3_freeName_37 : decode cX3_freeName 37 = .ok (.ireturn, 1) := by decide +kernel
theorem dX3_count_0 : decode cX3_count 0 = .ok (.iload_n 1, 1) := by decide +kernel
theorem dX3_count_1 : decode cX3_count 1 = .ok (.bipush 11, 2) := by decide +kernel
theorem dX3_count_3 : decode cX3_count 3 = .ok (.invokestatic 74, 3) := by decide +kernel
theorem dX3_count_6 : decode cX3_count 6 = .ok (.iload_n 1, 1) := by decide +kernel
theorem dX3_count_7 : decode cX3_count 7 = .ok (.tableswitch 141 0 9 #[53, 61, 69, 77, 85, 94, 112, 120, 125, 133], 53) := by decide +kernel
theorem dX3_count_60 : decode cX3_count 60 = .ok (.aload_n 0, 1) := by decide +kernel
theorem dX3_count_61 : decode cX3_count 61 = .ok (.getfield 19, 3) := by decide +kernel
theorem dX3_count_64 : decode cX3_count 64 = .ok (.getfield 26, 3) := by decide +kernel
theorem dX3_count_67 : decode cX3_count 67 = .ok (.ireturn, 1) := by decide +kernel
theorem dX3_count_68 : decode cX3_count 68 = .ok (.aload_n 0, 1) := by decide +kernel
theorem dX3_count_69 : decode cX3_count 69 = .ok (.getfield 19, 3) := by decide +kernel
theorem dX3_count_72 : decode cX3_count 72 = .ok (.getfield 78, 3) := by decide +kernel
theorem dX3_count_75 : decode cX3_count 75 = .ok (.ireturn, 1) := by decide +kernel
theorem dX3_count_76 : decode cX3_count 76 = .ok (.aload_n 0, 1) := by decide +kernel
theorem dX3_count_77 : decode cX3_count 77 = .ok (.getfield 19, 3) := by decide +kernel
theorem dX3_count_80 : decode cX3_count 80 = .ok (.getfield 81, 3) := by decide +kernel
theorem dX3_count_83 : decode cX3_count 83 = .ok (.ireturn, 1) := by decide +kernel
theorem dX3_count_84 : decode cX3_count 84 = .ok (.aload_n 0, 1) := by decide +kernel
theorem dX3_count_85 : decode cX3_count 85 = .ok (.getfield 19, 3) := by decide +kernel
theorem dX3_count_88 : decode cX3_count 88 = .ok (.getfield 84, 3) := by decide +kernel
theorem dX3_count_91 : decode cX3_count 91 = .ok (.ireturn, 1) := by decide +kernel
theorem dX3_count_92 : decode cX3_count 92 = .ok (.aload_n 0, 1) := by decide +kernel
theorem dX3_count_93 : decode cX3_count 93 = .ok (.getfield 19, 3) := by decide +kernel
theorem dX3_count_96 : decode cX3_count 96 = .ok (.iconst 0, 1) := by decide +kernel
theorem dX3_count_97 : decode cX3_count 97 = .ok (.invokevirtual 188, 3) := by decide +kernel
theorem dX3_count_100 : decode cX3_count 100 = .ok (.ireturn, 1) := by decide +kernel
theorem dX3_count_101 : decode cX3_count 101 = .ok (.aload_n 0, 1) := by decide +kernel
theorem dX3_count_102 : decode cX3_count 102 = .ok (.getfield 19, 3) := by decide +kernel
theorem dX3_count_105 : decode cX3_count 105 = .ok (.iconst 2, 1) := by decide +kernel
theorem dX3_count_106 : decode cX3_count 106 = .ok (.invokevirtual 188, 3) := by decide +kernel
theorem dX3_count_109 : decode cX3_count 109 = .ok (.aload_n 0, 1) := by decide +kernel
theorem dX3_count_110 : decode cX3_count 110 = .ok (.getfield 19, 3) := by decide +kernel
theorem dX3_count_113 : decode cX3_count 113 = .ok (.iconst 3, 1) := by decide +kernel
theorem dX3_count_114 : decode cX3_count 114 = .ok (.invokevirtual 188, 3) := by decide +kernel
theorem dX3_count_117 : decode cX3_count 117 = .ok (.iadd, 1) := by decide +kernel
theorem dX3_count_118 : decode cX3_count 118 = .ok (.ireturn, 1) := by decide +kernel
theorem dX3_count_119 : decode cX3_count 119 = .ok (.aload_n 0, 1) := by decide +kernel
theorem dX3_count_120 : decode cX3_count 120 = .ok (.getfield 19, 3) := by decide +kernel
theorem dX3_count_123 : decode cX3_count 123 = .ok (.invokevirtual 191, 3) := by decide +kernel
theorem dX3_count_126 : decode cX3_count 126 = .ok (.ireturn, 1) := by decide +kernel
theorem dX3_count_127 : decode cX3_count 127 = .ok (.aload_n 0, 1) := by decide +kernel
theorem dX3_count_128 : decode cX3_count 128 = .ok (.invokevirtual 194, 3) := by decide +kernel
theorem dX3_count_131 : decode cX3_count 131 = .ok (.ireturn, 1) := by decide +kernel
theorem dX3_count_132 : decode cX3_count 132 = .ok (.aload_n 0, 1) := by decide +kernel
theorem dX3_count_133 : decode cX3_count 133 = .ok (.getfield 19, 3) := by decide +kernel
theorem dX3_count_136 : decode cX3_count 136 = .ok (.invokevirtual 197, 3) := by decide +kernel
theorem dX3_count_139 : decode cX3_count 139 = .ok (.ireturn, 1) := by decide +kernel
theorem dX3_count_140 : decode cX3_count 140 = .ok (.aload_n 0, 1) := by decide +kernel
theorem dX3_count_141 : decode cX3_count 141 = .ok (.getfield 19, 3) := by decide +kernel
theorem dX3_count_144 : decode cX3_count 144 = .ok (.invokevirtual 200, 3) := by decide +kernel
theorem dX3_count_147 : decode cX3_count 147 = .ok (.ireturn, 1) := by decide +kernel
theorem dX3_count_148 : decode cX3_count 148 = .ok (.aload_n 0, 1) := by decide +kernel
theorem dX3_count_149 : decode cX3_count 149 = .ok (.getfield 19, 3) := by decide +kernel
theorem dX3_count_152 : decode cX3_count 152 = .ok (.invokevirtual 203, 3) := by decide +kernel
theorem dX3_count_155 : decode cX3_count 155 = .ok (.ireturn, 1) := by decide +kernel
theorem dX3_declaration_0 : decode cX3_declaration 0 = .ok (.iload_n 1, 1) := by decide +kernel
theorem dX3_declaration_1 : decode cX3_declaration 1 = .ok (.aload_n 0, 1) := by decide +kernel
theorem dX3_declaration_2 : decode cX3_declaration 2 = .ok (.getfield 19, 3) := by decide +kernel
theorem dX3_declaration_5 : decode cX3_declaration 5 = .ok (.getfield 78, 3) := by decide +kernel
theorem dX3_declaration_8 : decode cX3_declaration 8 = .ok (.invokestatic 87, 3) := by decide +kernel
theorem dX3_declaration_11 : decode cX3_declaration 11 = .ok (.iload_n 2, 1) := by decide +kernel
theorem dX3_declaration_12 : decode cX3_declaration 12 = .ok (.bipush 6, 2) := by decide +kernel
theorem dX3_declaration_14 : decode cX3_declaration 14 = .ok (.invokestatic 74, 3) := by decide +kernel
theorem dX3_declaration_17 : decode cX3_declaration 17 = .ok (.iload_n 2, 1) := by decide +kernel
theorem dX3_declaration_18 : decode cX3_declaration 18 = .ok (.tableswitch 82 0 4 #[34, 44, 54, 64, 73], 34) := by decide +kernel
theorem dX3_declaration_52 : decode cX3_declaration 52 = .ok (.aload_n 0, 1) := by decide +kernel
theorem dX3_declaration_53 : decode cX3_declaration 53 = .ok (.getfield 19, 3) := by decide +kernel
theorem dX3_declaration_56 : decode cX3_declaration 56 = .ok (.getfield 206, 3) := by decide +kernel
theorem dX3_declaration_59 : decode cX3_declaration 59 = .ok (.iload_n 1, 1) := by decide +kernel
theorem dX3_declaration_60 : decode cX3_declaration 60 = .ok (.iaload, 1) := by decide +kernel
theorem dX3_declaration_61 : decode cX3_declaration 61 = .ok (.ireturn, 1) := by decide +kernel
theorem dX3_declaration_62 : decode cX3_declaration 62 = .ok (.aload_n 0, 1) := by decide +kernel
theorem dX3_declaration_63 : decode cX3_declaration 63 = .ok (.getfield 19, 3) := by decide +kernel
theorem dX3_declaration_66 : decode cX3_declaration 66 = .ok (.getfield 209, 3) := by decide +kernel
theorem dX3_declaration_69 : decode cX3_declaration 69 = .ok (.iload_n 1, 1) := by decide +kernel
theorem dX3_declaration_70 : decode cX3_declaration 70 = .ok (.iaload, 1) := by decide +kernel
theorem dX3_declaration_71 : decode cX3_declaration 71 = .ok (.ireturn, 1) := by decide +kernel
theorem dX3_declaration_72 : decode cX3_declaration 72 = .ok (.aload_n 0, 1) := by decide +kernel
theorem dX3_declaration_73 : decode cX3_declaration 73 = .ok (.getfield 19, 3) := by decide +kernel
theorem dX3_declaration_76 : decode cX3_declaration 76 = .ok (.getfield 212, 3) := by decide +kernel
theorem dX3_declaration_79 : decode cX3_declaration 79 = .ok (.iload_n 1, 1) := by decide +kernel
theorem dX3_declaration_80 : decode cX3_declaration 80 = .ok (.iaload, 1) := by decide +kernel
theorem dX3_declaration_81 : decode cX3_declaration 81 = .ok (.ireturn, 1) := by decide +kernel
theorem dX3_declaration_82 : decode cX3_declaration 82 = .ok (.aload_n 0, 1) := by decide +kernel
theorem dX3_declaration_83 : decode cX3_declaration 83 = .ok (.getfield 19, 3) := by decide +kernel
theorem dX3_declaration_86 : decode cX3_declaration 86 = .ok (.iload_n 1, 1) := by decide +kernel
theorem dX3_declaration_87 : decode cX3_declaration 87 = .ok (.invokevirtual 215, 3) := by decide +kernel
theorem dX3_declaration_90 : decode cX3_declaration 90 = .ok (.ireturn, 1) := by decide +kernel
theorem dX3_declaration_91 : decode cX3_declaration 91 = .ok (.aload_n 0, 1) := by decide +kernel
theorem dX3_declaration_92 : decode cX3_declaration 92 = .ok (.getfield 19, 3) := by decide +kernel
theorem dX3_declaration_95 : decode cX3_declaration 95 = .ok (.iload_n 1, 1) := by decide +kernel
theorem dX3_declaration_96 : decode cX3_declaration 96 = .ok (.invokevirtual 218, 3) := by decide +kernel
theorem dX3_declaration_99 : decode cX3_declaration 99 = .ok (.ireturn, 1) := by decide +kernel
theorem dX3_declaration_100 : decode cX3_declaration 100 = .ok (.aload_n 0, 1) := by decide +kernel
theorem dX3_declaration_101 : decode cX3_declaration 101 = .ok (.getfield 19, 3) := by decide +kernel
theorem dX3_declaration_104 : decode cX3_declaration 104 = .ok (.iload_n 1, 1) := by decide +kernel
theorem dX3_declaration_105 : decode cX3_declaration 105 = .ok (.invokevirtual 221, 3) := by decide +kernel
theorem dX3_declaration_108 : decode cX3_declaration 108 = .ok (.ireturn, 1) := by decide +kernel
theorem dX3_imported_0 : decode cX3_imported 0 = .ok (.iload_n 1, 1) := by decide +kernel
theorem dX3_imported_1 : decode cX3_imported 1 = .ok (.aload_n 0, 1) := by decide +kernel
theorem dX3_imported_2 : decode cX3_imported 2 = .ok (.getfield 19, 3) := by decide +kernel
theorem dX3_imported_5 : decode cX3_imported 5 = .ok (.getfield 81, 3) := by decide +kernel
theorem dX3_imported_8 : decode cX3_imported 8 = .ok (.invokestatic 87, 3) := by decide +kernel
theorem dX3_imported_11 : decode cX3_imported 11 = .ok (.iload_n 2, 1) := by decide +kernel
theorem dX3_imported_12 : decode cX3_imported 12 = .ok (.bipush 8, 2) := by decide +kernel
theorem dX3_imported_14 : decode cX3_imported 14 = .ok (.invokestatic 74, 3) := by decide +kernel
theorem dX3_imported_17 : decode cX3_imported 17 = .ok (.iload_n 2, 1) := by decide +kernel
theorem dX3_imported_18 : decode cX3_imported 18 = .ok (.tableswitch 111 0 6 #[42, 52, 62, 72, 82, 92, 102], 42) := by decide +kernel
theorem dX3_imported_60 : decode cX3_imported 60 = .ok (.aload_n 0, 1) := by decide +kernel
theorem dX3_imported_61 : decode cX3_imported 61 = .ok (.getfield 19, 3) := by decide +kernel
theorem dX3_imported_64 : decode cX3_imported 64 = .ok (.getfield 224, 3) := by decide +kernel
theorem dX3_imported_67 : decode cX3_imported 67 = .ok (.iload_n 1, 1) := by decide +kernel
theorem dX3_imported_68 : decode cX3_imported 68 = .ok (.iaload, 1) := by decide +kernel
theorem dX3_imported_69 : decode cX3_imported 69 = .ok (.ireturn, 1) := by decide +kernel
theorem dX3_imported_70 : decode cX3_imported 70 = .ok (.aload_n 0, 1) := by decide +kernel
theorem dX3_imported_71 : decode cX3_imported 71 = .ok (.getfield 19, 3) := by decide +kernel
theorem dX3_imported_74 : decode cX3_imported 74 = .ok (.getfield 227, 3) := by decide +kernel
theorem dX3_imported_77 : decode cX3_imported 77 = .ok (.iload_n 1, 1) := by decide +kernel
theorem dX3_imported_78 : decode cX3_imported 78 = .ok (.iaload, 1) := by decide +kernel
theorem dX3_imported_79 : decode cX3_imported 79 = .ok (.ireturn, 1) := by decide +kernel
theorem dX3_imported_80 : decode cX3_imported 80 = .ok (.aload_n 0, 1) := by decide +kernel
theorem dX3_imported_81 : decode cX3_imported 81 = .ok (.getfield 19, 3) := by decide +kernel
theorem dX3_imported_84 : decode cX3_imported 84 = .ok (.getfield 230, 3) := by decide +kernel
theorem dX3_imported_87 : decode cX3_imported 87 = .ok (.iload_n 1, 1) := by decide +kernel
theorem dX3_imported_88 : decode cX3_imported 88 = .ok (.iaload, 1) := by decide +kernel
theorem dX3_imported_89 : decode cX3_imported 89 = .ok (.ireturn, 1) := by decide +kernel
theorem dX3_imported_90 : decode cX3_imported 90 = .ok (.aload_n 0, 1) := by decide +kernel
theorem dX3_imported_91 : decode cX3_imported 91 = .ok (.getfield 19, 3) := by decide +kernel
theorem dX3_imported_94 : decode cX3_imported 94 = .ok (.getfield 233, 3) := by decide +kernel
theorem dX3_imported_97 : decode cX3_imported 97 = .ok (.iload_n 1, 1) := by decide +kernel
theorem dX3_imported_98 : decode cX3_imported 98 = .ok (.iaload, 1) := by decide +kernel
theorem dX3_imported_99 : decode cX3_imported 99 = .ok (.ireturn, 1) := by decide +kernel
theorem dX3_imported_100 : decode cX3_imported 100 = .ok (.aload_n 0, 1) := by decide +kernel
theorem dX3_imported_101 : decode cX3_imported 101 = .ok (.getfield 19, 3) := by decide +kernel
theorem dX3_imported_104 : decode cX3_imported 104 = .ok (.getfield 236, 3) := by decide +kernel
theorem dX3_imported_107 : decode cX3_imported 107 = .ok (.iload_n 1, 1) := by decide +kernel
theorem dX3_imported_108 : decode cX3_imported 108 = .ok (.iaload, 1) := by decide +kernel
theorem dX3_imported_109 : decode cX3_imported 109 = .ok (.ireturn, 1) := by decide +kernel
theorem dX3_imported_110 : decode cX3_imported 110 = .ok (.aload_n 0, 1) := by decide +kernel
theorem dX3_imported_111 : decode cX3_imported 111 = .ok (.getfield 19, 3) := by decide +kernel
theorem dX3_imported_114 : decode cX3_imported 114 = .ok (.getfield 239, 3) := by decide +kernel
theorem dX3_imported_117 : decode cX3_imported 117 = .ok (.iload_n 1, 1) := by decide +kernel
theorem dX3_imported_118 : decode cX3_imported 118 = .ok (.iaload, 1) := by decide +kernel
theorem dX3_imported_119 : decode cX3_imported 119 = .ok (.ireturn, 1) := by decide +kernel
theorem dX3_imported_120 : decode cX3_imported 120 = .ok (.aload_n 0, 1) := by decide +kernel
theorem dX3_imported_121 : decode cX3_imported 121 = .ok (.getfield 19, 3) := by decide +kernel
theorem dX3_imported_124 : decode cX3_imported 124 = .ok (.iload_n 1, 1) := by decide +kernel
theorem dX3_imported_125 : decode cX3_imported 125 = .ok (.invokevirtual 242, 3) := by decide +kernel
theorem dX3_imported_128 : decode cX3_imported 128 = .ok (.ireturn, 1) := by decide +kernel
theorem dX3_imported_129 : decode cX3_imported 129 = .ok (.aload_n 0, 1) := by decide +kernel
theorem dX3_imported_130 : decode cX3_imported 130 = .ok (.iload_n 1, 1) := by decide +kernel
theorem dX3_imported_131 : decode cX3_imported 131 = .ok (.invokevirtual 245, 3) := by decide +kernel
theorem dX3_imported_134 : decode cX3_imported 134 = .ok (.ireturn, 1) := by decide +kernel
theorem dX3_used_0 : decode cX3_used 0 = .ok (.iload_n 1, 1) := by decide +kernel
theorem dX3_used_1 : decode cX3_used 1 = .ok (.aload_n 0, 1) := by decide +kernel
theorem dX3_used_2 : decode cX3_used 2 = .ok (.getfield 19, 3) := by decide +kernel
theorem dX3_used_5 : decode cX3_used 5 = .ok (.getfield 84, 3) := by decide +kernel
theorem dX3_used_8 : decode cX3_used 8 = .ok (.invokestatic 87, 3) := by decide +kernel
theorem dX3_used_11 : decode cX3_used 11 = .ok (.iload_n 2, 1) := by decide +kernel
theorem dX3_used_12 : decode cX3_used 12 = .ok (.iconst 4, 1) := by decide +kernel
theorem dX3_used_13 : decode cX3_used 13 = .ok (.invokestatic 74, 3) := by decide +kernel
theorem dX3_used_16 : decode cX3_used 16 = .ok (.iload_n 2, 1) := by decide +kernel
theorem dX3_used_17 : decode cX3_used 17 = .ok (.tableswitch 59 0 2 #[27, 37, 47], 27) := by decide +kernel
theorem dX3_used_44 : decode cX3_used 44 = .ok (.aload_n 0, 1) := by decide +kernel
theorem dX3_used_45 : decode cX3_used 45 = .ok (.getfield 19, 3) := by decide +kernel
theorem dX3_used_48 : decode cX3_used 48 = .ok (.getfield 248, 3) := by decide +kernel
theorem dX3_used_51 : decode cX3_used 51 = .ok (.iload_n 1, 1) := by decide +kernel
theorem dX3_used_52 : decode cX3_used 52 = .ok (.iaload, 1) := by decide +kernel
theorem dX3_used_53 : decode cX3_used 53 = .ok (.ireturn, 1) := by decide +kernel
theorem dX3_used_54 : decode cX3_used 54 = .ok (.aload_n 0, 1) := by decide +kernel
theorem dX3_used_55 : decode cX3_used 55 = .ok (.getfield 19, 3) := by decide +kernel
theorem dX3_used_58 : decode cX3_used 58 = .ok (.getfield 251, 3) := by decide +kernel
theorem dX3_used_61 : decode cX3_used 61 = .ok (.iload_n 1, 1) := by decide +kernel
theorem dX3_used_62 : decode cX3_used 62 = .ok (.iaload, 1) := by decide +kernel
theorem dX3_used_63 : decode cX3_used 63 = .ok (.ireturn, 1) := by decide +kernel
theorem dX3_used_64 : decode cX3_used 64 = .ok (.aload_n 0, 1) := by decide +kernel
theorem dX3_used_65 : decode cX3_used 65 = .ok (.getfield 19, 3) := by decide +kernel
theorem dX3_used_68 : decode cX3_used 68 = .ok (.iload_n 1, 1) := by decide +kernel
theorem dX3_used_69 : decode cX3_used 69 = .ok (.invokevirtual 254, 3) := by decide +kernel
theorem dX3_used_72 : decode cX3_used 72 = .ok (.invokestatic 146, 3) := by decide +kernel
theorem dX3_used_75 : decode cX3_used 75 = .ok (.ireturn, 1) := by decide +kernel
theorem dX3_used_76 : decode cX3_used 76 = .ok (.aload_n 0, 1) := by decide +kernel
theorem dX3_used_77 : decode cX3_used 77 = .ok (.getfield 19, 3) := by decide +kernel
theorem dX3_used_80 : decode cX3_used 80 = .ok (.iload_n 1, 1) := by decide +kernel
theorem dX3_used_81 : decode cX3_used 81 = .ok (.invokevirtual 257, 3) := by decide +kernel
theorem dX3_used_84 : decode cX3_used 84 = .ok (.ireturn, 1) := by decide +kernel
theorem dX3_parent_0 : decode cX3_parent 0 = .ok (.iload_n 1, 1) := by decide +kernel
theorem dX3_parent_1 : decode cX3_parent 1 = .ok (.aload_n 0, 1) := by decide +kernel
theorem dX3_parent_2 : decode cX3_parent 2 = .ok (.getfield 19, 3) := by decide +kernel
theorem dX3_parent_5 : decode cX3_parent 5 = .ok (.getfield 26, 3) := by decide +kernel
theorem dX3_parent_8 : decode cX3_parent 8 = .ok (.invokestatic 87, 3) := by decide +kernel
theorem dX3_parent_11 : decode cX3_parent 11 = .ok (.aload_n 0, 1) := by decide +kernel
theorem dX3_parent_12 : decode cX3_parent 12 = .ok (.getfield 19, 3) := by decide +kernel
theorem dX3_parent_15 : decode cX3_parent 15 = .ok (.getfield 260, 3) := by decide +kernel
theorem dX3_parent_18 : decode cX3_parent 18 = .ok (.iload_n 1, 1) := by decide +kernel
theorem dX3_parent_19 : decode cX3_parent 19 = .ok (.iaload, 1) := by decide +kernel
theorem dX3_parent_20 : decode cX3_parent 20 = .ok (.ireturn, 1) := by decide +kernel
theorem dX3_resolvedShare_0 : decode cX3_resolvedShare 0 = .ok (.aload_n 0, 1) := by decide +kernel
theorem dX3_resolvedShare_1 : decode cX3_resolvedShare 1 = .ok (.getfield 19, 3) := by decide +kernel
theorem dX3_resolvedShare_4 : decode cX3_resolvedShare 4 = .ok (.getfield 84, 3) := by decide +kernel
theorem dX3_resolvedShare_7 : decode cX3_resolvedShare 7 = .ok (.ifCond .ne 7, 3) := by decide +kernel
theorem dX3_resolvedShare_10 : decode cX3_resolvedShare 10 = .ok (.dconst 1, 1) := by decide +kernel
theorem dX3_resolvedShare_11 : decode cX3_resolvedShare 11 = .ok (.goto 21, 3) := by decide +kernel
theorem dX3_resolvedShare_14 : decode cX3_resolvedShare 14 = .ok (.aload_n 0, 1) := by decide +kernel
theorem dX3_resolvedShare_15 : decode cX3_resolvedShare 15 = .ok (.getfield 19, 3) := by decide +kernel
theorem dX3_resolvedShare_18 : decode cX3_resolvedShare 18 = .ok (.iconst 0, 1) := by decide +kernel
theorem dX3_resolvedShare_19 : decode cX3_resolvedShare 19 = .ok (.invokevirtual 188, 3) := by decide +kernel
theorem dX3_resolvedShare_22 : decode cX3_resolvedShare 22 = .ok (.i2d, 1) := by decide +kernel
theorem dX3_resolvedShare_23 : decode cX3_resolvedShare 23 = .ok (.aload_n 0, 1) := by decide +kernel
theorem dX3_resolvedShare_24 : decode cX3_resolvedShare 24 = .ok (.getfield 19, 3) := by decide +kernel
theorem dX3_resolvedShare_27 : decode cX3_resolvedShare 27 = .ok (.getfield 84, 3) := by decide +kernel
theorem dX3_resolvedShare_30 : decode cX3_resolvedShare 30 = .ok (.i2d, 1) := by decide +kernel
theorem dX3_resolvedShare_31 : decode cX3_resolvedShare 31 = .ok (.ddiv, 1) := by decide +kernel
theorem dX3_resolvedShare_32 : decode cX3_resolvedShare 32 = .ok (.dreturn, 1) := by decide +kernel
theorem dX3_digest_0 : decode cX3_digest 0 = .ok (.ldc2_w 263, 3) := by decide +kernel
theorem dX3_digest_3 : decode cX3_digest 3 = .ok (.lstore_n 1, 1) := by decide +kernel
theorem dX3_digest_4 : decode cX3_digest 4 = .ok (.iconst 0, 1) := by decide +kernel
theorem dX3_digest_5 : decode cX3_digest 5 = .ok (.istore_n 3, 1) := by decide +kernel
theorem dX3_digest_6 : decode cX3_digest 6 = .ok (.iload_n 3, 1) := by decide +kernel
theorem dX3_digest_7 : decode cX3_digest 7 = .ok (.bipush 10, 2) := by decide +kernel
theorem dX3_digest_9 : decode cX3_digest 9 = .ok (.if_icmp .gt 22, 3) := by decide +kernel
theorem dX3_digest_12 : decode cX3_digest 12 = .ok (.ldc2_w 265, 3) := by decide +kernel
theorem dX3_digest_15 : decode cX3_digest 15 = .ok (.lload_n 1, 1) := by decide +kernel
theorem dX3_digest_16 : decode cX3_digest 16 = .ok (.lmul, 1) := by decide +kernel
theorem dX3_digest_17 : decode cX3_digest 17 = .ok (.aload_n 0, 1) := by decide +kernel
theorem dX3_digest_18 : decode cX3_digest 18 = .ok (.iload_n 3, 1) := by decide +kernel
theorem dX3_digest_19 : decode cX3_digest 19 = .ok (.invokevirtual 267, 3) := by decide +kernel
theorem dX3_digest_22 : decode cX3_digest 22 = .ok (.i2l, 1) := by decide +kernel
theorem dX3_digest_23 : decode cX3_digest 23 = .ok (.ladd, 1) := by decide +kernel
theorem dX3_digest_24 : decode cX3_digest 24 = .ok (.lstore_n 1, 1) := by decide +kernel
theorem dX3_digest_25 : decode cX3_digest 25 = .ok (.iinc 3 1, 3) := by decide +kernel
theorem dX3_digest_28 : decode cX3_digest 28 = .ok (.goto (-22), 3) := by decide +kernel
theorem dX3_digest_31 : decode cX3_digest 31 = .ok (.iconst 0, 1) := by decide +kernel
theorem dX3_digest_32 : decode cX3_digest 32 = .ok (.istore_n 3, 1) := by decide +kernel
theorem dX3_digest_33 : decode cX3_digest 33 = .ok (.iload_n 3, 1) := by decide +kernel
theorem dX3_digest_34 : decode cX3_digest 34 = .ok (.aload_n 0, 1) := by decide +kernel
theorem dX3_digest_35 : decode cX3_digest 35 = .ok (.getfield 19, 3) := by decide +kernel
theorem dX3_digest_38 : decode cX3_digest 38 = .ok (.getfield 26, 3) := by decide +kernel
theorem dX3_digest_41 : decode cX3_digest 41 = .ok (.if_icmp .ge 50, 3) := by decide +kernel
theorem dX3_digest_44 : decode cX3_digest 44 = .ok (.ldc2_w 265, 3) := by decide +kernel
theorem dX3_digest_47 : decode cX3_digest 47 = .ok (.lload_n 1, 1) := by decide +kernel
theorem dX3_digest_48 : decode cX3_digest 48 = .ok (.lmul, 1) := by decide +kernel
theorem dX3_digest_49 : decode cX3_digest 49 = .ok (.aload_n 0, 1) := by decide +kernel
theorem dX3_digest_50 : decode cX3_digest 50 = .ok (.iload_n 3, 1) := by decide +kernel
theorem dX3_digest_51 : decode cX3_digest 51 = .ok (.invokevirtual 270, 3) := by decide +kernel
theorem dX3_digest_54 : decode cX3_digest 54 = .ok (.i2l, 1) := by decide +kernel
theorem dX3_digest_55 : decode cX3_digest 55 = .ok (.ladd, 1) := by decide +kernel
theorem dX3_digest_56 : decode cX3_digest 56 = .ok (.lstore_n 1, 1) := by decide +kernel
theorem dX3_digest_57 : decode cX3_digest 57 = .ok (.ldc2_w 265, 3) := by decide +kernel
theorem dX3_digest_60 : decode cX3_digest 60 = .ok (.lload_n 1, 1) := by decide +kernel
theorem dX3_digest_61 : decode cX3_digest 61 = .ok (.lmul, 1) := by decide +kernel
theorem dX3_digest_62 : decode cX3_digest 62 = .ok (.aload_n 0, 1) := by decide +kernel
theorem dX3_digest_63 : decode cX3_digest 63 = .ok (.iload_n 3, 1) := by decide +kernel
theorem dX3_digest_64 : decode cX3_digest 64 = .ok (.iconst 0, 1) := by decide +kernel
theorem dX3_digest_65 : decode cX3_digest 65 = .ok (.invokevirtual 273, 3) := by decide +kernel
theorem dX3_digest_68 : decode cX3_digest 68 = .ok (.i2l, 1) := by decide +kernel
theorem dX3_digest_69 : decode cX3_digest 69 = .ok (.ladd, 1) := by decide +kernel
theorem dX3_digest_70 : decode cX3_digest 70 = .ok (.lstore_n 1, 1) := by decide +kernel
theorem dX3_digest_71 : decode cX3_digest 71 = .ok (.ldc2_w 265, 3) := by decide +kernel
theorem dX3_digest_74 : decode cX3_digest 74 = .ok (.lload_n 1, 1) := by decide +kernel
theorem dX3_digest_75 : decode cX3_digest 75 = .ok (.lmul, 1) := by decide +kernel
theorem dX3_digest_76 : decode cX3_digest 76 = .ok (.aload_n 0, 1) := by decide +kernel
theorem dX3_digest_77 : decode cX3_digest 77 = .ok (.iload_n 3, 1) := by decide +kernel
theorem dX3_digest_78 : decode cX3_digest 78 = .ok (.iconst 1, 1) := by decide +kernel
theorem dX3_digest_79 : decode cX3_digest 79 = .ok (.invokevirtual 273, 3) := by decide +kernel
theorem dX3_digest_82 : decode cX3_digest 82 = .ok (.i2l, 1) := by decide +kernel
theorem dX3_digest_83 : decode cX3_digest 83 = .ok (.ladd, 1) := by decide +kernel
theorem dX3_digest_84 : decode cX3_digest 84 = .ok (.lstore_n 1, 1) := by decide +kernel
theorem dX3_digest_85 : decode cX3_digest 85 = .ok (.iinc 3 1, 3) := by decide +kernel
theorem dX3_digest_88 : decode cX3_digest 88 = .ok (.goto (-55), 3) := by decide +kernel
theorem dX3_digest_91 : decode cX3_digest 91 = .ok (.iconst 0, 1) := by decide +kernel
theorem dX3_digest_92 : decode cX3_digest 92 = .ok (.istore_n 3, 1) := by decide +kernel
theorem dX3_digest_93 : decode cX3_digest 93 = .ok (.iload_n 3, 1) := by decide +kernel
theorem dX3_digest_94 : decode cX3_digest 94 = .ok (.aload_n 0, 1) := by decide +kernel
theorem dX3_digest_95 : decode cX3_digest 95 = .ok (.getfield 19, 3) := by decide +kernel
theorem dX3_digest_98 : decode cX3_digest 98 = .ok (.getfield 78, 3) := by decide +kernel
theorem dX3_digest_101 : decode cX3_digest 101 = .ok (.if_icmp .ge 39, 3) := by decide +kernel
theorem dX3_digest_104 : decode cX3_digest 104 = .ok (.iconst 0, 1) := by decide +kernel
theorem dX3_digest_105 : decode cX3_digest 105 = .ok (.istore 4, 2) := by decide +kernel
theorem dX3_digest_107 : decode cX3_digest 107 = .ok (.iload 4, 2) := by decide +kernel
theorem dX3_digest_109 : decode cX3_digest 109 = .ok (.iconst 5, 1) := by decide +kernel
theorem dX3_digest_110 : decode cX3_digest 110 = .ok (.if_icmp .gt 24, 3) := by decide +kernel
theorem dX3_digest_113 : decode cX3_digest 113 = .ok (.ldc2_w 265, 3) := by decide +kernel
theorem dX3_digest_116 : decode cX3_digest 116 = .ok (.lload_n 1, 1) := by decide +kernel
theorem dX3_digest_117 : decode cX3_digest 117 = .ok (.lmul, 1) := by decide +kernel
theorem dX3_digest_118 : decode cX3_digest 118 = .ok (.aload_n 0, 1) := by decide +kernel
theorem dX3_digest_119 : decode cX3_digest 119 = .ok (.iload_n 3, 1) := by decide +kernel
theorem dX3_digest_120 : decode cX3_digest 120 = .ok (.iload 4, 2) := by decide +kernel
theorem dX3_digest_122 : decode cX3_digest 122 = .ok (.invokevirtual 276, 3) := by decide +kernel
theorem dX3_digest_125 : decode cX3_digest 125 = .ok (.i2l, 1) := by decide +kernel
theorem dX3_digest_126 : decode cX3_digest 126 = .ok (.ladd, 1) := by decide +kernel
theorem dX3_digest_127 : decode cX3_digest 127 = .ok (.lstore_n 1, 1) := by decide +kernel
theorem dX3_digest_128 : decode cX3_digest 128 = .ok (.iinc 4 1, 3) := by decide +kernel
theorem dX3_digest_131 : decode cX3_digest 131 = .ok (.goto (-24), 3) := by decide +kernel
theorem dX3_digest_134 : decode cX3_digest 134 = .ok (.iinc 3 1, 3) := by decide +kernel
theorem dX3_digest_137 : decode cX3_digest 137 = .ok (.goto (-44), 3) := by decide +kernel
theorem dX3_digest_140 : decode cX3_digest 140 = .ok (.iconst 0, 1) := by decide +kernel
theorem dX3_digest_141 : decode cX3_digest 141 = .ok (.istore_n 3, 1) := by decide +kernel
theorem dX3_digest_142 : decode cX3_digest 142 = .ok (.iload_n 3, 1) := by decide +kernel
theorem dX3_digest_143 : decode cX3_digest 143 = .ok (.aload_n 0, 1) := by decide +kernel
theorem dX3_digest_144 : decode cX3_digest 144 = .ok (.getfield 19, 3) := by decide +kernel
theorem dX3_digest_147 : decode cX3_digest 147 = .ok (.getfield 81, 3) := by decide +kernel
theorem dX3_digest_150 : decode cX3_digest 150 = .ok (.if_icmp .ge 40, 3) := by decide +kernel
theorem dX3_digest_153 : decode cX3_digest 153 = .ok (.iconst 0, 1) := by decide +kernel
theorem dX3_digest_154 : decode cX3_digest 154 = .ok (.istore 4, 2) := by decide +kernel
theorem dX3_digest_156 : decode cX3_digest 156 = .ok (.iload 4, 2) := by decide +kernel
theorem dX3_digest_158 : decode cX3_digest 158 = .ok (.bipush 7, 2) := by decide +kernel
theorem dX3_digest_160 : decode cX3_digest 160 = .ok (.if_icmp .gt 24, 3) := by decide +kernel
theorem dX3_digest_163 : decode cX3_digest 163 = .ok (.ldc2_w 265, 3) := by decide +kernel
theorem dX3_digest_166 : decode cX3_digest 166 = .ok (.lload_n 1, 1) := by decide +kernel
theorem dX3_digest_167 : decode cX3_digest 167 = .ok (.lmul, 1) := by decide +kernel
theorem dX3_digest_168 : decode cX3_digest 168 = .ok (.aload_n 0, 1) := by decide +kernel
theorem dX3_digest_169 : decode cX3_digest 169 = .ok (.iload_n 3, 1) := by decide +kernel
theorem dX3_digest_170 : decode cX3_digest 170 = .ok (.iload 4, 2) := by decide +kernel
theorem dX3_digest_172 : decode cX3_digest 172 = .ok (.invokevirtual 279, 3) := by decide +kernel
theorem dX3_digest_175 : decode cX3_digest 175 = .ok (.i2l, 1) := by decide +kernel
theorem dX3_digest_176 : decode cX3_digest 176 = .ok (.ladd, 1) := by decide +kernel
theorem dX3_digest_177 : decode cX3_digest 177 = .ok (.lstore_n 1, 1) := by decide +kernel
theorem dX3_digest_178 : decode cX3_digest 178 = .ok (.iinc 4 1, 3) := by decide +kernel
theorem dX3_digest_181 : decode cX3_digest 181 = .ok (.goto (-25), 3) := by decide +kernel
theorem dX3_digest_184 : decode cX3_digest 184 = .ok (.iinc 3 1, 3) := by decide +kernel
theorem dX3_digest_187 : decode cX3_digest 187 = .ok (.goto (-45), 3) := by decide +kernel
theorem dX3_digest_190 : decode cX3_digest 190 = .ok (.iconst 0, 1) := by decide +kernel
theorem dX3_digest_191 : decode cX3_digest 191 = .ok (.istore_n 3, 1) := by decide +kernel
theorem dX3_digest_192 : decode cX3_digest 192 = .ok (.iload_n 3, 1) := by decide +kernel
theorem dX3_digest_193 : decode cX3_digest 193 = .ok (.aload_n 0, 1) := by decide +kernel
theorem dX3_digest_194 : decode cX3_digest 194 = .ok (.getfield 19, 3) := by decide +kernel
theorem dX3_digest_197 : decode cX3_digest 197 = .ok (.getfield 84, 3) := by decide +kernel
theorem dX3_digest_200 : decode cX3_digest 200 = .ok (.if_icmp .ge 39, 3) := by decide +kernel
theorem dX3_digest_203 : decode cX3_digest 203 = .ok (.iconst 0, 1) := by decide +kernel
theorem dX3_digest_204 : decode cX3_digest 204 = .ok (.istore 4, 2) := by decide +kernel
theorem dX3_digest_206 : decode cX3_digest 206 = .ok (.iload 4, 2) := by decide +kernel
theorem dX3_digest_208 : decode cX3_digest 208 = .ok (.iconst 3, 1) := by decide +kernel
theorem dX3_digest_209 : decode cX3_digest 209 = .ok (.if_icmp .gt 24, 3) := by decide +kernel
theorem dX3_digest_212 : decode cX3_digest 212 = .ok (.ldc2_w 265, 3) := by decide +kernel
theorem dX3_digest_215 : decode cX3_digest 215 = .ok (.lload_n 1, 1) := by decide +kernel
theorem dX3_digest_216 : decode cX3_digest 216 = .ok (.lmul, 1) := by decide +kernel
theorem dX3_digest_217 : decode cX3_digest 217 = .ok (.aload_n 0, 1) := by decide +kernel
theorem dX3_digest_218 : decode cX3_digest 218 = .ok (.iload_n 3, 1) := by decide +kernel
theorem dX3_digest_219 : decode cX3_digest 219 = .ok (.iload 4, 2) := by decide +kernel
theorem dX3_digest_221 : decode cX3_digest 221 = .ok (.invokevirtual 282, 3) := by decide +kernel
theorem dX3_digest_224 : decode cX3_digest 224 = .ok (.i2l, 1) := by decide +kernel
theorem dX3_digest_225 : decode cX3_digest 225 = .ok (.ladd, 1) := by decide +kernel
theorem dX3_digest_226 : decode cX3_digest 226 = .ok (.lstore_n 1, 1) := by decide +kernel
theorem dX3_digest_227 : decode cX3_digest 227 = .ok (.iinc 4 1, 3) := by decide +kernel
theorem dX3_digest_230 : decode cX3_digest 230 = .ok (.goto (-24), 3) := by decide +kernel
theorem dX3_digest_233 : decode cX3_digest 233 = .ok (.iinc 3 1, 3) := by decide +kernel
theorem dX3_digest_236 : decode cX3_digest 236 = .ok (.goto (-44), 3) := by decide +kernel
theorem dX3_digest_239 : decode cX3_digest 239 = .ok (.ldc2_w 265, 3) := by decide +kernel
theorem dX3_digest_242 : decode cX3_digest 242 = .ok (.lload_n 1, 1) := by decide +kernel
theorem dX3_digest_243 : decode cX3_digest 243 = .ok (.lmul, 1) := by decide +kernel
theorem dX3_digest_244 : decode cX3_digest 244 = .ok (.aload_n 0, 1) := by decide +kernel
theorem dX3_digest_245 : decode cX3_digest 245 = .ok (.getfield 12, 3) := by decide +kernel
theorem dX3_digest_248 : decode cX3_digest 248 = .ok (.getfield 106, 3) := by decide +kernel
theorem dX3_digest_251 : decode cX3_digest 251 = .ok (.i2l, 1) := by decide +kernel
theorem dX3_digest_252 : decode cX3_digest 252 = .ok (.ladd, 1) := by decide +kernel
theorem dX3_digest_253 : decode cX3_digest 253 = .ok (.lstore_n 1, 1) := by decide +kernel
theorem dX3_digest_254 : decode cX3_digest 254 = .ok (.iconst 0, 1) := by decide +kernel
theorem dX3_digest_255 : decode cX3_digest 255 = .ok (.istore_n 3, 1) := by decide +kernel
theorem dX3_digest_256 : decode cX3_digest 256 = .ok (.iload_n 3, 1) := by decide +kernel
theorem dX3_digest_257 : decode cX3_digest 257 = .ok (.aload_n 0, 1) := by decide +kernel
theorem dX3_digest_258 : decode cX3_digest 258 = .ok (.getfield 12, 3) := by decide +kernel
theorem dX3_digest_261 : decode cX3_digest 261 = .ok (.getfield 106, 3) := by decide +kernel
theorem dX3_digest_264 : decode cX3_digest 264 = .ok (.if_icmp .ge 25, 3) := by decide +kernel
theorem dX3_digest_267 : decode cX3_digest 267 = .ok (.ldc2_w 265, 3) := by decide +kernel
theorem dX3_digest_270 : decode cX3_digest 270 = .ok (.lload_n 1, 1) := by decide +kernel
theorem dX3_digest_271 : decode cX3_digest 271 = .ok (.lmul, 1) := by decide +kernel
theorem dX3_digest_272 : decode cX3_digest 272 = .ok (.aload_n 0, 1) := by decide +kernel
theorem dX3_digest_273 : decode cX3_digest 273 = .ok (.getfield 12, 3) := by decide +kernel
theorem dX3_digest_276 : decode cX3_digest 276 = .ok (.iload_n 3, 1) := by decide +kernel
theorem dX3_digest_277 : decode cX3_digest 277 = .ok (.invokevirtual 285, 3) := by decide +kernel
theorem dX3_digest_280 : decode cX3_digest 280 = .ok (.i2l, 1) := by decide +kernel
theorem dX3_digest_281 : decode cX3_digest 281 = .ok (.ladd, 1) := by decide +kernel
theorem dX3_digest_282 : decode cX3_digest 282 = .ok (.lstore_n 1, 1) := by decide +kernel
theorem dX3_digest_283 : decode cX3_digest 283 = .ok (.iinc 3 1, 3) := by decide +kernel
theorem dX3_digest_286 : decode cX3_digest 286 = .ok (.goto (-30), 3) := by decide +kernel
theorem dX3_digest_289 : decode cX3_digest 289 = .ok (.lload_n 1, 1) := by decide +kernel
theorem dX3_digest_290 : decode cX3_digest 290 = .ok (.lreturn, 1) := by decide +kernel
theorem dX3_isName_0 : decode cX3_isName 0 = .ok (.iload_n 0, 1) := by decide +kernel
theorem dX3_isName_1 : decode cX3_isName 1 = .ok (.ifCond .lt 13, 3) := by decide +kernel
theorem dX3_isName_4 : decode cX3_isName 4 = .ok (.iload_n 0, 1) := by decide +kernel
theorem dX3_isName_5 : decode cX3_isName 5 = .ok (.bipush 26, 2) := by decide +kernel
theorem dX3_isName_7 : decode cX3_isName 7 = .ok (.if_icmp .ge 7, 3) := by decide +kernel
theorem dX3_isName_10 : decode cX3_isName 10 = .ok (.iconst 1, 1) := by decide +kernel
theorem dX3_isName_11 : decode cX3_isName 11 = .ok (.goto 4, 3) := by decide +kernel
theorem dX3_isName_14 : decode cX3_isName 14 = .ok (.iconst 0, 1) := by decide +kernel
theorem dX3_isName_15 : decode cX3_isName 15 = .ok (.ireturn, 1) := by decide +kernel
theorem dX3_needIndex_0 : decode cX3_needIndex 0 = .ok (.iload_n 0, 1) := by decide +kernel
theorem dX3_needIndex_1 : decode cX3_needIndex 1 = .ok (.ifCond .lt 8, 3) := by decide +kernel
theorem dX3_needIndex_4 : decode cX3_needIndex 4 = .ok (.iload_n 0, 1) := by decide +kernel
theorem dX3_needIndex_5 : decode cX3_needIndex 5 = .ok (.iload_n 1, 1) := by decide +kernel
theorem dX3_needIndex_6 : decode cX3_needIndex 6 = .ok (.if_icmp .lt 14, 3) := by decide +kernel
theorem dX3_needIndex_9 : decode cX3_needIndex 9 = .ok (.new 288, 3) := by decide +kernel
theorem dX3_needIndex_12 : decode cX3_needIndex 12 = .ok (.dup, 1) := by decide +kernel
theorem dX3_needIndex_13 : decode cX3_needIndex 13 = .ok (.ldc_w 290, 3) := by decide +kernel
theorem dX3_needIndex_16 : decode cX3_needIndex 16 = .ok (.invokespecial 292, 3) := by decide +kernel
theorem dX3_needIndex_19 : decode cX3_needIndex 19 = .ok (.athrow, 1) := by decide +kernel
theorem dX3_needIndex_20 : decode cX3_needIndex 20 = .ok (.return_, 1) := by decide +kernel
theorem dX3_needBelow_0 : decode cX3_needBelow 0 = .ok (.iload_n 0, 1) := by decide +kernel
theorem dX3_needBelow_1 : decode cX3_needBelow 1 = .ok (.ifCond .lt 8, 3) := by decide +kernel
theorem dX3_needBelow_4 : decode cX3_needBelow 4 = .ok (.iload_n 0, 1) := by decide +kernel
theorem dX3_needBelow_5 : decode cX3_needBelow 5 = .ok (.iload_n 1, 1) := by decide +kernel
theorem dX3_needBelow_6 : decode cX3_needBelow 6 = .ok (.if_icmp .lt 14, 3) := by decide +kernel
theorem dX3_needBelow_9 : decode cX3_needBelow 9 = .ok (.new 99, 3) := by decide +kernel
theorem dX3_needBelow_12 : decode cX3_needBelow 12 = .ok (.dup, 1) := by decide +kernel
theorem dX3_needBelow_13 : decode cX3_needBelow 13 = .ok (.ldc_w 293, 3) := by decide +kernel
theorem dX3_needBelow_16 : decode cX3_needBelow 16 = .ok (.invokespecial 103, 3) := by decide +kernel
theorem dX3_needBelow_19 : decode cX3_needBelow 19 = .ok (.athrow, 1) := by decide +kernel
theorem dX3_needBelow_20 : decode cX3_needBelow 20 = .ok (.return_, 1) := by decide +kernel
theorem dX3_throwIfRefused_0 : decode cX3_throwIfRefused 0 = .ok (.iload_n 0, 1) := by decide +kernel
theorem dX3_throwIfRefused_1 : decode cX3_throwIfRefused 1 = .ok (.iconst 1, 1) := by decide +kernel
theorem dX3_throwIfRefused_2 : decode cX3_throwIfRefused 2 = .ok (.if_icmp .ne 14, 3) := by decide +kernel
theorem dX3_throwIfRefused_5 : decode cX3_throwIfRefused 5 = .ok (.new 288, 3) := by decide +kernel
theorem dX3_throwIfRefused_8 : decode cX3_throwIfRefused 8 = .ok (.dup, 1) := by decide +kernel
theorem dX3_throwIfRefused_9 : decode cX3_throwIfRefused 9 = .ok (.ldc_w 295, 3) := by decide +kernel
theorem dX3_throwIfRefused_12 : decode cX3_throwIfRefused 12 = .ok (.invokespecial 292, 3) := by decide +kernel
theorem dX3_throwIfRefused_15 : decode cX3_throwIfRefused 15 = .ok (.athrow, 1) := by decide +kernel
theorem dX3_throwIfRefused_16 : decode cX3_throwIfRefused 16 = .ok (.iload_n 0, 1) := by decide +kernel
theorem dX3_throwIfRefused_17 : decode cX3_throwIfRefused 17 = .ok (.iconst 2, 1) := by decide +kernel
theorem dX3_throwIfRefused_18 : decode cX3_throwIfRefused 18 = .ok (.if_icmp .ne 14, 3) := by decide +kernel
theorem dX3_throwIfRefused_21 : decode cX3_throwIfRefused 21 = .ok (.new 99, 3) := by decide +kernel
theorem dX3_throwIfRefused_24 : decode cX3_throwIfRefused 24 = .ok (.dup, 1) := by decide +kernel
theorem dX3_throwIfRefused_25 : decode cX3_throwIfRefused 25 = .ok (.ldc_w 297, 3) := by decide +kernel
theorem dX3_throwIfRefused_28 : decode cX3_throwIfRefused 28 = .ok (.invokespecial 103, 3) := by decide +kernel
theorem dX3_throwIfRefused_31 : decode cX3_throwIfRefused 31 = .ok (.athrow, 1) := by decide +kernel
theorem dX3_throwIfRefused_32 : decode cX3_throwIfRefused 32 = .ok (.iload_n 0, 1) := by decide +kernel
theorem dX3_throwIfRefused_33 : decode cX3_throwIfRefused 33 = .ok (.iconst 3, 1) := by decide +kernel
theorem dX3_throwIfRefused_34 : decode cX3_throwIfRefused 34 = .ok (.if_icmp .ne 14, 3) := by decide +kernel
theorem dX3_throwIfRefused_37 : decode cX3_throwIfRefused 37 = .ok (.new 109, 3) := by decide +kernel
theorem dX3_throwIfRefused_40 : decode cX3_throwIfRefused 40 = .ok (.dup, 1) := by decide +kernel
theorem dX3_throwIfRefused_41 : decode cX3_throwIfRefused 41 = .ok (.ldc_w 299, 3) := by decide +kernel
theorem dX3_throwIfRefused_44 : decode cX3_throwIfRefused 44 = .ok (.invokespecial 113, 3) := by decide +kernel
theorem dX3_throwIfRefused_47 : decode cX3_throwIfRefused 47 = .ok (.athrow, 1) := by decide +kernel
theorem dX3_throwIfRefused_48 : decode cX3_throwIfRefused 48 = .ok (.return_, 1) := by decide +kernel
theorem dX3_onlyOne_0 : decode cX3_onlyOne 0 = .ok (.iload_n 0, 1) := by decide +kernel
theorem dX3_onlyOne_1 : decode cX3_onlyOne 1 = .ok (.invokestatic 149, 3) := by decide +kernel
theorem dX3_onlyOne_4 : decode cX3_onlyOne 4 = .ok (.iconst 1, 1) := by decide +kernel
theorem dX3_onlyOne_5 : decode cX3_onlyOne 5 = .ok (.if_icmp .ne 12, 3) := by decide +kernel
theorem dX3_onlyOne_8 : decode cX3_onlyOne 8 = .ok (.iload_n 0, 1) := by decide +kernel
theorem dX3_onlyOne_9 : decode cX3_onlyOne 9 = .ok (.iconst 1, 1) := by decide +kernel
theorem dX3_onlyOne_10 : decode cX3_onlyOne 10 = .ok (.isub, 1) := by decide +kernel
theorem dX3_onlyOne_11 : decode cX3_onlyOne 11 = .ok (.invokestatic 149, 3) := by decide +kernel
theorem dX3_onlyOne_14 : decode cX3_onlyOne 14 = .ok (.goto 4, 3) := by decide +kernel
theorem dX3_onlyOne_17 : decode cX3_onlyOne 17 = .ok (.iconst (-1), 1) := by decide +kernel
theorem dX3_onlyOne_18 : decode cX3_onlyOne 18 = .ok (.ireturn, 1) := by decide +kernel
theorem dX3_nthOf_0 : decode cX3_nthOf 0 = .ok (.iconst 0, 1) := by decide +kernel
theorem dX3_nthOf_1 : decode cX3_nthOf 1 = .ok (.istore_n 2, 1) := by decide +kernel
theorem dX3_nthOf_2 : decode cX3_nthOf 2 = .ok (.iconst 0, 1) := by decide +kernel
theorem dX3_nthOf_3 : decode cX3_nthOf 3 = .ok (.istore_n 3, 1) := by decide +kernel
theorem dX3_nthOf_4 : decode cX3_nthOf 4 = .ok (.iload_n 3, 1) := by decide +kernel
theorem dX3_nthOf_5 : decode cX3_nthOf 5 = .ok (.bipush 30, 2) := by decide +kernel
theorem dX3_nthOf_7 : decode cX3_nthOf 7 = .ok (.if_icmp .ge 27, 3) := by decide +kernel
theorem dX3_nthOf_10 : decode cX3_nthOf 10 = .ok (.iload_n 0, 1) := by decide +kernel
theorem dX3_nthOf_11 : decode cX3_nthOf 11 = .ok (.iload_n 3, 1) := by decide +kernel
theorem dX3_nthOf_12 : decode cX3_nthOf 12 = .ok (.ishr, 1) := by decide +kernel
theorem dX3_nthOf_13 : decode cX3_nthOf 13 = .ok (.iconst 1, 1) := by decide +kernel
theorem dX3_nthOf_14 : decode cX3_nthOf 14 = .ok (.iand, 1) := by decide +kernel
theorem dX3_nthOf_15 : decode cX3_nthOf 15 = .ok (.ifCond .eq 13, 3) := by decide +kernel
theorem dX3_nthOf_18 : decode cX3_nthOf 18 = .ok (.iload_n 2, 1) := by decide +kernel
theorem dX3_nthOf_19 : decode cX3_nthOf 19 = .ok (.iload_n 1, 1) := by decide +kernel
theorem dX3_nthOf_20 : decode cX3_nthOf 20 = .ok (.if_icmp .ne 5, 3) := by decide +kernel
theorem dX3_nthOf_23 : decode cX3_nthOf 23 = .ok (.iload_n 3, 1) := by decide +kernel
theorem dX3_nthOf_24 : decode cX3_nthOf 24 = .ok (.ireturn, 1) := by decide +kernel
theorem dX3_nthOf_25 : decode cX3_nthOf 25 = .ok (.iinc 2 1, 3) := by decide +kernel
theorem dX3_nthOf_28 : decode cX3_nthOf 28 = .ok (.iinc 3 1, 3) := by decide +kernel
theorem dX3_nthOf_31 : decode cX3_nthOf 31 = .ok (.goto (-27), 3) := by decide +kernel
theorem dX3_nthOf_34 : decode cX3_nthOf 34 = .ok (.iconst (-1), 1) := by decide +kernel
theorem dX3_nthOf_35 : decode cX3_nthOf 35 = .ok (.ireturn, 1) := by decide +kernel
theorem dX3_exchange_0 : decode cX3_exchange 0 = .ok (.aload_n 0, 1) := by decide +kernel
theorem dX3_exchange_1 : decode cX3_exchange 1 = .ok (.getfield 19, 3) := by decide +kernel
theorem dX3_exchange_4 : decode cX3_exchange 4 = .ok (.astore_n 1, 1) := by decide +kernel
theorem dX3_exchange_5 : decode cX3_exchange 5 = .ok (.aload_n 0, 1) := by decide +kernel
theorem dX3_exchange_6 : decode cX3_exchange 6 = .ok (.aload_n 0, 1) := by decide +kernel
theorem dX3_exchange_7 : decode cX3_exchange 7 = .ok (.getfield 23, 3) := by decide +kernel
theorem dX3_exchange_10 : decode cX3_exchange 10 = .ok (.putfield 19, 3) := by decide +kernel
theorem dX3_exchange_13 : decode cX3_exchange 13 = .ok (.aload_n 0, 1) := by decide +kernel
theorem dX3_exchange_14 : decode cX3_exchange 14 = .ok (.aload_n 1, 1) := by decide +kernel
theorem dX3_exchange_15 : decode cX3_exchange 15 = .ok (.putfield 23, 3) := by decide +kernel
theorem dX3_exchange_18 : decode cX3_exchange 18 = .ok (.return_, 1) := by decide +kernel
theorem dX3_lossWithout_0 : decode cX3_lossWithout 0 = .ok (.aload_n 0, 1) := by decide +kernel
theorem dX3_lossWithout_1 : decode cX3_lossWithout 1 = .ok (.getfield 19, 3) := by decide +kernel
theorem dX3_lossWithout_4 : decode cX3_lossWithout 4 = .ok (.getfield 301, 3) := by decide +kernel
theorem dX3_lossWithout_7 : decode cX3_lossWithout 7 = .ok (.iload_n 1, 1) := by decide +kernel
theorem dX3_lossWithout_8 : decode cX3_lossWithout 8 = .ok (.iaload, 1) := by decide +kernel
theorem dX3_lossWithout_9 : decode cX3_lossWithout 9 = .ok (.iconst (-1), 1) := by decide +kernel
theorem dX3_lossWithout_10 : decode cX3_lossWithout 10 = .ok (.if_icmp .ne 108, 3) := by decide +kernel
theorem dX3_lossWithout_13 : decode cX3_lossWithout 13 = .ok (.iconst 0, 1) := by decide +kernel
theorem dX3_lossWithout_14 : decode cX3_lossWithout 14 = .ok (.istore_n 2, 1) := by decide +kernel
theorem dX3_lossWithout_15 : decode cX3_lossWithout 15 = .ok (.aload_n 0, 1) := by decide +kernel
theorem dX3_lossWithout_16 : decode cX3_lossWithout 16 = .ok (.getfield 19, 3) := by decide +kernel
theorem dX3_lossWithout_19 : decode cX3_lossWithout 19 = .ok (.getfield 84, 3) := by decide +kernel
theorem dX3_lossWithout_22 : decode cX3_lossWithout 22 = .ok (.ifCond .le 86, 3) := by decide +kernel
theorem dX3_lossWithout_25 : decode cX3_lossWithout 25 = .ok (.aload_n 0, 1) := by decide +kernel
theorem dX3_lossWithout_26 : decode cX3_lossWithout 26 = .ok (.getfield 19, 3) := by decide +kernel
theorem dX3_lossWithout_29 : decode cX3_lossWithout 29 = .ok (.iload_n 1, 1) := by decide +kernel
theorem dX3_lossWithout_30 : decode cX3_lossWithout 30 = .ok (.invokevirtual 242, 3) := by decide +kernel
theorem dX3_lossWithout_33 : decode cX3_lossWithout 33 = .ok (.ifCond .le 75, 3) := by decide +kernel
theorem dX3_lossWithout_36 : decode cX3_lossWithout 36 = .ok (.aload_n 0, 1) := by decide +kernel
theorem dX3_lossWithout_37 : decode cX3_lossWithout 37 = .ok (.getfield 23, 3) := by decide +kernel
theorem dX3_lossWithout_40 : decode cX3_lossWithout 40 = .ok (.aload_n 0, 1) := by decide +kernel
theorem dX3_lossWithout_41 : decode cX3_lossWithout 41 = .ok (.getfield 19, 3) := by decide +kernel
theorem dX3_lossWithout_44 : decode cX3_lossWithout 44 = .ok (.invokevirtual 127, 3) := by decide +kernel
theorem dX3_lossWithout_47 : decode cX3_lossWithout 47 = .ok (.aload_n 0, 1) := by decide +kernel
theorem dX3_lossWithout_48 : decode cX3_lossWithout 48 = .ok (.getfield 23, 3) := by decide +kernel
theorem dX3_lossWithout_51 : decode cX3_lossWithout 51 = .ok (.iload_n 1, 1) := by decide +kernel
theorem dX3_lossWithout_52 : decode cX3_lossWithout 52 = .ok (.invokevirtual 304, 3) := by decide +kernel
theorem dX3_lossWithout_55 : decode cX3_lossWithout 55 = .ok (.aload_n 0, 1) := by decide +kernel
theorem dX3_lossWithout_56 : decode cX3_lossWithout 56 = .ok (.getfield 23, 3) := by decide +kernel
theorem dX3_lossWithout_59 : decode cX3_lossWithout 59 = .ok (.invokevirtual 33, 3) := by decide +kernel
theorem dX3_lossWithout_62 : decode cX3_lossWithout 62 = .ok (.iconst 0, 1) := by decide +kernel
theorem dX3_lossWithout_63 : decode cX3_lossWithout 63 = .ok (.istore_n 3, 1) := by decide +kernel
theorem dX3_lossWithout_64 : decode cX3_lossWithout 64 = .ok (.iload_n 3, 1) := by decide +kernel
theorem dX3_lossWithout_65 : decode cX3_lossWithout 65 = .ok (.aload_n 0, 1) := by decide +kernel
theorem dX3_lossWithout_66 : decode cX3_lossWithout 66 = .ok (.getfield 19, 3) := by decide +kernel
theorem dX3_lossWithout_69 : decode cX3_lossWithout 69 = .ok (.getfield 84, 3) := by decide +kernel
theorem dX3_lossWithout_72 : decode cX3_lossWithout 72 = .ok (.if_icmp .ge 36, 3) := by decide +kernel
theorem dX3_lossWithout_75 : decode cX3_lossWithout 75 = .ok (.iload_n 2, 1) := by decide +kernel
theorem dX3_lossWithout_76 : decode cX3_lossWithout 76 = .ok (.aload_n 0, 1) := by decide +kernel
theorem dX3_lossWithout_77 : decode cX3_lossWithout 77 = .ok (.getfield 19, 3) := by decide +kernel
theorem dX3_lossWithout_80 : decode cX3_lossWithout 80 = .ok (.iload_n 3, 1) := by decide +kernel
theorem dX3_lossWithout_81 : decode cX3_lossWithout 81 = .ok (.invokevirtual 254, 3) := by decide +kernel
theorem dX3_lossWithout_84 : decode cX3_lossWithout 84 = .ok (.aload_n 0, 1) := by decide +kernel
theorem dX3_lossWithout_85 : decode cX3_lossWithout 85 = .ok (.getfield 23, 3) := by decide +kernel
theorem dX3_lossWithout_88 : decode cX3_lossWithout 88 = .ok (.iload_n 3, 1) := by decide +kernel
theorem dX3_lossWithout_89 : decode cX3_lossWithout 89 = .ok (.invokevirtual 254, 3) := by decide +kernel
theorem dX3_lossWithout_92 : decode cX3_lossWithout 92 = .ok (.if_icmp .ne 7, 3) := by decide +kernel
theorem dX3_lossWithout_95 : decode cX3_lossWithout 95 = .ok (.iconst 0, 1) := by decide +kernel
theorem dX3_lossWithout_96 : decode cX3_lossWithout 96 = .ok (.goto 4, 3) := by decide +kernel
theorem dX3_lossWithout_99 : decode cX3_lossWithout 99 = .ok (.iconst 1, 1) := by decide +kernel
theorem dX3_lossWithout_100 : decode cX3_lossWithout 100 = .ok (.iadd, 1) := by decide +kernel
theorem dX3_lossWithout_101 : decode cX3_lossWithout 101 = .ok (.istore_n 2, 1) := by decide +kernel
theorem dX3_lossWithout_102 : decode cX3_lossWithout 102 = .ok (.iinc 3 1, 3) := by decide +kernel
theorem dX3_lossWithout_105 : decode cX3_lossWithout 105 = .ok (.goto (-41), 3) := by decide +kernel
theorem dX3_lossWithout_108 : decode cX3_lossWithout 108 = .ok (.aload_n 0, 1) := by decide +kernel
theorem dX3_lossWithout_109 : decode cX3_lossWithout 109 = .ok (.getfield 19, 3) := by decide +kernel
theorem dX3_lossWithout_112 : decode cX3_lossWithout 112 = .ok (.getfield 301, 3) := by decide +kernel
theorem dX3_lossWithout_115 : decode cX3_lossWithout 115 = .ok (.iload_n 1, 1) := by decide +kernel
theorem dX3_lossWithout_116 : decode cX3_lossWithout 116 = .ok (.iload_n 2, 1) := by decide +kernel
theorem dX3_lossWithout_117 : decode cX3_lossWithout 117 = .ok (.iastore, 1) := by decide +kernel
theorem dX3_lossWithout_118 : decode cX3_lossWithout 118 = .ok (.aload_n 0, 1) := by decide +kernel
theorem dX3_lossWithout_119 : decode cX3_lossWithout 119 = .ok (.getfield 19, 3) := by decide +kernel
theorem dX3_lossWithout_122 : decode cX3_lossWithout 122 = .ok (.getfield 301, 3) := by decide +kernel
theorem dX3_lossWithout_125 : decode cX3_lossWithout 125 = .ok (.iload_n 1, 1) := by decide +kernel
theorem dX3_lossWithout_126 : decode cX3_lossWithout 126 = .ok (.iaload, 1) := by decide +kernel
theorem dX3_lossWithout_127 : decode cX3_lossWithout 127 = .ok (.ireturn, 1) := by decide +kernel
theorem dX3_importsWithoutLoss_0 : decode cX3_importsWithoutLoss 0 = .ok (.iconst 0, 1) := by decide +kernel
theorem dX3_importsWithoutLoss_1 : decode cX3_importsWithoutLoss 1 = .ok (.istore_n 1, 1) := by decide +kernel
theorem dX3_importsWithoutLoss_2 : decode cX3_importsWithoutLoss 2 = .ok (.iconst 0, 1) := by decide +kernel
theorem dX3_importsWithoutLoss_3 : decode cX3_importsWithoutLoss 3 = .ok (.istore_n 2, 1) := by decide +kernel
theorem dX3_importsWithoutLoss_4 : decode cX3_importsWithoutLoss 4 = .ok (.iload_n 2, 1) := by decide +kernel
theorem dX3_importsWithoutLoss_5 : decode cX3_importsWithoutLoss 5 = .ok (.aload_n 0, 1) := by decide +kernel
theorem dX3_importsWithoutLoss_6 : decode cX3_importsWithoutLoss 6 = .ok (.getfield 19, 3) := by decide +kernel
theorem dX3_importsWithoutLoss_9 : decode cX3_importsWithoutLoss 9 = .ok (.getfield 81, 3) := by decide +kernel
theorem dX3_importsWithoutLoss_12 : decode cX3_importsWithoutLoss 12 = .ok (.if_icmp .ge 25, 3) := by decide +kernel
theorem dX3_importsWithoutLoss_15 : decode cX3_importsWithoutLoss 15 = .ok (.iload_n 1, 1) := by decide +kernel
theorem dX3_importsWithoutLoss_16 : decode cX3_importsWithoutLoss 16 = .ok (.aload_n 0, 1) := by decide +kernel
theorem dX3_importsWithoutLoss_17 : decode cX3_importsWithoutLoss 17 = .ok (.iload_n 2, 1) := by decide +kernel
theorem dX3_importsWithoutLoss_18 : decode cX3_importsWithoutLoss 18 = .ok (.invokevirtual 245, 3) := by decide +kernel
theorem dX3_importsWithoutLoss_21 : decode cX3_importsWithoutLoss 21 = .ok (.ifCond .ne 7, 3) := by decide +kernel
theorem dX3_importsWithoutLoss_24 : decode cX3_importsWithoutLoss 24 = .ok (.iconst 1, 1) := by decide +kernel
theorem dX3_importsWithoutLoss_25 : decode cX3_importsWithoutLoss 25 = .ok (.goto 4, 3) := by decide +kernel
theorem dX3_importsWithoutLoss_28 : decode cX3_importsWithoutLoss 28 = .ok (.iconst 0, 1) := by decide +kernel
theorem dX3_importsWithoutLoss_29 : decode cX3_importsWithoutLoss 29 = .ok (.iadd, 1) := by decide +kernel
theorem dX3_importsWithoutLoss_30 : decode cX3_importsWithoutLoss 30 = .ok (.istore_n 1, 1) := by decide +kernel
theorem dX3_importsWithoutLoss_31 : decode cX3_importsWithoutLoss 31 = .ok (.iinc 2 1, 3) := by decide +kernel
theorem dX3_importsWithoutLoss_34 : decode cX3_importsWithoutLoss 34 = .ok (.goto (-30), 3) := by decide +kernel
theorem dX3_importsWithoutLoss_37 : decode cX3_importsWithoutLoss 37 = .ok (.iload_n 1, 1) := by decide +kernel
theorem dX3_importsWithoutLoss_38 : decode cX3_importsWithoutLoss 38 = .ok (.ireturn, 1) := by decide +kernel
theorem dX3_removeImport_0 : decode cX3_removeImport 0 = .ok (.aload_n 0, 1) := by decide +kernel
theorem dX3_removeImport_1 : decode cX3_removeImport 1 = .ok (.iload_n 1, 1) := by decide +kernel
theorem dX3_removeImport_2 : decode cX3_removeImport 2 = .ok (.invokevirtual 245, 3) := by decide +kernel
theorem dX3_removeImport_5 : decode cX3_removeImport 5 = .ok (.istore_n 2, 1) := by decide +kernel
theorem dX3_removeImport_6 : decode cX3_removeImport 6 = .ok (.aload_n 0, 1) := by decide +kernel
theorem dX3_removeImport_7 : decode cX3_removeImport 7 = .ok (.getfield 19, 3) := by decide +kernel
theorem dX3_removeImport_10 : decode cX3_removeImport 10 = .ok (.iload_n 1, 1) := by decide +kernel
theorem dX3_removeImport_11 : decode cX3_removeImport 11 = .ok (.invokevirtual 304, 3) := by decide +kernel
theorem dX3_removeImport_14 : decode cX3_removeImport 14 = .ok (.aload_n 0, 1) := by decide +kernel
theorem dX3_removeImport_15 : decode cX3_removeImport 15 = .ok (.getfield 19, 3) := by decide +kernel
theorem dX3_removeImport_18 : decode cX3_removeImport 18 = .ok (.invokevirtual 33, 3) := by decide +kernel
theorem dX3_removeImport_21 : decode cX3_removeImport 21 = .ok (.iload_n 2, 1) := by decide +kernel
theorem dX3_removeImport_22 : decode cX3_removeImport 22 = .ok (.ireturn, 1) := by decide +kernel
theorem dX3_removeDeclaration_0 : decode cX3_removeDeclaration 0 = .ok (.aload_n 0, 1) := by decide +kernel
theorem dX3_removeDeclaration_1 : decode cX3_removeDeclaration 1 = .ok (.getfield 23, 3) := by decide +kernel
theorem dX3_removeDeclaration_4 : decode cX3_removeDeclaration 4 = .ok (.aload_n 0, 1) := by decide +kernel
theorem dX3_removeDeclaration_5 : decode cX3_removeDeclaration 5 = .ok (.getfield 19, 3) := by decide +kernel
theorem dX3_removeDeclaration_8 : decode cX3_removeDeclaration 8 = .ok (.invokevirtual 127, 3) := by decide +kernel
theorem dX3_removeDeclaration_11 : decode cX3_removeDeclaration 11 = .ok (.aload_n 0, 1) := by decide +kernel
theorem dX3_removeDeclaration_12 : decode cX3_removeDeclaration 12 = .ok (.getfield 23, 3) := by decide +kernel
theorem dX3_removeDeclaration_15 : decode cX3_removeDeclaration 15 = .ok (.iload_n 1, 1) := by decide +kernel
theorem dX3_removeDeclaration_16 : decode cX3_removeDeclaration 16 = .ok (.invokevirtual 307, 3) := by decide +kernel
theorem dX3_removeDeclaration_19 : decode cX3_removeDeclaration 19 = .ok (.aload_n 0, 1) := by decide +kernel
theorem dX3_removeDeclaration_20 : decode cX3_removeDeclaration 20 = .ok (.getfield 23, 3) := by decide +kernel
theorem dX3_removeDeclaration_23 : decode cX3_removeDeclaration 23 = .ok (.invokevirtual 33, 3) := by decide +kernel
theorem dX3_removeDeclaration_26 : decode cX3_removeDeclaration 26 = .ok (.iconst 0, 1) := by decide +kernel
theorem dX3_removeDeclaration_27 : decode cX3_removeDeclaration 27 = .ok (.istore_n 2, 1) := by decide +kernel
theorem dX3_removeDeclaration_28 : decode cX3_removeDeclaration 28 = .ok (.iconst 1, 1) := by decide +kernel
theorem dX3_removeDeclaration_29 : decode cX3_removeDeclaration 29 = .ok (.iload_n 1, 1) := by decide +kernel
theorem dX3_removeDeclaration_30 : decode cX3_removeDeclaration 30 = .ok (.ishl, 1) := by decide +kernel
theorem dX3_removeDeclaration_31 : decode cX3_removeDeclaration 31 = .ok (.iconst 1, 1) := by decide +kernel
theorem dX3_removeDeclaration_32 : decode cX3_removeDeclaration 32 = .ok (.isub, 1) := by decide +kernel
theorem dX3_removeDeclaration_33 : decode cX3_removeDeclaration 33 = .ok (.istore_n 3, 1) := by decide +kernel
theorem dX3_removeDeclaration_34 : decode cX3_removeDeclaration 34 = .ok (.iconst 0, 1) := by decide +kernel
theorem dX3_removeDeclaration_35 : decode cX3_removeDeclaration 35 = .ok (.istore 4, 2) := by decide +kernel
theorem dX3_removeDeclaration_37 : decode cX3_removeDeclaration 37 = .ok (.iload 4, 2) := by decide +kernel
theorem dX3_removeDeclaration_39 : decode cX3_removeDeclaration 39 = .ok (.aload_n 0, 1) := by decide +kernel
theorem dX3_removeDeclaration_40 : decode cX3_removeDeclaration 40 = .ok (.getfield 19, 3) := by decide +kernel
theorem dX3_removeDeclaration_43 : decode cX3_removeDeclaration 43 = .ok (.getfield 84, 3) := by decide +kernel
theorem dX3_removeDeclaration_46 : decode cX3_removeDeclaration 46 = .ok (.if_icmp .ge 78, 3) := by decide +kernel
theorem dX3_removeDeclaration_49 : decode cX3_removeDeclaration 49 = .ok (.aload_n 0, 1) := by decide +kernel
theorem dX3_removeDeclaration_50 : decode cX3_removeDeclaration 50 = .ok (.getfield 19, 3) := by decide +kernel
theorem dX3_removeDeclaration_53 : decode cX3_removeDeclaration 53 = .ok (.iload 4, 2) := by decide +kernel
theorem dX3_removeDeclaration_55 : decode cX3_removeDeclaration 55 = .ok (.invokevirtual 254, 3) := by decide +kernel
theorem dX3_removeDeclaration_58 : decode cX3_removeDeclaration 58 = .ok (.istore 5, 2) := by decide +kernel
theorem dX3_removeDeclaration_60 : decode cX3_removeDeclaration 60 = .ok (.iload 5, 2) := by decide +kernel
theorem dX3_removeDeclaration_62 : decode cX3_removeDeclaration 62 = .ok (.iload_n 3, 1) := by decide +kernel
theorem dX3_removeDeclaration_63 : decode cX3_removeDeclaration 63 = .ok (.iand, 1) := by decide +kernel
theorem dX3_removeDeclaration_64 : decode cX3_removeDeclaration 64 = .ok (.iload 5, 2) := by decide +kernel
theorem dX3_removeDeclaration_66 : decode cX3_removeDeclaration 66 = .ok (.iconst 1, 1) := by decide +kernel
theorem dX3_removeDeclaration_67 : decode cX3_removeDeclaration 67 = .ok (.ishr, 1) := by decide +kernel
theorem dX3_removeDeclaration_68 : decode cX3_removeDeclaration 68 = .ok (.iload_n 3, 1) := by decide +kernel
theorem dX3_removeDeclaration_69 : decode cX3_removeDeclaration 69 = .ok (.iconst (-1), 1) := by decide +kernel
theorem dX3_removeDeclaration_70 : decode cX3_removeDeclaration 70 = .ok (.ixor, 1) := by decide +kernel
theorem dX3_removeDeclaration_71 : decode cX3_removeDeclaration 71 = .ok (.iand, 1) := by decide +kernel
theorem dX3_removeDeclaration_72 : decode cX3_removeDeclaration 72 = .ok (.ior, 1) := by decide +kernel
theorem dX3_removeDeclaration_73 : decode cX3_removeDeclaration 73 = .ok (.istore 6, 2) := by decide +kernel
theorem dX3_removeDeclaration_75 : decode cX3_removeDeclaration 75 = .ok (.iload 5, 2) := by decide +kernel
theorem dX3_removeDeclaration_77 : decode cX3_removeDeclaration 77 = .ok (.iload_n 1, 1) := by decide +kernel
theorem dX3_removeDeclaration_78 : decode cX3_removeDeclaration 78 = .ok (.ishr, 1) := by decide +kernel
theorem dX3_removeDeclaration_79 : decode cX3_removeDeclaration 79 = .ok (.iconst 1, 1) := by decide +kernel
theorem dX3_removeDeclaration_80 : decode cX3_removeDeclaration 80 = .ok (.iand, 1) := by decide +kernel
theorem dX3_removeDeclaration_81 : decode cX3_removeDeclaration 81 = .ok (.ifCond .eq 7, 3) := by decide +kernel
theorem dX3_removeDeclaration_84 : decode cX3_removeDeclaration 84 = .ok (.iconst 1, 1) := by decide +kernel
theorem dX3_removeDeclaration_85 : decode cX3_removeDeclaration 85 = .ok (.goto 4, 3) := by decide +kernel
theorem dX3_removeDeclaration_88 : decode cX3_removeDeclaration 88 = .ok (.iconst 0, 1) := by decide +kernel
theorem dX3_removeDeclaration_89 : decode cX3_removeDeclaration 89 = .ok (.istore 7, 2) := by decide +kernel
theorem dX3_removeDeclaration_91 : decode cX3_removeDeclaration 91 = .ok (.iload_n 2, 1) := by decide +kernel
theorem dX3_removeDeclaration_92 : decode cX3_removeDeclaration 92 = .ok (.iload 7, 2) := by decide +kernel
theorem dX3_removeDeclaration_94 : decode cX3_removeDeclaration 94 = .ok (.ifCond .ne 17, 3) := by decide +kernel
theorem dX3_removeDeclaration_97 : decode cX3_removeDeclaration 97 = .ok (.iload 6, 2) := by decide +kernel
theorem dX3_removeDeclaration_99 : decode cX3_removeDeclaration 99 = .ok (.aload_n 0, 1) := by decide +kernel
theorem dX3_removeDeclaration_100 : decode cX3_removeDeclaration 100 = .ok (.getfield 23, 3) := by decide +kernel
theorem dX3_removeDeclaration_103 : decode cX3_removeDeclaration 103 = .ok (.iload 4, 2) := by decide +kernel
theorem dX3_removeDeclaration_105 : decode cX3_removeDeclaration 105 = .ok (.invokevirtual 254, 3) := by decide +kernel
theorem dX3_removeDeclaration_108 : decode cX3_removeDeclaration 108 = .ok (.if_icmp .eq 7, 3) := by decide +kernel
theorem dX3_removeDeclaration_111 : decode cX3_removeDeclaration 111 = .ok (.iconst 1, 1) := by decide +kernel
theorem dX3_removeDeclaration_112 : decode cX3_removeDeclaration 112 = .ok (.goto 4, 3) := by decide +kernel
theorem dX3_removeDeclaration_115 : decode cX3_removeDeclaration 115 = .ok (.iconst 0, 1) := by decide +kernel
theorem dX3_removeDeclaration_116 : decode cX3_removeDeclaration 116 = .ok (.iadd, 1) := by decide +kernel
theorem dX3_removeDeclaration_117 : decode cX3_removeDeclaration 117 = .ok (.istore_n 2, 1) := by decide +kernel
theorem dX3_removeDeclaration_118 : decode cX3_removeDeclaration 118 = .ok (.iinc 4 1, 3) := by decide +kernel
theorem dX3_removeDeclaration_121 : decode cX3_removeDeclaration 121 = .ok (.goto (-84), 3) := by decide +kernel
theorem dX3_removeDeclaration_124 : decode cX3_removeDeclaration 124 = .ok (.aload_n 0, 1) := by decide +kernel
theorem dX3_removeDeclaration_125 : decode cX3_removeDeclaration 125 = .ok (.invokevirtual 137, 3) := by decide +kernel
theorem dX3_removeDeclaration_128 : decode cX3_removeDeclaration 128 = .ok (.iload_n 2, 1) := by decide +kernel
theorem dX3_removeDeclaration_129 : decode cX3_removeDeclaration 129 = .ok (.ireturn, 1) := by decide +kernel
theorem dX3_reasonAgainst_0 : decode cX3_reasonAgainst 0 = .ok (.aload_n 0, 1) := by decide +kernel
theorem dX3_reasonAgainst_1 : decode cX3_reasonAgainst 1 = .ok (.getfield 19, 3) := by decide +kernel
theorem dX3_reasonAgainst_4 : decode cX3_reasonAgainst 4 = .ok (.getfield 206, 3) := by decide +kernel
theorem dX3_reasonAgainst_7 : decode cX3_reasonAgainst 7 = .ok (.iload_n 1, 1) := by decide +kernel
theorem dX3_reasonAgainst_8 : decode cX3_reasonAgainst 8 = .ok (.iaload, 1) := by decide +kernel
theorem dX3_reasonAgainst_9 : decode cX3_reasonAgainst 9 = .ok (.istore_n 3, 1) := by decide +kernel
theorem dX3_reasonAgainst_10 : decode cX3_reasonAgainst 10 = .ok (.aload_n 0, 1) := by decide +kernel
theorem dX3_reasonAgainst_11 : decode cX3_reasonAgainst 11 = .ok (.getfield 19, 3) := by decide +kernel
theorem dX3_reasonAgainst_14 : decode cX3_reasonAgainst 14 = .ok (.getfield 168, 3) := by decide +kernel
theorem dX3_reasonAgainst_17 : decode cX3_reasonAgainst 17 = .ok (.getfield 310, 3) := by decide +kernel
theorem dX3_reasonAgainst_20 : decode cX3_reasonAgainst 20 = .ok (.iload_n 3, 1) := by decide +kernel
theorem dX3_reasonAgainst_21 : decode cX3_reasonAgainst 21 = .ok (.bipush 26, 2) := by decide +kernel
theorem dX3_reasonAgainst_23 : decode cX3_reasonAgainst 23 = .ok (.imul, 1) := by decide +kernel
theorem dX3_reasonAgainst_24 : decode cX3_reasonAgainst 24 = .ok (.iload_n 2, 1) := by decide +kernel
theorem dX3_reasonAgainst_25 : decode cX3_reasonAgainst 25 = .ok (.iadd, 1) := by decide +kernel
theorem dX3_reasonAgainst_26 : decode cX3_reasonAgainst 26 = .ok (.iaload, 1) := by decide +kernel
theorem dX3_reasonAgainst_27 : decode cX3_reasonAgainst 27 = .ok (.ifCond .eq 5, 3) := by decide +kernel
theorem dX3_reasonAgainst_30 : decode cX3_reasonAgainst 30 = .ok (.iconst 1, 1) := by decide +kernel
theorem dX3_reasonAgainst_31 : decode cX3_reasonAgainst 31 = .ok (.ireturn, 1) := by decide +kernel
theorem dX3_reasonAgainst_32 : decode cX3_reasonAgainst 32 = .ok (.aload_n 0, 1) := by decide +kernel
theorem dX3_reasonAgainst_33 : decode cX3_reasonAgainst 33 = .ok (.getfield 23, 3) := by decide +kernel
theorem dX3_reasonAgainst_36 : decode cX3_reasonAgainst 36 = .ok (.aload_n 0, 1) := by decide +kernel
theorem dX3_reasonAgainst_37 : decode cX3_reasonAgainst 37 = .ok (.getfield 19, 3) := by decide +kernel
theorem dX3_reasonAgainst_40 : decode cX3_reasonAgainst 40 = .ok (.invokevirtual 127, 3) := by decide +kernel
theorem dX3_reasonAgainst_43 : decode cX3_reasonAgainst 43 = .ok (.aload_n 0, 1) := by decide +kernel
theorem dX3_reasonAgainst_44 : decode cX3_reasonAgainst 44 = .ok (.getfield 23, 3) := by decide +kernel
theorem dX3_reasonAgainst_47 : decode cX3_reasonAgainst 47 = .ok (.iload_n 1, 1) := by decide +kernel
theorem dX3_reasonAgainst_48 : decode cX3_reasonAgainst 48 = .ok (.iload_n 2, 1) := by decide +kernel
theorem dX3_reasonAgainst_49 : decode cX3_reasonAgainst 49 = .ok (.aload_n 0, 1) := by decide +kernel
theorem dX3_reasonAgainst_50 : decode cX3_reasonAgainst 50 = .ok (.getfield 19, 3) := by decide +kernel
theorem dX3_reasonAgainst_53 : decode cX3_reasonAgainst 53 = .ok (.invokevirtual 313, 3) := by decide +kernel
theorem dX3_reasonAgainst_56 : decode cX3_reasonAgainst 56 = .ok (.aload_n 0, 1) := by decide +kernel
theorem dX3_reasonAgainst_57 : decode cX3_reasonAgainst 57 = .ok (.getfield 23, 3) := by decide +kernel
theorem dX3_reasonAgainst_60 : decode cX3_reasonAgainst 60 = .ok (.invokevirtual 33, 3) := by decide +kernel
theorem dX3_reasonAgainst_63 : decode cX3_reasonAgainst 63 = .ok (.aload_n 0, 1) := by decide +kernel
theorem dX3_reasonAgainst_64 : decode cX3_reasonAgainst 64 = .ok (.iload_n 1, 1) := by decide +kernel
theorem dX3_reasonAgainst_65 : decode cX3_reasonAgainst 65 = .ok (.iconst 1, 1) := by decide +kernel
theorem dX3_reasonAgainst_66 : decode cX3_reasonAgainst 66 = .ok (.invokevirtual 184, 3) := by decide +kernel
theorem dX3_reasonAgainst_69 : decode cX3_reasonAgainst 69 = .ok (.iconst (-1), 1) := by decide +kernel
theorem dX3_reasonAgainst_70 : decode cX3_reasonAgainst 70 = .ok (.if_icmp .eq 5, 3) := by decide +kernel
theorem dX3_reasonAgainst_73 : decode cX3_reasonAgainst 73 = .ok (.iconst 2, 1) := by decide +kernel
theorem dX3_reasonAgainst_74 : decode cX3_reasonAgainst 74 = .ok (.ireturn, 1) := by decide +kernel
theorem dX3_reasonAgainst_75 : decode cX3_reasonAgainst 75 = .ok (.aload_n 0, 1) := by decide +kernel
theorem dX3_reasonAgainst_76 : decode cX3_reasonAgainst 76 = .ok (.iload_n 1, 1) := by decide +kernel
theorem dX3_reasonAgainst_77 : decode cX3_reasonAgainst 77 = .ok (.iconst 0, 1) := by decide +kernel
theorem dX3_reasonAgainst_78 : decode cX3_reasonAgainst 78 = .ok (.invokevirtual 184, 3) := by decide +kernel
theorem dX3_reasonAgainst_81 : decode cX3_reasonAgainst 81 = .ok (.iconst (-1), 1) := by decide +kernel
theorem dX3_reasonAgainst_82 : decode cX3_reasonAgainst 82 = .ok (.if_icmp .eq 7, 3) := by decide +kernel
theorem dX3_reasonAgainst_85 : decode cX3_reasonAgainst 85 = .ok (.iconst 3, 1) := by decide +kernel
theorem dX3_reasonAgainst_86 : decode cX3_reasonAgainst 86 = .ok (.goto 4, 3) := by decide +kernel
theorem dX3_reasonAgainst_89 : decode cX3_reasonAgainst 89 = .ok (.iconst 0, 1) := by decide +kernel
theorem dX3_reasonAgainst_90 : decode cX3_reasonAgainst 90 = .ok (.ireturn, 1) := by decide +kernel
theorem dX3_firstChanged_0 : decode cX3_firstChanged 0 = .ok (.iconst 0, 1) := by decide +kernel
theorem dX3_firstChanged_1 : decode cX3_firstChanged 1 = .ok (.istore_n 3, 1) := by decide +kernel
theorem dX3_firstChanged_2 : decode cX3_firstChanged 2 = .ok (.iload_n 3, 1) := by decide +kernel
theorem dX3_firstChanged_3 : decode cX3_firstChanged 3 = .ok (.aload_n 0, 1) := by decide +kernel
theorem dX3_firstChanged_4 : decode cX3_firstChanged 4 = .ok (.getfield 19, 3) := by decide +kernel
theorem dX3_firstChanged_7 : decode cX3_firstChanged 7 = .ok (.getfield 84, 3) := by decide +kernel
theorem dX3_firstChanged_10 : decode cX3_firstChanged 10 = .ok (.if_icmp .ge 55, 3) := by decide +kernel
theorem dX3_firstChanged_13 : decode cX3_firstChanged 13 = .ok (.aload_n 0, 1) := by decide +kernel
theorem dX3_firstChanged_14 : decode cX3_firstChanged 14 = .ok (.getfield 19, 3) := by decide +kernel
theorem dX3_firstChanged_17 : decode cX3_firstChanged 17 = .ok (.iload_n 3, 1) := by decide +kernel
theorem dX3_firstChanged_18 : decode cX3_firstChanged 18 = .ok (.invokevirtual 254, 3) := by decide +kernel
theorem dX3_firstChanged_21 : decode cX3_firstChanged 21 = .ok (.istore 4, 2) := by decide +kernel
theorem dX3_firstChanged_23 : decode cX3_firstChanged 23 = .ok (.iload 4, 2) := by decide +kernel
theorem dX3_firstChanged_25 : decode cX3_firstChanged 25 = .ok (.iconst 1, 1) := by decide +kernel
theorem dX3_firstChanged_26 : decode cX3_firstChanged 26 = .ok (.iload_n 1, 1) := by decide +kernel
theorem dX3_firstChanged_27 : decode cX3_firstChanged 27 = .ok (.ishl, 1) := by decide +kernel
theorem dX3_firstChanged_28 : decode cX3_firstChanged 28 = .ok (.if_icmp .ne 7, 3) := by decide +kernel
theorem dX3_firstChanged_31 : decode cX3_firstChanged 31 = .ok (.iconst 1, 1) := by decide +kernel
theorem dX3_firstChanged_32 : decode cX3_firstChanged 32 = .ok (.goto 4, 3) := by decide +kernel
theorem dX3_firstChanged_35 : decode cX3_firstChanged 35 = .ok (.iconst 0, 1) := by decide +kernel
theorem dX3_firstChanged_36 : decode cX3_firstChanged 36 = .ok (.istore 5, 2) := by decide +kernel
theorem dX3_firstChanged_38 : decode cX3_firstChanged 38 = .ok (.iload 5, 2) := by decide +kernel
theorem dX3_firstChanged_40 : decode cX3_firstChanged 40 = .ok (.iload_n 2, 1) := by decide +kernel
theorem dX3_firstChanged_41 : decode cX3_firstChanged 41 = .ok (.if_icmp .ne 18, 3) := by decide +kernel
theorem dX3_firstChanged_44 : decode cX3_firstChanged 44 = .ok (.iload 4, 2) := by decide +kernel
theorem dX3_firstChanged_46 : decode cX3_firstChanged 46 = .ok (.aload_n 0, 1) := by decide +kernel
theorem dX3_firstChanged_47 : decode cX3_firstChanged 47 = .ok (.getfield 23, 3) := by decide +kernel
theorem dX3_firstChanged_50 : decode cX3_firstChanged 50 = .ok (.iload_n 3, 1) := by decide +kernel
theorem dX3_firstChanged_51 : decode cX3_firstChanged 51 = .ok (.invokevirtual 254, 3) := by decide +kernel
theorem dX3_firstChanged_54 : decode cX3_firstChanged 54 = .ok (.if_icmp .eq 5, 3) := by decide +kernel
theorem dX3_firstChanged_57 : decode cX3_firstChanged 57 = .ok (.iload_n 3, 1) := by decide +kernel
theorem dX3_firstChanged_58 : decode cX3_firstChanged 58 = .ok (.ireturn, 1) := by decide +kernel
theorem dX3_firstChanged_59 : decode cX3_firstChanged 59 = .ok (.iinc 3 1, 3) := by decide +kernel
theorem dX3_firstChanged_62 : decode cX3_firstChanged 62 = .ok (.goto (-60), 3) := by decide +kernel
theorem dX3_firstChanged_65 : decode cX3_firstChanged 65 = .ok (.iconst (-1), 1) := by decide +kernel
theorem dX3_firstChanged_66 : decode cX3_firstChanged 66 = .ok (.ireturn, 1) := by decide +kernel
theorem dX3_usesToRename_0 : decode cX3_usesToRename 0 = .ok (.iconst 0, 1) := by decide +kernel
theorem dX3_usesToRename_1 : decode cX3_usesToRename 1 = .ok (.istore_n 2, 1) := by decide +kernel
theorem dX3_usesToRename_2 : decode cX3_usesToRename 2 = .ok (.iconst 0, 1) := by decide +kernel
theorem dX3_usesToRename_3 : decode cX3_usesToRename 3 = .ok (.istore_n 3, 1) := by decide +kernel
theorem dX3_usesToRename_4 : decode cX3_usesToRename 4 = .ok (.iload_n 3, 1) := by decide +kernel
theorem dX3_usesToRename_5 : decode cX3_usesToRename 5 = .ok (.aload_n 0, 1) := by decide +kernel
theorem dX3_usesToRename_6 : decode cX3_usesToRename 6 = .ok (.getfield 19, 3) := by decide +kernel
theorem dX3_usesToRename_9 : decode cX3_usesToRename 9 = .ok (.getfield 84, 3) := by decide +kernel
theorem dX3_usesToRename_12 : decode cX3_usesToRename 12 = .ok (.if_icmp .ge 29, 3) := by decide +kernel
theorem dX3_usesToRename_15 : decode cX3_usesToRename 15 = .ok (.iload_n 2, 1) := by decide +kernel
theorem dX3_usesToRename_16 : decode cX3_usesToRename 16 = .ok (.aload_n 0, 1) := by decide +kernel
theorem dX3_usesToRename_17 : decode cX3_usesToRename 17 = .ok (.getfield 19, 3) := by decide +kernel
theorem dX3_usesToRename_20 : decode cX3_usesToRename 20 = .ok (.iload_n 3, 1) := by decide +kernel
theorem dX3_usesToRename_21 : decode cX3_usesToRename 21 = .ok (.iload_n 1, 1) := by decide +kernel
theorem dX3_usesToRename_22 : decode cX3_usesToRename 22 = .ok (.invokevirtual 317, 3) := by decide +kernel
theorem dX3_usesToRename_25 : decode cX3_usesToRename 25 = .ok (.ifCond .eq 7, 3) := by decide +kernel
theorem dX3_usesToRename_28 : decode cX3_usesToRename 28 = .ok (.iconst 1, 1) := by decide +kernel
theorem dX3_usesToRename_29 : decode cX3_usesToRename 29 = .ok (.goto 4, 3) := by decide +kernel
theorem dX3_usesToRename_32 : decode cX3_usesToRename 32 = .ok (.iconst 0, 1) := by decide +kernel
theorem dX3_usesToRename_33 : decode cX3_usesToRename 33 = .ok (.iadd, 1) := by decide +kernel
theorem dX3_usesToRename_34 : decode cX3_usesToRename 34 = .ok (.istore_n 2, 1) := by decide +kernel
theorem dX3_usesToRename_35 : decode cX3_usesToRename 35 = .ok (.iinc 3 1, 3) := by decide +kernel
theorem dX3_usesToRename_38 : decode cX3_usesToRename 38 = .ok (.goto (-34), 3) := by decide +kernel
theorem dX3_usesToRename_41 : decode cX3_usesToRename 41 = .ok (.iload_n 2, 1) := by decide +kernel
theorem dX3_usesToRename_42 : decode cX3_usesToRename 42 = .ok (.ireturn, 1) := by decide +kernel
theorem dJ6_bitCount_0f7a4_0 : decode cJ6_bitCount_0f7a4 0 = .ok (.iload_n 0, 1) := by decide +kernel
theorem dJ6_bitCount_0f7a4_1 : decode cJ6_bitCount_0f7a4 1 = .ok (.iload_n 0, 1) := by decide +kernel
theorem dJ6_bitCount_0f7a4_2 : decode cJ6_bitCount_0f7a4 2 = .ok (.iconst 1, 1) := by decide +kernel
theorem dJ6_bitCount_0f7a4_3 : decode cJ6_bitCount_0f7a4 3 = .ok (.iushr, 1) := by decide +kernel
theorem dJ6_bitCount_0f7a4_4 : decode cJ6_bitCount_0f7a4 4 = .ok (.ldc_w 265, 3) := by decide +kernel
theorem dJ6_bitCount_0f7a4_7 : decode cJ6_bitCount_0f7a4 7 = .ok (.iand, 1) := by decide +kernel
theorem dJ6_bitCount_0f7a4_8 : decode cJ6_bitCount_0f7a4 8 = .ok (.isub, 1) := by decide +kernel
theorem dJ6_bitCount_0f7a4_9 : decode cJ6_bitCount_0f7a4 9 = .ok (.istore_n 0, 1) := by decide +kernel
theorem dJ6_bitCount_0f7a4_10 : decode cJ6_bitCount_0f7a4 10 = .ok (.iload_n 0, 1) := by decide +kernel
theorem dJ6_bitCount_0f7a4_11 : decode cJ6_bitCount_0f7a4 11 = .ok (.ldc_w 266, 3) := by decide +kernel
theorem dJ6_bitCount_0f7a4_14 : decode cJ6_bitCount_0f7a4 14 = .ok (.iand, 1) := by decide +kernel
theorem dJ6_bitCount_0f7a4_15 : decode cJ6_bitCount_0f7a4 15 = .ok (.iload_n 0, 1) := by decide +kernel
theorem dJ6_bitCount_0f7a4_16 : decode cJ6_bitCount_0f7a4 16 = .ok (.iconst 2, 1) := by decide +kernel
theorem dJ6_bitCount_0f7a4_17 : decode cJ6_bitCount_0f7a4 17 = .ok (.iushr, 1) := by decide +kernel
theorem dJ6_bitCount_0f7a4_18 : decode cJ6_bitCount_0f7a4 18 = .ok (.ldc_w 266, 3) := by decide +kernel
theorem dJ6_bitCount_0f7a4_21 : decode cJ6_bitCount_0f7a4 21 = .ok (.iand, 1) := by decide +kernel
theorem dJ6_bitCount_0f7a4_22 : decode cJ6_bitCount_0f7a4 22 = .ok (.iadd, 1) := by decide +kernel
theorem dJ6_bitCount_0f7a4_23 : decode cJ6_bitCount_0f7a4 23 = .ok (.istore_n 0, 1) := by decide +kernel
theorem dJ6_bitCount_0f7a4_24 : decode cJ6_bitCount_0f7a4 24 = .ok (.iload_n 0, 1) := by decide +kernel
theorem dJ6_bitCount_0f7a4_25 : decode cJ6_bitCount_0f7a4 25 = .ok (.iload_n 0, 1) := by decide +kernel
theorem dJ6_bitCount_0f7a4_26 : decode cJ6_bitCount_0f7a4 26 = .ok (.iconst 4, 1) := by decide +kernel
theorem dJ6_bitCount_0f7a4_27 : decode cJ6_bitCount_0f7a4 27 = .ok (.iushr, 1) := by decide +kernel
theorem dJ6_bitCount_0f7a4_28 : decode cJ6_bitCount_0f7a4 28 = .ok (.iadd, 1) := by decide +kernel
theorem dJ6_bitCount_0f7a4_29 : decode cJ6_bitCount_0f7a4 29 = .ok (.ldc_w 267, 3) := by decide +kernel
theorem dJ6_bitCount_0f7a4_32 : decode cJ6_bitCount_0f7a4 32 = .ok (.iand, 1) := by decide +kernel
theorem dJ6_bitCount_0f7a4_33 : decode cJ6_bitCount_0f7a4 33 = .ok (.istore_n 0, 1) := by decide +kernel
theorem dJ6_bitCount_0f7a4_34 : decode cJ6_bitCount_0f7a4 34 = .ok (.iload_n 0, 1) := by decide +kernel
theorem dJ6_bitCount_0f7a4_35 : decode cJ6_bitCount_0f7a4 35 = .ok (.iload_n 0, 1) := by decide +kernel
theorem dJ6_bitCount_0f7a4_36 : decode cJ6_bitCount_0f7a4 36 = .ok (.bipush 8, 2) := by decide +kernel
theorem dJ6_bitCount_0f7a4_38 : decode cJ6_bitCount_0f7a4 38 = .ok (.iushr, 1) := by decide +kernel
theorem dJ6_bitCount_0f7a4_39 : decode cJ6_bitCount_0f7a4 39 = .ok (.iadd, 1) := by decide +kernel
theorem dJ6_bitCount_0f7a4_40 : decode cJ6_bitCount_0f7a4 40 = .ok (.istore_n 0, 1) := by decide +kernel
theorem dJ6_bitCount_0f7a4_41 : decode cJ6_bitCount_0f7a4 41 = .ok (.iload_n 0, 1) := by decide +kernel
theorem dJ6_bitCount_0f7a4_42 : decode cJ6_bitCount_0f7a4 42 = .ok (.iload_n 0, 1) := by decide +kernel
theorem dJ6_bitCount_0f7a4_43 : decode cJ6_bitCount_0f7a4 43 = .ok (.bipush 16, 2) := by decide +kernel
theorem dJ6_bitCount_0f7a4_45 : decode cJ6_bitCount_0f7a4 45 = .ok (.iushr, 1) := by decide +kernel
theorem dJ6_bitCount_0f7a4_46 : decode cJ6_bitCount_0f7a4 46 = .ok (.iadd, 1) := by decide +kernel
theorem dJ6_bitCount_0f7a4_47 : decode cJ6_bitCount_0f7a4 47 = .ok (.istore_n 0, 1) := by decide +kernel
theorem dJ6_bitCount_0f7a4_48 : decode cJ6_bitCount_0f7a4 48 = .ok (.iload_n 0, 1) := by decide +kernel
theorem dJ6_bitCount_0f7a4_49 : decode cJ6_bitCount_0f7a4 49 = .ok (.bipush 63, 2) := by decide +kernel
theorem dJ6_bitCount_0f7a4_51 : decode cJ6_bitCount_0f7a4 51 = .ok (.iand, 1) := by decide +kernel
theorem dJ6_bitCount_0f7a4_52 : decode cJ6_bitCount_0f7a4 52 = .ok (.ireturn, 1) := by decide +kernel
theorem dJ9_max_7cf53_0 : decode cJ9_max_7cf53 0 = .ok (.iload_n 0, 1) := by decide +kernel
theorem dJ9_max_7cf53_1 : decode cJ9_max_7cf53 1 = .ok (.iload_n 1, 1) := by decide +kernel
theorem dJ9_max_7cf53_2 : decode cJ9_max_7cf53 2 = .ok (.if_icmp .lt 7, 3) := by decide +kernel
theorem dJ9_max_7cf53_5 : decode cJ9_max_7cf53 5 = .ok (.iload_n 0, 1) := by decide +kernel
theorem dJ9_max_7cf53_6 : decode cJ9_max_7cf53 6 = .ok (.goto 4, 3) := by decide +kernel
theorem dJ9_max_7cf53_9 : decode cJ9_max_7cf53 9 = .ok (.iload_n 1, 1) := by decide +kernel
theorem dJ9_max_7cf53_10 : decode cJ9_max_7cf53 10 = .ok (.ireturn, 1) := by decide +kernel
theorem dJ7_fill_53178_0 : decode cJ7_fill_53178 0 = .ok (.iconst 0, 1) := by decide +kernel
theorem dJ7_fill_53178_1 : decode cJ7_fill_53178 1 = .ok (.istore_n 2, 1) := by decide +kernel
theorem dJ7_fill_53178_2 : decode cJ7_fill_53178 2 = .ok (.aload_n 0, 1) := by decide +kernel
theorem dJ7_fill_53178_3 : decode cJ7_fill_53178 3 = .ok (.arraylength, 1) := by decide +kernel
theorem dJ7_fill_53178_4 : decode cJ7_fill_53178 4 = .ok (.istore_n 3, 1) := by decide +kernel
theorem dJ7_fill_53178_5 : decode cJ7_fill_53178 5 = .ok (.iload_n 2, 1) := by decide +kernel
theorem dJ7_fill_53178_6 : decode cJ7_fill_53178 6 = .ok (.iload_n 3, 1) := by decide +kernel
theorem dJ7_fill_53178_7 : decode cJ7_fill_53178 7 = .ok (.if_icmp .ge 13, 3) := by decide +kernel
theorem dJ7_fill_53178_10 : decode cJ7_fill_53178 10 = .ok (.aload_n 0, 1) := by decide +kernel
theorem dJ7_fill_53178_11 : decode cJ7_fill_53178 11 = .ok (.iload_n 2, 1) := by decide +kernel
theorem dJ7_fill_53178_12 : decode cJ7_fill_53178 12 = .ok (.iload_n 1, 1) := by decide +kernel
theorem dJ7_fill_53178_13 : decode cJ7_fill_53178 13 = .ok (.iastore, 1) := by decide +kernel
theorem dJ7_fill_53178_14 : decode cJ7_fill_53178 14 = .ok (.iinc 2 1, 3) := by decide +kernel
theorem dJ7_fill_53178_17 : decode cJ7_fill_53178 17 = .ok (.goto (-12), 3) := by decide +kernel
theorem dJ7_fill_53178_20 : decode cJ7_fill_53178 20 = .ok (.return_, 1) := by decide +kernel
