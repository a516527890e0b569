theorem i_97_56 : q_dec 97 56 = some (11, .aload_n 0, 1) := by decide +kernel
theorem i_97_57 : q_dec 97 57 = some (11, .getfield 54, 3) := by decide +kernel
theorem i_97_60 : q_dec 97 60 = some (11, .iconst 1, 1) := by decide +kernel
theorem i_97_61 : q_dec 97 61 = some (11, .invokevirtual 262, 3) := by decide +kernel
theorem i_97_64 : q_dec 97 64 = some (11, .ireturn, 1) := by decide +kernel
theorem i_97_65 : q_dec 97 65 = some (11, .aload_n 0, 1) := by decide +kernel
theorem i_97_66 : q_dec 97 66 = some (11, .getfield 54, 3) := by decide +kernel
theorem i_97_69 : q_dec 97 69 = some (11, .iconst 2, 1) := by decide +kernel
theorem i_97_70 : q_dec 97 70 = some (11, .invokevirtual 262, 3) := by decide +kernel
theorem i_97_73 : q_dec 97 73 = some (11, .ireturn, 1) := by decide +kernel
theorem i_97_74 : q_dec 97 74 = some (11, .aload_n 0, 1) := by decide +kernel
theorem i_97_75 : q_dec 97 75 = some (11, .getfield 34, 3) := by decide +kernel
theorem i_97_78 : q_dec 97 78 = some (11, .getfield 103, 3) := by decide +kernel
theorem i_97_81 : q_dec 97 81 = some (11, .ireturn, 1) := by decide +kernel
theorem i_97_82 : q_dec 97 82 = some (11, .aload_n 0, 1) := by decide +kernel
theorem i_97_83 : q_dec 97 83 = some (11, .getfield 12, 3) := by decide +kernel
theorem i_97_86 : q_dec 97 86 = some (11, .getfield 85, 3) := by decide +kernel
theorem i_97_89 : q_dec 97 89 = some (11, .ireturn, 1) := by decide +kernel
theorem i_97_90 : q_dec 97 90 = some (11, .iconst (-1), 1) := by decide +kernel
theorem i_97_91 : q_dec 97 91 = some (11, .ireturn, 1) := by decide +kernel
theorem i_98_0 : q_dec 98 0 = some (11, .aload_n 0, 1) := by decide +kernel
theorem i_98_1 : q_dec 98 1 = some (11, .getfield 61, 3) := by decide +kernel
theorem i_98_4 : q_dec 98 4 = some (11, .lreturn, 1) := by decide +kernel
theorem i_99_0 : q_dec 99 0 = some (12, .iload_n 3, 1) := by decide +kernel
theorem i_99_1 : q_dec 99 1 = some (12, .i2l, 1) := by decide +kernel
theorem i_99_2 : q_dec 99 2 = some (12, .lconst 1, 1) := by decide +kernel
theorem i_99_3 : q_dec 99 3 = some (12, .ldc2_w 87, 3) := by decide +kernel
theorem i_99_6 : q_dec 99 6 = some (12, .invokestatic 72, 3) := by decide +kernel
theorem i_99_9 : q_dec 99 9 = some (12, .ifCond .ne (5), 3) := by decide +kernel
theorem i_99_12 : q_dec 99 12 = some (12, .iconst (-1), 1) := by decide +kernel
theorem i_99_13 : q_dec 99 13 = some (12, .ireturn, 1) := by decide +kernel
theorem i_99_14 : q_dec 99 14 = some (12, .aload_n 0, 1) := by decide +kernel
theorem i_99_15 : q_dec 99 15 = some (12, .getfield 89, 3) := by decide +kernel
theorem i_99_18 : q_dec 99 18 = some (12, .iload_n 3, 1) := by decide +kernel
theorem i_99_19 : q_dec 99 19 = some (12, .iadd, 1) := by decide +kernel
theorem i_99_20 : q_dec 99 20 = some (12, .sipush 200, 3) := by decide +kernel
theorem i_99_23 : q_dec 99 23 = some (12, .if_icmp .le (6), 3) := by decide +kernel
theorem i_99_26 : q_dec 99 26 = some (12, .bipush (-3), 2) := by decide +kernel
theorem i_99_28 : q_dec 99 28 = some (12, .ireturn, 1) := by decide +kernel
theorem i_99_29 : q_dec 99 29 = some (12, .iload_n 3, 1) := by decide +kernel
theorem i_99_30 : q_dec 99 30 = some (12, .iconst 1, 1) := by decide +kernel
theorem i_99_31 : q_dec 99 31 = some (12, .isub, 1) := by decide +kernel
theorem i_99_32 : q_dec 99 32 = some (12, .istore 4, 2) := by decide +kernel
theorem i_99_34 : q_dec 99 34 = some (12, .iload 4, 2) := by decide +kernel
theorem i_99_36 : q_dec 99 36 = some (12, .ifCond .lt (40), 3) := by decide +kernel
theorem i_99_39 : q_dec 99 39 = some (12, .aload_n 0, 1) := by decide +kernel
theorem i_99_40 : q_dec 99 40 = some (12, .getfield 25, 3) := by decide +kernel
theorem i_99_43 : q_dec 99 43 = some (12, .aload_n 0, 1) := by decide +kernel
theorem i_99_44 : q_dec 99 44 = some (12, .getfield 89, 3) := by decide +kernel
theorem i_99_47 : q_dec 99 47 = some (12, .lload_n 1, 1) := by decide +kernel
theorem i_99_48 : q_dec 99 48 = some (12, .bipush 8, 2) := by decide +kernel
theorem i_99_50 : q_dec 99 50 = some (12, .iload 4, 2) := by decide +kernel
theorem i_99_52 : q_dec 99 52 = some (12, .imul, 1) := by decide +kernel
theorem i_99_53 : q_dec 99 53 = some (12, .lshr, 1) := by decide +kernel
theorem i_99_54 : q_dec 99 54 = some (12, .ldc2_w 92, 3) := by decide +kernel
theorem i_99_57 : q_dec 99 57 = some (12, .land, 1) := by decide +kernel
theorem i_99_58 : q_dec 99 58 = some (12, .l2i, 1) := by decide +kernel
theorem i_99_59 : q_dec 99 59 = some (12, .iastore, 1) := by decide +kernel
theorem i_99_60 : q_dec 99 60 = some (12, .aload_n 0, 1) := by decide +kernel
theorem i_99_61 : q_dec 99 61 = some (12, .dup, 1) := by decide +kernel
theorem i_99_62 : q_dec 99 62 = some (12, .getfield 89, 3) := by decide +kernel
theorem i_99_65 : q_dec 99 65 = some (12, .iconst 1, 1) := by decide +kernel
theorem i_99_66 : q_dec 99 66 = some (12, .iadd, 1) := by decide +kernel
theorem i_99_67 : q_dec 99 67 = some (12, .putfield 89, 3) := by decide +kernel
theorem i_99_70 : q_dec 99 70 = some (12, .iinc 4 (-1), 3) := by decide +kernel
theorem i_99_73 : q_dec 99 73 = some (12, .goto (-39), 3) := by decide +kernel
theorem i_99_76 : q_dec 99 76 = some (12, .aload_n 0, 1) := by decide +kernel
theorem i_99_77 : q_dec 99 77 = some (12, .getfield 89, 3) := by decide +kernel
theorem i_99_80 : q_dec 99 80 = some (12, .ireturn, 1) := by decide +kernel
theorem i_100_0 : q_dec 100 0 = some (12, .lload_n 0, 1) := by decide +kernel
theorem i_100_1 : q_dec 100 1 = some (12, .lload_n 2, 1) := by decide +kernel
theorem i_100_2 : q_dec 100 2 = some (12, .lcmp, 1) := by decide +kernel
theorem i_100_3 : q_dec 100 3 = some (12, .ifCond .lt (14), 3) := by decide +kernel
theorem i_100_6 : q_dec 100 6 = some (12, .lload_n 0, 1) := by decide +kernel
theorem i_100_7 : q_dec 100 7 = some (12, .lload 4, 2) := by decide +kernel
theorem i_100_9 : q_dec 100 9 = some (12, .lcmp, 1) := by decide +kernel
theorem i_100_10 : q_dec 100 10 = some (12, .ifCond .gt (7), 3) := by decide +kernel
theorem i_100_13 : q_dec 100 13 = some (12, .iconst 1, 1) := by decide +kernel
theorem i_100_14 : q_dec 100 14 = some (12, .goto 4, 3) := by decide +kernel
theorem i_100_17 : q_dec 100 17 = some (12, .iconst 0, 1) := by decide +kernel
theorem i_100_18 : q_dec 100 18 = some (12, .ireturn, 1) := by decide +kernel
theorem i_101_0 : q_dec 101 0 = some (12, .aload_n 0, 1) := by decide +kernel
theorem i_101_1 : q_dec 101 1 = some (12, .getfield 89, 3) := by decide +kernel
theorem i_101_4 : q_dec 101 4 = some (12, .istore_n 1, 1) := by decide +kernel
theorem i_101_5 : q_dec 101 5 = some (12, .aload_n 0, 1) := by decide +kernel
theorem i_101_6 : q_dec 101 6 = some (12, .iconst 0, 1) := by decide +kernel
theorem i_101_7 : q_dec 101 7 = some (12, .putfield 89, 3) := by decide +kernel
theorem i_101_10 : q_dec 101 10 = some (12, .iload_n 1, 1) := by decide +kernel
theorem i_101_11 : q_dec 101 11 = some (12, .ireturn, 1) := by decide +kernel
theorem i_102_0 : q_dec 102 0 = some (12, .aload_n 0, 1) := by decide +kernel
theorem i_102_1 : q_dec 102 1 = some (12, .iconst 0, 1) := by decide +kernel
theorem i_102_2 : q_dec 102 2 = some (12, .putfield 94, 3) := by decide +kernel
theorem i_102_5 : q_dec 102 5 = some (12, .aload_n 0, 1) := by decide +kernel
theorem i_102_6 : q_dec 102 6 = some (12, .bipush (-9), 2) := by decide +kernel
theorem i_102_8 : q_dec 102 8 = some (12, .putfield 97, 3) := by decide +kernel
theorem i_102_11 : q_dec 102 11 = some (12, .aload_n 0, 1) := by decide +kernel
theorem i_102_12 : q_dec 102 12 = some (12, .iconst 0, 1) := by decide +kernel
theorem i_102_13 : q_dec 102 13 = some (12, .putfield 144, 3) := by decide +kernel
theorem i_102_16 : q_dec 102 16 = some (12, .aload_n 0, 1) := by decide +kernel
theorem i_102_17 : q_dec 102 17 = some (12, .iconst 4, 1) := by decide +kernel
theorem i_102_18 : q_dec 102 18 = some (12, .putfield 120, 3) := by decide +kernel
theorem i_102_21 : q_dec 102 21 = some (12, .aload_n 0, 1) := by decide +kernel
theorem i_102_22 : q_dec 102 22 = some (12, .iconst 3, 1) := by decide +kernel
theorem i_102_23 : q_dec 102 23 = some (12, .putfield 126, 3) := by decide +kernel
theorem i_102_26 : q_dec 102 26 = some (12, .aload_n 0, 1) := by decide +kernel
theorem i_102_27 : q_dec 102 27 = some (12, .iconst 0, 1) := by decide +kernel
theorem i_102_28 : q_dec 102 28 = some (12, .putfield 129, 3) := by decide +kernel
theorem i_102_31 : q_dec 102 31 = some (12, .aload_n 0, 1) := by decide +kernel
theorem i_102_32 : q_dec 102 32 = some (12, .iconst 0, 1) := by decide +kernel
theorem i_102_33 : q_dec 102 33 = some (12, .putfield 132, 3) := by decide +kernel
theorem i_102_36 : q_dec 102 36 = some (12, .aload_n 0, 1) := by decide +kernel
theorem i_102_37 : q_dec 102 37 = some (12, .getfield 42, 3) := by decide +kernel
theorem i_102_40 : q_dec 102 40 = some (12, .iconst 0, 1) := by decide +kernel
theorem i_102_41 : q_dec 102 41 = some (12, .iconst 1, 1) := by decide +kernel
theorem i_102_42 : q_dec 102 42 = some (12, .iastore, 1) := by decide +kernel
theorem i_102_43 : q_dec 102 43 = some (12, .aload_n 0, 1) := by decide +kernel
theorem i_102_44 : q_dec 102 44 = some (12, .getfield 42, 3) := by decide +kernel
theorem i_102_47 : q_dec 102 47 = some (12, .iconst 1, 1) := by decide +kernel
theorem i_102_48 : q_dec 102 48 = some (12, .iconst 1, 1) := by decide +kernel
theorem i_102_49 : q_dec 102 49 = some (12, .iastore, 1) := by decide +kernel
theorem i_102_50 : q_dec 102 50 = some (12, .aload_n 0, 1) := by decide +kernel
theorem i_102_51 : q_dec 102 51 = some (12, .getfield 42, 3) := by decide +kernel
theorem i_102_54 : q_dec 102 54 = some (12, .iconst 2, 1) := by decide +kernel
theorem i_102_55 : q_dec 102 55 = some (12, .iconst 2, 1) := by decide +kernel
theorem i_102_56 : q_dec 102 56 = some (12, .iastore, 1) := by decide +kernel
theorem i_102_57 : q_dec 102 57 = some (12, .aload_n 0, 1) := by decide +kernel
theorem i_102_58 : q_dec 102 58 = some (12, .getfield 42, 3) := by decide +kernel
theorem i_102_61 : q_dec 102 61 = some (12, .iconst 3, 1) := by decide +kernel
theorem i_102_62 : q_dec 102 62 = some (12, .iconst 0, 1) := by decide +kernel
theorem i_102_63 : q_dec 102 63 = some (12, .iastore, 1) := by decide +kernel
theorem i_102_64 : q_dec 102 64 = some (12, .aload_n 0, 1) := by decide +kernel
theorem i_102_65 : q_dec 102 65 = some (12, .getfield 42, 3) := by decide +kernel
theorem i_102_68 : q_dec 102 68 = some (12, .iconst 4, 1) := by decide +kernel
theorem i_102_69 : q_dec 102 69 = some (12, .iconst 0, 1) := by decide +kernel
theorem i_102_70 : q_dec 102 70 = some (12, .iastore, 1) := by decide +kernel
theorem i_102_71 : q_dec 102 71 = some (12, .aload_n 0, 1) := by decide +kernel
theorem i_102_72 : q_dec 102 72 = some (12, .iconst 0, 1) := by decide +kernel
theorem i_102_73 : q_dec 102 73 = some (12, .putfield 135, 3) := by decide +kernel
theorem i_102_76 : q_dec 102 76 = some (12, .aload_n 0, 1) := by decide +kernel
theorem i_102_77 : q_dec 102 77 = some (12, .getfield 97, 3) := by decide +kernel
theorem i_102_80 : q_dec 102 80 = some (12, .ifCond .ge (17), 3) := by decide +kernel
theorem i_102_83 : q_dec 102 83 = some (12, .aload_n 0, 1) := by decide +kernel
theorem i_102_84 : q_dec 102 84 = some (12, .invokevirtual 100, 3) := by decide +kernel
theorem i_102_87 : q_dec 102 87 = some (12, .ifCond .ne (10), 3) := by decide +kernel
theorem i_102_90 : q_dec 102 90 = some (12, .aload_n 0, 1) := by decide +kernel
theorem i_102_91 : q_dec 102 91 = some (12, .invokevirtual 164, 3) := by decide +kernel
theorem i_102_94 : q_dec 102 94 = some (12, .goto (-18), 3) := by decide +kernel
theorem i_102_97 : q_dec 102 97 = some (12, .aload_n 0, 1) := by decide +kernel
theorem i_102_98 : q_dec 102 98 = some (12, .getfield 97, 3) := by decide +kernel
theorem i_102_101 : q_dec 102 101 = some (12, .ifCond .lt (11), 3) := by decide +kernel
theorem i_102_104 : q_dec 102 104 = some (12, .bipush (-10), 2) := by decide +kernel
theorem i_102_106 : q_dec 102 106 = some (12, .aload_n 0, 1) := by decide +kernel
theorem i_102_107 : q_dec 102 107 = some (12, .getfield 97, 3) := by decide +kernel
theorem i_102_110 : q_dec 102 110 = some (12, .isub, 1) := by decide +kernel
theorem i_102_111 : q_dec 102 111 = some (12, .ireturn, 1) := by decide +kernel
theorem i_102_112 : q_dec 102 112 = some (12, .aload_n 0, 1) := by decide +kernel
theorem i_102_113 : q_dec 102 113 = some (12, .aload_n 0, 1) := by decide +kernel
theorem i_102_114 : q_dec 102 114 = some (12, .getfield 120, 3) := by decide +kernel
theorem i_102_117 : q_dec 102 117 = some (12, .putfield 7, 3) := by decide +kernel
theorem i_102_120 : q_dec 102 120 = some (12, .aload_n 0, 1) := by decide +kernel
theorem i_102_121 : q_dec 102 121 = some (12, .aload_n 0, 1) := by decide +kernel
theorem i_102_122 : q_dec 102 122 = some (12, .getfield 126, 3) := by decide +kernel
theorem i_102_125 : q_dec 102 125 = some (12, .putfield 13, 3) := by decide +kernel
theorem i_102_128 : q_dec 102 128 = some (12, .aload_n 0, 1) := by decide +kernel
theorem i_102_129 : q_dec 102 129 = some (12, .aload_n 0, 1) := by decide +kernel
theorem i_102_130 : q_dec 102 130 = some (12, .getfield 129, 3) := by decide +kernel
theorem i_102_133 : q_dec 102 133 = some (12, .putfield 80, 3) := by decide +kernel
theorem i_102_136 : q_dec 102 136 = some (12, .aload_n 0, 1) := by decide +kernel
theorem i_102_137 : q_dec 102 137 = some (12, .aload_n 0, 1) := by decide +kernel
theorem i_102_138 : q_dec 102 138 = some (12, .getfield 132, 3) := by decide +kernel
theorem i_102_141 : q_dec 102 141 = some (12, .putfield 167, 3) := by decide +kernel
theorem i_102_144 : q_dec 102 144 = some (12, .aload_n 0, 1) := by decide +kernel
theorem i_102_145 : q_dec 102 145 = some (12, .aload_n 0, 1) := by decide +kernel
theorem i_102_146 : q_dec 102 146 = some (12, .getfield 42, 3) := by decide +kernel
theorem i_102_149 : q_dec 102 149 = some (12, .iconst 0, 1) := by decide +kernel
theorem i_102_150 : q_dec 102 150 = some (12, .iaload, 1) := by decide +kernel
theorem i_102_151 : q_dec 102 151 = some (12, .putfield 16, 3) := by decide +kernel
theorem i_102_154 : q_dec 102 154 = some (12, .aload_n 0, 1) := by decide +kernel
theorem i_102_155 : q_dec 102 155 = some (12, .aload_n 0, 1) := by decide +kernel
theorem i_102_156 : q_dec 102 156 = some (12, .getfield 42, 3) := by decide +kernel
theorem i_102_159 : q_dec 102 159 = some (12, .iconst 1, 1) := by decide +kernel
theorem i_102_160 : q_dec 102 160 = some (12, .iaload, 1) := by decide +kernel
theorem i_102_161 : q_dec 102 161 = some (12, .putfield 19, 3) := by decide +kernel
theorem i_102_164 : q_dec 102 164 = some (12, .aload_n 0, 1) := by decide +kernel
theorem i_102_165 : q_dec 102 165 = some (12, .aload_n 0, 1) := by decide +kernel
theorem i_102_166 : q_dec 102 166 = some (12, .getfield 42, 3) := by decide +kernel
theorem i_102_169 : q_dec 102 169 = some (12, .iconst 2, 1) := by decide +kernel
theorem i_102_170 : q_dec 102 170 = some (12, .iaload, 1) := by decide +kernel
theorem i_102_171 : q_dec 102 171 = some (12, .putfield 22, 3) := by decide +kernel
theorem i_102_174 : q_dec 102 174 = some (12, .aload_n 0, 1) := by decide +kernel
theorem i_102_175 : q_dec 102 175 = some (12, .aload_n 0, 1) := by decide +kernel
theorem i_102_176 : q_dec 102 176 = some (12, .getfield 42, 3) := by decide +kernel
theorem i_102_179 : q_dec 102 179 = some (12, .iconst 3, 1) := by decide +kernel
theorem i_102_180 : q_dec 102 180 = some (12, .iaload, 1) := by decide +kernel
theorem i_102_181 : q_dec 102 181 = some (12, .putfield 170, 3) := by decide +kernel
theorem i_102_184 : q_dec 102 184 = some (12, .aload_n 0, 1) := by decide +kernel
theorem i_102_185 : q_dec 102 185 = some (12, .aload_n 0, 1) := by decide +kernel
theorem i_102_186 : q_dec 102 186 = some (12, .getfield 42, 3) := by decide +kernel
theorem i_102_189 : q_dec 102 189 = some (12, .iconst 4, 1) := by decide +kernel
theorem i_102_190 : q_dec 102 190 = some (12, .iaload, 1) := by decide +kernel
theorem i_102_191 : q_dec 102 191 = some (12, .putfield 173, 3) := by decide +kernel
theorem i_102_194 : q_dec 102 194 = some (12, .aload_n 0, 1) := by decide +kernel
theorem i_102_195 : q_dec 102 195 = some (12, .iconst 0, 1) := by decide +kernel
theorem i_102_196 : q_dec 102 196 = some (12, .putfield 89, 3) := by decide +kernel
theorem i_102_199 : q_dec 102 199 = some (12, .aload_n 0, 1) := by decide +kernel
theorem i_102_200 : q_dec 102 200 = some (12, .iconst 0, 1) := by decide +kernel
theorem i_102_201 : q_dec 102 201 = some (12, .putfield 176, 3) := by decide +kernel
theorem i_102_204 : q_dec 102 204 = some (12, .aload_n 0, 1) := by decide +kernel
theorem i_102_205 : q_dec 102 205 = some (12, .getfield 29, 3) := by decide +kernel
theorem i_102_208 : q_dec 102 208 = some (12, .iconst 0, 1) := by decide +kernel
theorem i_102_209 : q_dec 102 209 = some (12, .bipush (-9), 2) := by decide +kernel
theorem i_102_211 : q_dec 102 211 = some (12, .iastore, 1) := by decide +kernel
theorem i_102_212 : q_dec 102 212 = some (12, .aload_n 0, 1) := by decide +kernel
theorem i_102_213 : q_dec 102 213 = some (12, .getfield 29, 3) := by decide +kernel
theorem i_102_216 : q_dec 102 216 = some (12, .iconst 1, 1) := by decide +kernel
theorem i_102_217 : q_dec 102 217 = some (12, .iconst 0, 1) := by decide +kernel
theorem i_102_218 : q_dec 102 218 = some (12, .iastore, 1) := by decide +kernel
theorem i_102_219 : q_dec 102 219 = some (12, .aload_n 0, 1) := by decide +kernel
theorem i_102_220 : q_dec 102 220 = some (12, .getfield 29, 3) := by decide +kernel
theorem i_102_223 : q_dec 102 223 = some (12, .iconst 2, 1) := by decide +kernel
theorem i_102_224 : q_dec 102 224 = some (12, .iconst 0, 1) := by decide +kernel
theorem i_102_225 : q_dec 102 225 = some (12, .iastore, 1) := by decide +kernel
theorem i_102_226 : q_dec 102 226 = some (12, .aload_n 0, 1) := by decide +kernel
theorem i_102_227 : q_dec 102 227 = some (12, .getfield 29, 3) := by decide +kernel
theorem i_102_230 : q_dec 102 230 = some (12, .iconst 3, 1) := by decide +kernel
theorem i_102_231 : q_dec 102 231 = some (12, .iconst 0, 1) := by decide +kernel
theorem i_102_232 : q_dec 102 232 = some (12, .iastore, 1) := by decide +kernel
theorem i_102_233 : q_dec 102 233 = some (12, .aload_n 0, 1) := by decide +kernel
theorem i_102_234 : q_dec 102 234 = some (12, .getfield 32, 3) := by decide +kernel
theorem i_102_237 : q_dec 102 237 = some (12, .iconst 0, 1) := by decide +kernel
theorem i_102_238 : q_dec 102 238 = some (12, .iconst 0, 1) := by decide +kernel
theorem i_102_239 : q_dec 102 239 = some (12, .bastore, 1) := by decide +kernel
theorem i_102_240 : q_dec 102 240 = some (12, .aload_n 0, 1) := by decide +kernel
theorem i_102_241 : q_dec 102 241 = some (12, .getfield 32, 3) := by decide +kernel
theorem i_102_244 : q_dec 102 244 = some (12, .iconst 1, 1) := by decide +kernel
theorem i_102_245 : q_dec 102 245 = some (12, .iconst 0, 1) := by decide +kernel
theorem i_102_246 : q_dec 102 246 = some (12, .bastore, 1) := by decide +kernel
theorem i_102_247 : q_dec 102 247 = some (12, .aload_n 0, 1) := by decide +kernel
theorem i_102_248 : q_dec 102 248 = some (12, .getfield 144, 3) := by decide +kernel
theorem i_102_251 : q_dec 102 251 = some (12, .ireturn, 1) := by decide +kernel
theorem i_103_0 : q_dec 103 0 = some (12, .aload_n 0, 1) := by decide +kernel
theorem i_103_1 : q_dec 103 1 = some (12, .getfield 94, 3) := by decide +kernel
theorem i_103_4 : q_dec 103 4 = some (12, .aload_n 0, 1) := by decide +kernel
theorem i_103_5 : q_dec 103 5 = some (12, .getfield 89, 3) := by decide +kernel
theorem i_103_8 : q_dec 103 8 = some (12, .if_icmp .ge (30), 3) := by decide +kernel
theorem i_103_11 : q_dec 103 11 = some (12, .aload_n 0, 1) := by decide +kernel
theorem i_103_12 : q_dec 103 12 = some (12, .getfield 25, 3) := by decide +kernel
theorem i_103_15 : q_dec 103 15 = some (12, .aload_n 0, 1) := by decide +kernel
theorem i_103_16 : q_dec 103 16 = some (12, .getfield 94, 3) := by decide +kernel
theorem i_103_19 : q_dec 103 19 = some (12, .iaload, 1) := by decide +kernel
theorem i_103_20 : q_dec 103 20 = some (12, .bipush 32, 2) := by decide +kernel
theorem i_103_22 : q_dec 103 22 = some (12, .if_icmp .ne (16), 3) := by decide +kernel
theorem i_103_25 : q_dec 103 25 = some (12, .aload_n 0, 1) := by decide +kernel
theorem i_103_26 : q_dec 103 26 = some (12, .dup, 1) := by decide +kernel
theorem i_103_27 : q_dec 103 27 = some (12, .getfield 94, 3) := by decide +kernel
theorem i_103_30 : q_dec 103 30 = some (12, .iconst 1, 1) := by decide +kernel
theorem i_103_31 : q_dec 103 31 = some (12, .iadd, 1) := by decide +kernel
theorem i_103_32 : q_dec 103 32 = some (12, .putfield 94, 3) := by decide +kernel
theorem i_103_35 : q_dec 103 35 = some (12, .goto (-35), 3) := by decide +kernel
theorem i_103_38 : q_dec 103 38 = some (12, .aload_n 0, 1) := by decide +kernel
theorem i_103_39 : q_dec 103 39 = some (12, .getfield 94, 3) := by decide +kernel
theorem i_103_42 : q_dec 103 42 = some (12, .aload_n 0, 1) := by decide +kernel
theorem i_103_43 : q_dec 103 43 = some (12, .getfield 89, 3) := by decide +kernel
theorem i_103_46 : q_dec 103 46 = some (12, .if_icmp .ne (7), 3) := by decide +kernel
theorem i_103_49 : q_dec 103 49 = some (12, .iconst 1, 1) := by decide +kernel
theorem i_103_50 : q_dec 103 50 = some (12, .goto 4, 3) := by decide +kernel
theorem i_103_53 : q_dec 103 53 = some (12, .iconst 0, 1) := by decide +kernel
theorem i_103_54 : q_dec 103 54 = some (12, .ireturn, 1) := by decide +kernel
theorem i_104_0 : q_dec 104 0 = some (12, .aload_n 0, 1) := by decide +kernel
theorem i_104_1 : q_dec 104 1 = some (12, .getfield 94, 3) := by decide +kernel
theorem i_104_4 : q_dec 104 4 = some (12, .istore_n 1, 1) := by decide +kernel
theorem i_104_5 : q_dec 104 5 = some (12, .aload_n 0, 1) := by decide +kernel
theorem i_104_6 : q_dec 104 6 = some (12, .invokevirtual 138, 3) := by decide +kernel
theorem i_104_9 : q_dec 104 9 = some (12, .lstore_n 2, 1) := by decide +kernel
theorem i_104_10 : q_dec 104 10 = some (12, .lload_n 2, 1) := by decide +kernel
theorem i_104_11 : q_dec 104 11 = some (12, .ldc2_w 142, 3) := by decide +kernel
theorem i_104_14 : q_dec 104 14 = some (12, .lcmp, 1) := by decide +kernel
theorem i_104_15 : q_dec 104 15 = some (12, .ifCond .ne (33), 3) := by decide +kernel
theorem i_104_18 : q_dec 104 18 = some (12, .aload_n 0, 1) := by decide +kernel
theorem i_104_19 : q_dec 104 19 = some (12, .getfield 144, 3) := by decide +kernel
theorem i_104_22 : q_dec 104 22 = some (12, .ifCond .ne (26), 3) := by decide +kernel
theorem i_104_25 : q_dec 104 25 = some (12, .aload_n 0, 1) := by decide +kernel
theorem i_104_26 : q_dec 104 26 = some (12, .aload_n 0, 1) := by decide +kernel
theorem i_104_27 : q_dec 104 27 = some (12, .iconst 2, 1) := by decide +kernel
theorem i_104_28 : q_dec 104 28 = some (12, .iconst 5, 1) := by decide +kernel
theorem i_104_29 : q_dec 104 29 = some (12, .invokevirtual 123, 3) := by decide +kernel
theorem i_104_32 : q_dec 104 32 = some (12, .putfield 120, 3) := by decide +kernel
theorem i_104_35 : q_dec 104 35 = some (12, .aload_n 0, 1) := by decide +kernel
theorem i_104_36 : q_dec 104 36 = some (12, .aload_n 0, 1) := by decide +kernel
theorem i_104_37 : q_dec 104 37 = some (12, .iconst 1, 1) := by decide +kernel
theorem i_104_38 : q_dec 104 38 = some (12, .iconst 4, 1) := by decide +kernel
theorem i_104_39 : q_dec 104 39 = some (12, .invokevirtual 123, 3) := by decide +kernel
theorem i_104_42 : q_dec 104 42 = some (12, .putfield 126, 3) := by decide +kernel
theorem i_104_45 : q_dec 104 45 = some (12, .goto 165, 3) := by decide +kernel
theorem i_104_48 : q_dec 104 48 = some (12, .lload_n 2, 1) := by decide +kernel
theorem i_104_49 : q_dec 104 49 = some (12, .ldc2_w 147, 3) := by decide +kernel
theorem i_104_52 : q_dec 104 52 = some (12, .lcmp, 1) := by decide +kernel
theorem i_104_53 : q_dec 104 53 = some (12, .ifCond .eq (11), 3) := by decide +kernel
theorem i_104_56 : q_dec 104 56 = some (12, .lload_n 2, 1) := by decide +kernel
theorem i_104_57 : q_dec 104 57 = some (12, .ldc2_w 149, 3) := by decide +kernel
theorem i_104_60 : q_dec 104 60 = some (12, .lcmp, 1) := by decide +kernel
theorem i_104_61 : q_dec 104 61 = some (12, .ifCond .ne (23), 3) := by decide +kernel
theorem i_104_64 : q_dec 104 64 = some (12, .aload_n 0, 1) := by decide +kernel
theorem i_104_65 : q_dec 104 65 = some (12, .lload_n 2, 1) := by decide +kernel
theorem i_104_66 : q_dec 104 66 = some (12, .ldc2_w 147, 3) := by decide +kernel
theorem i_104_69 : q_dec 104 69 = some (12, .lcmp, 1) := by decide +kernel
theorem i_104_70 : q_dec 104 70 = some (12, .ifCond .ne (7), 3) := by decide +kernel
theorem i_104_73 : q_dec 104 73 = some (12, .iconst 1, 1) := by decide +kernel
theorem i_104_74 : q_dec 104 74 = some (12, .goto 4, 3) := by decide +kernel
theorem i_104_77 : q_dec 104 77 = some (12, .iconst 0, 1) := by decide +kernel
theorem i_104_78 : q_dec 104 78 = some (12, .invokevirtual 151, 3) := by decide +kernel
theorem i_104_81 : q_dec 104 81 = some (12, .goto 129, 3) := by decide +kernel
theorem i_104_84 : q_dec 104 84 = some (12, .lload_n 2, 1) := by decide +kernel
theorem i_104_85 : q_dec 104 85 = some (12, .ldc2_w 155, 3) := by decide +kernel
theorem i_104_88 : q_dec 104 88 = some (12, .lcmp, 1) := by decide +kernel
theorem i_104_89 : q_dec 104 89 = some (12, .ifCond .ne (52), 3) := by decide +kernel
theorem i_104_92 : q_dec 104 92 = some (12, .aload_n 0, 1) := by decide +kernel
theorem i_104_93 : q_dec 104 93 = some (12, .iconst 0, 1) := by decide +kernel
theorem i_104_94 : q_dec 104 94 = some (12, .iload_n 1, 1) := by decide +kernel
theorem i_104_95 : q_dec 104 95 = some (12, .invokevirtual 157, 3) := by decide +kernel
theorem i_104_98 : q_dec 104 98 = some (12, .ifCond .ne (112), 3) := by decide +kernel
theorem i_104_101 : q_dec 104 101 = some (12, .aload_n 0, 1) := by decide +kernel
theorem i_104_102 : q_dec 104 102 = some (12, .getfield 42, 3) := by decide +kernel
theorem i_104_105 : q_dec 104 105 = some (12, .iconst 0, 1) := by decide +kernel
theorem i_104_106 : q_dec 104 106 = some (12, .aload_n 0, 1) := by decide +kernel
theorem i_104_107 : q_dec 104 107 = some (12, .iconst 0, 1) := by decide +kernel
theorem i_104_108 : q_dec 104 108 = some (12, .iconst 4, 1) := by decide +kernel
theorem i_104_109 : q_dec 104 109 = some (12, .invokevirtual 123, 3) := by decide +kernel
theorem i_104_112 : q_dec 104 112 = some (12, .iastore, 1) := by decide +kernel
theorem i_104_113 : q_dec 104 113 = some (12, .aload_n 0, 1) := by decide +kernel
theorem i_104_114 : q_dec 104 114 = some (12, .getfield 42, 3) := by decide +kernel
theorem i_104_117 : q_dec 104 117 = some (12, .iconst 1, 1) := by decide +kernel
theorem i_104_118 : q_dec 104 118 = some (12, .aload_n 0, 1) := by decide +kernel
theorem i_104_119 : q_dec 104 119 = some (12, .iconst 1, 1) := by decide +kernel
theorem i_104_120 : q_dec 104 120 = some (12, .bipush 9, 2) := by decide +kernel
theorem i_104_122 : q_dec 104 122 = some (12, .invokevirtual 123, 3) := by decide +kernel
theorem i_104_125 : q_dec 104 125 = some (12, .iastore, 1) := by decide +kernel
theorem i_104_126 : q_dec 104 126 = some (12, .aload_n 0, 1) := by decide +kernel
theorem i_104_127 : q_dec 104 127 = some (12, .getfield 42, 3) := by decide +kernel
theorem i_104_130 : q_dec 104 130 = some (12, .iconst 2, 1) := by decide +kernel
theorem i_104_131 : q_dec 104 131 = some (12, .aload_n 0, 1) := by decide +kernel
theorem i_104_132 : q_dec 104 132 = some (12, .iconst 0, 1) := by decide +kernel
theorem i_104_133 : q_dec 104 133 = some (12, .iconst 2, 1) := by decide +kernel
theorem i_104_134 : q_dec 104 134 = some (12, .invokevirtual 123, 3) := by decide +kernel
theorem i_104_137 : q_dec 104 137 = some (12, .iastore, 1) := by decide +kernel
theorem i_104_138 : q_dec 104 138 = some (12, .goto 72, 3) := by decide +kernel
theorem i_104_141 : q_dec 104 141 = some (12, .lload_n 2, 1) := by decide +kernel
theorem i_104_142 : q_dec 104 142 = some (12, .ldc2_w 160, 3) := by decide +kernel
theorem i_104_145 : q_dec 104 145 = some (12, .lcmp, 1) := by decide +kernel
theorem i_104_146 : q_dec 104 146 = some (12, .ifCond .ne (26), 3) := by decide +kernel
theorem i_104_149 : q_dec 104 149 = some (12, .aload_n 0, 1) := by decide +kernel
theorem i_104_150 : q_dec 104 150 = some (12, .getfield 42, 3) := by decide +kernel
theorem i_104_153 : q_dec 104 153 = some (12, .iconst 3, 1) := by decide +kernel
theorem i_104_154 : q_dec 104 154 = some (12, .aload_n 0, 1) := by decide +kernel
theorem i_104_155 : q_dec 104 155 = some (12, .iconst 1, 1) := by decide +kernel
theorem i_104_156 : q_dec 104 156 = some (12, .iload_n 1, 1) := by decide +kernel
theorem i_104_157 : q_dec 104 157 = some (12, .invokevirtual 157, 3) := by decide +kernel
theorem i_104_160 : q_dec 104 160 = some (12, .ifCond .eq (7), 3) := by decide +kernel
theorem i_104_163 : q_dec 104 163 = some (12, .iconst 0, 1) := by decide +kernel
theorem i_104_164 : q_dec 104 164 = some (12, .goto 4, 3) := by decide +kernel
theorem i_104_167 : q_dec 104 167 = some (12, .iconst 1, 1) := by decide +kernel
theorem i_104_168 : q_dec 104 168 = some (12, .iastore, 1) := by decide +kernel
theorem i_104_169 : q_dec 104 169 = some (12, .goto 41, 3) := by decide +kernel
theorem i_104_172 : q_dec 104 172 = some (12, .lload_n 2, 1) := by decide +kernel
theorem i_104_173 : q_dec 104 173 = some (12, .ldc2_w 162, 3) := by decide +kernel
theorem i_104_176 : q_dec 104 176 = some (12, .lcmp, 1) := by decide +kernel
theorem i_104_177 : q_dec 104 177 = some (12, .ifCond .ne (28), 3) := by decide +kernel
theorem i_104_180 : q_dec 104 180 = some (12, .aload_n 0, 1) := by decide +kernel
theorem i_104_181 : q_dec 104 181 = some (12, .iconst 2, 1) := by decide +kernel
theorem i_104_182 : q_dec 104 182 = some (12, .iload_n 1, 1) := by decide +kernel
theorem i_104_183 : q_dec 104 183 = some (12, .invokevirtual 157, 3) := by decide +kernel
theorem i_104_186 : q_dec 104 186 = some (12, .ifCond .ne (24), 3) := by decide +kernel
theorem i_104_189 : q_dec 104 189 = some (12, .aload_n 0, 1) := by decide +kernel
theorem i_104_190 : q_dec 104 190 = some (12, .getfield 42, 3) := by decide +kernel
theorem i_104_193 : q_dec 104 193 = some (12, .iconst 4, 1) := by decide +kernel
theorem i_104_194 : q_dec 104 194 = some (12, .aload_n 0, 1) := by decide +kernel
theorem i_104_195 : q_dec 104 195 = some (12, .iconst 0, 1) := by decide +kernel
theorem i_104_196 : q_dec 104 196 = some (12, .bipush 9, 2) := by decide +kernel
theorem i_104_198 : q_dec 104 198 = some (12, .invokevirtual 123, 3) := by decide +kernel
theorem i_104_201 : q_dec 104 201 = some (12, .iastore, 1) := by decide +kernel
theorem i_104_202 : q_dec 104 202 = some (12, .goto 8, 3) := by decide +kernel
theorem i_104_205 : q_dec 104 205 = some (12, .aload_n 0, 1) := by decide +kernel
theorem i_104_206 : q_dec 104 206 = some (12, .iload_n 1, 1) := by decide +kernel
theorem i_104_207 : q_dec 104 207 = some (12, .putfield 97, 3) := by decide +kernel
theorem i_104_210 : q_dec 104 210 = some (12, .aload_n 0, 1) := by decide +kernel
theorem i_104_211 : q_dec 104 211 = some (12, .getfield 97, 3) := by decide +kernel
theorem i_104_214 : q_dec 104 214 = some (12, .ifCond .ge (32), 3) := by decide +kernel
theorem i_104_217 : q_dec 104 217 = some (12, .aload_n 0, 1) := by decide +kernel
theorem i_104_218 : q_dec 104 218 = some (12, .invokevirtual 100, 3) := by decide +kernel
theorem i_104_221 : q_dec 104 221 = some (12, .ifCond .ne (17), 3) := by decide +kernel
theorem i_104_224 : q_dec 104 224 = some (12, .aload_n 0, 1) := by decide +kernel
theorem i_104_225 : q_dec 104 225 = some (12, .getfield 25, 3) := by decide +kernel
theorem i_104_228 : q_dec 104 228 = some (12, .aload_n 0, 1) := by decide +kernel
theorem i_104_229 : q_dec 104 229 = some (12, .getfield 94, 3) := by decide +kernel
theorem i_104_232 : q_dec 104 232 = some (12, .iaload, 1) := by decide +kernel
theorem i_104_233 : q_dec 104 233 = some (12, .bipush 59, 2) := by decide +kernel
theorem i_104_235 : q_dec 104 235 = some (12, .if_icmp .eq (11), 3) := by decide +kernel
theorem i_104_238 : q_dec 104 238 = some (12, .aload_n 0, 1) := by decide +kernel
theorem i_104_239 : q_dec 104 239 = some (12, .aload_n 0, 1) := by decide +kernel
theorem i_104_240 : q_dec 104 240 = some (12, .getfield 94, 3) := by decide +kernel
theorem i_104_243 : q_dec 104 243 = some (12, .putfield 97, 3) := by decide +kernel
theorem i_104_246 : q_dec 104 246 = some (12, .aload_n 0, 1) := by decide +kernel
theorem i_104_247 : q_dec 104 247 = some (12, .dup, 1) := by decide +kernel
theorem i_104_248 : q_dec 104 248 = some (12, .getfield 94, 3) := by decide +kernel
theorem i_104_251 : q_dec 104 251 = some (12, .iconst 1, 1) := by decide +kernel
theorem i_104_252 : q_dec 104 252 = some (12, .iadd, 1) := by decide +kernel
theorem i_104_253 : q_dec 104 253 = some (12, .putfield 94, 3) := by decide +kernel
theorem i_104_256 : q_dec 104 256 = some (12, .aload_n 0, 1) := by decide +kernel
theorem i_104_257 : q_dec 104 257 = some (12, .dup, 1) := by decide +kernel
theorem i_104_258 : q_dec 104 258 = some (12, .getfield 144, 3) := by decide +kernel
theorem i_104_261 : q_dec 104 261 = some (12, .iconst 1, 1) := by decide +kernel
theorem i_104_262 : q_dec 104 262 = some (12, .iadd, 1) := by decide +kernel
theorem i_104_263 : q_dec 104 263 = some (12, .putfield 144, 3) := by decide +kernel
theorem i_104_266 : q_dec 104 266 = some (12, .return_, 1) := by decide +kernel
theorem i_105_0 : q_dec 105 0 = some (12, .lconst 0, 1) := by decide +kernel
theorem i_105_1 : q_dec 105 1 = some (12, .lstore_n 1, 1) := by decide +kernel
theorem i_105_2 : q_dec 105 2 = some (12, .aload_n 0, 1) := by decide +kernel
theorem i_105_3 : q_dec 105 3 = some (12, .getfield 94, 3) := by decide +kernel
theorem i_105_6 : q_dec 105 6 = some (12, .istore_n 3, 1) := by decide +kernel
theorem i_105_7 : q_dec 105 7 = some (12, .aload_n 0, 1) := by decide +kernel
theorem i_105_8 : q_dec 105 8 = some (12, .getfield 94, 3) := by decide +kernel
theorem i_105_11 : q_dec 105 11 = some (12, .aload_n 0, 1) := by decide +kernel
theorem i_105_12 : q_dec 105 12 = some (12, .getfield 89, 3) := by decide +kernel
theorem i_105_15 : q_dec 105 15 = some (12, .if_icmp .ge (74), 3) := by decide +kernel
theorem i_105_18 : q_dec 105 18 = some (12, .aload_n 0, 1) := by decide +kernel
theorem i_105_19 : q_dec 105 19 = some (12, .getfield 25, 3) := by decide +kernel
theorem i_105_22 : q_dec 105 22 = some (12, .aload_n 0, 1) := by decide +kernel
theorem i_105_23 : q_dec 105 23 = some (12, .getfield 94, 3) := by decide +kernel
theorem i_105_26 : q_dec 105 26 = some (12, .iaload, 1) := by decide +kernel
theorem i_105_27 : q_dec 105 27 = some (12, .i2l, 1) := by decide +kernel
theorem i_105_28 : q_dec 105 28 = some (12, .ldc2_w 112, 3) := by decide +kernel
theorem i_105_31 : q_dec 105 31 = some (12, .ldc2_w 114, 3) := by decide +kernel
theorem i_105_34 : q_dec 105 34 = some (12, .invokestatic 72, 3) := by decide +kernel
theorem i_105_37 : q_dec 105 37 = some (12, .ifCond .eq (52), 3) := by decide +kernel
theorem i_105_40 : q_dec 105 40 = some (12, .aload_n 0, 1) := by decide +kernel
theorem i_105_41 : q_dec 105 41 = some (12, .getfield 94, 3) := by decide +kernel
theorem i_105_44 : q_dec 105 44 = some (12, .iload_n 3, 1) := by decide +kernel
theorem i_105_45 : q_dec 105 45 = some (12, .isub, 1) := by decide +kernel
theorem i_105_46 : q_dec 105 46 = some (12, .bipush 7, 2) := by decide +kernel
theorem i_105_48 : q_dec 105 48 = some (12, .if_icmp .ge (26), 3) := by decide +kernel
theorem i_105_51 : q_dec 105 51 = some (12, .ldc2_w 116, 3) := by decide +kernel
theorem i_105_54 : q_dec 105 54 = some (12, .lload_n 1, 1) := by decide +kernel
theorem i_105_55 : q_dec 105 55 = some (12, .lmul, 1) := by decide +kernel
theorem i_105_56 : q_dec 105 56 = some (12, .aload_n 0, 1) := by decide +kernel
theorem i_105_57 : q_dec 105 57 = some (12, .getfield 25, 3) := by decide +kernel
theorem i_105_60 : q_dec 105 60 = some (12, .aload_n 0, 1) := by decide +kernel
theorem i_105_61 : q_dec 105 61 = some (12, .getfield 94, 3) := by decide +kernel
theorem i_105_64 : q_dec 105 64 = some (12, .iaload, 1) := by decide +kernel
theorem i_105_65 : q_dec 105 65 = some (12, .i2l, 1) := by decide +kernel
theorem i_105_66 : q_dec 105 66 = some (12, .ladd, 1) := by decide +kernel
theorem i_105_67 : q_dec 105 67 = some (12, .ldc2_w 118, 3) := by decide +kernel
theorem i_105_70 : q_dec 105 70 = some (12, .lsub, 1) := by decide +kernel
theorem i_105_71 : q_dec 105 71 = some (12, .goto 4, 3) := by decide +kernel
theorem i_105_74 : q_dec 105 74 = some (12, .lload_n 1, 1) := by decide +kernel
theorem i_105_75 : q_dec 105 75 = some (12, .lstore_n 1, 1) := by decide +kernel
theorem i_105_76 : q_dec 105 76 = some (12, .aload_n 0, 1) := by decide +kernel
theorem i_105_77 : q_dec 105 77 = some (12, .dup, 1) := by decide +kernel
theorem i_105_78 : q_dec 105 78 = some (12, .getfield 94, 3) := by decide +kernel
theorem i_105_81 : q_dec 105 81 = some (12, .iconst 1, 1) := by decide +kernel
theorem i_105_82 : q_dec 105 82 = some (12, .iadd, 1) := by decide +kernel
theorem i_105_83 : q_dec 105 83 = some (12, .putfield 94, 3) := by decide +kernel
theorem i_105_86 : q_dec 105 86 = some (12, .goto (-79), 3) := by decide +kernel
theorem i_105_89 : q_dec 105 89 = some (12, .lload_n 1, 1) := by decide +kernel
theorem i_105_90 : q_dec 105 90 = some (12, .lreturn, 1) := by decide +kernel
theorem i_106_0 : q_dec 106 0 = some (12, .aload_n 0, 1) := by decide +kernel
theorem i_106_1 : q_dec 106 1 = some (12, .getfield 97, 3) := by decide +kernel
theorem i_106_4 : q_dec 106 4 = some (12, .ifCond .lt (5), 3) := by decide +kernel
theorem i_106_7 : q_dec 106 7 = some (12, .iload_n 1, 1) := by decide +kernel
theorem i_106_8 : q_dec 106 8 = some (12, .ireturn, 1) := by decide +kernel
theorem i_106_9 : q_dec 106 9 = some (12, .aload_n 0, 1) := by decide +kernel
theorem i_106_10 : q_dec 106 10 = some (12, .invokevirtual 100, 3) := by decide +kernel
theorem i_106_13 : q_dec 106 13 = some (12, .ifCond .eq (13), 3) := by decide +kernel
theorem i_106_16 : q_dec 106 16 = some (12, .aload_n 0, 1) := by decide +kernel
theorem i_106_17 : q_dec 106 17 = some (12, .aload_n 0, 1) := by decide +kernel
theorem i_106_18 : q_dec 106 18 = some (12, .getfield 89, 3) := by decide +kernel
theorem i_106_21 : q_dec 106 21 = some (12, .putfield 97, 3) := by decide +kernel
theorem i_106_24 : q_dec 106 24 = some (12, .iload_n 1, 1) := by decide +kernel
theorem i_106_25 : q_dec 106 25 = some (12, .ireturn, 1) := by decide +kernel
theorem i_106_26 : q_dec 106 26 = some (12, .aload_n 0, 1) := by decide +kernel
theorem i_106_27 : q_dec 106 27 = some (12, .getfield 94, 3) := by decide +kernel
theorem i_106_30 : q_dec 106 30 = some (12, .istore_n 3, 1) := by decide +kernel
theorem i_106_31 : q_dec 106 31 = some (12, .iconst 0, 1) := by decide +kernel
theorem i_106_32 : q_dec 106 32 = some (12, .istore 4, 2) := by decide +kernel
theorem i_106_34 : q_dec 106 34 = some (12, .aload_n 0, 1) := by decide +kernel
theorem i_106_35 : q_dec 106 35 = some (12, .getfield 94, 3) := by decide +kernel
theorem i_106_38 : q_dec 106 38 = some (12, .aload_n 0, 1) := by decide +kernel
theorem i_106_39 : q_dec 106 39 = some (12, .getfield 89, 3) := by decide +kernel
theorem i_106_42 : q_dec 106 42 = some (12, .if_icmp .ge (64), 3) := by decide +kernel
theorem i_106_45 : q_dec 106 45 = some (12, .aload_n 0, 1) := by decide +kernel
theorem i_106_46 : q_dec 106 46 = some (12, .getfield 25, 3) := by decide +kernel
theorem i_106_49 : q_dec 106 49 = some (12, .aload_n 0, 1) := by decide +kernel
theorem i_106_50 : q_dec 106 50 = some (12, .getfield 94, 3) := by decide +kernel
theorem i_106_53 : q_dec 106 53 = some (12, .iaload, 1) := by decide +kernel
theorem i_106_54 : q_dec 106 54 = some (12, .i2l, 1) := by decide +kernel
theorem i_106_55 : q_dec 106 55 = some (12, .ldc2_w 104, 3) := by decide +kernel
theorem i_106_58 : q_dec 106 58 = some (12, .ldc2_w 106, 3) := by decide +kernel
theorem i_106_61 : q_dec 106 61 = some (12, .invokestatic 72, 3) := by decide +kernel
theorem i_106_64 : q_dec 106 64 = some (12, .ifCond .eq (42), 3) := by decide +kernel
theorem i_106_67 : q_dec 106 67 = some (12, .bipush 10, 2) := by decide +kernel
theorem i_106_69 : q_dec 106 69 = some (12, .iload 4, 2) := by decide +kernel
theorem i_106_71 : q_dec 106 71 = some (12, .imul, 1) := by decide +kernel
theorem i_106_72 : q_dec 106 72 = some (12, .aload_n 0, 1) := by decide +kernel
theorem i_106_73 : q_dec 106 73 = some (12, .getfield 25, 3) := by decide +kernel
theorem i_106_76 : q_dec 106 76 = some (12, .aload_n 0, 1) := by decide +kernel
theorem i_106_77 : q_dec 106 77 = some (12, .getfield 94, 3) := by decide +kernel
theorem i_106_80 : q_dec 106 80 = some (12, .iaload, 1) := by decide +kernel
theorem i_106_81 : q_dec 106 81 = some (12, .iadd, 1) := by decide +kernel
theorem i_106_82 : q_dec 106 82 = some (12, .bipush 48, 2) := by decide +kernel
theorem i_106_84 : q_dec 106 84 = some (12, .isub, 1) := by decide +kernel
theorem i_106_85 : q_dec 106 85 = some (12, .sipush 1000, 3) := by decide +kernel
theorem i_106_88 : q_dec 106 88 = some (12, .invokestatic 108, 3) := by decide +kernel
theorem i_106_91 : q_dec 106 91 = some (12, .istore 4, 2) := by decide +kernel
theorem i_106_93 : q_dec 106 93 = some (12, .aload_n 0, 1) := by decide +kernel
theorem i_106_94 : q_dec 106 94 = some (12, .dup, 1) := by decide +kernel
theorem i_106_95 : q_dec 106 95 = some (12, .getfield 94, 3) := by decide +kernel
theorem i_106_98 : q_dec 106 98 = some (12, .iconst 1, 1) := by decide +kernel
theorem i_106_99 : q_dec 106 99 = some (12, .iadd, 1) := by decide +kernel
theorem i_106_100 : q_dec 106 100 = some (12, .putfield 94, 3) := by decide +kernel
theorem i_106_103 : q_dec 106 103 = some (12, .goto (-69), 3) := by decide +kernel
theorem i_106_106 : q_dec 106 106 = some (12, .aload_n 0, 1) := by decide +kernel
theorem i_106_107 : q_dec 106 107 = some (12, .getfield 94, 3) := by decide +kernel
theorem i_106_110 : q_dec 106 110 = some (12, .iload_n 3, 1) := by decide +kernel
theorem i_106_111 : q_dec 106 111 = some (12, .if_icmp .le (48), 3) := by decide +kernel
theorem i_106_114 : q_dec 106 114 = some (12, .iload 4, 2) := by decide +kernel
theorem i_106_116 : q_dec 106 116 = some (12, .bipush 100, 2) := by decide +kernel
theorem i_106_118 : q_dec 106 118 = some (12, .if_icmp .ge (41), 3) := by decide +kernel
theorem i_106_121 : q_dec 106 121 = some (12, .aload_n 0, 1) := by decide +kernel
theorem i_106_122 : q_dec 106 122 = some (12, .getfield 94, 3) := by decide +kernel
theorem i_106_125 : q_dec 106 125 = some (12, .iload_n 3, 1) := by decide +kernel
theorem i_106_126 : q_dec 106 126 = some (12, .isub, 1) := by decide +kernel
theorem i_106_127 : q_dec 106 127 = some (12, .iconst 1, 1) := by decide +kernel
theorem i_106_128 : q_dec 106 128 = some (12, .if_icmp .eq (14), 3) := by decide +kernel
theorem i_106_131 : q_dec 106 131 = some (12, .aload_n 0, 1) := by decide +kernel
theorem i_106_132 : q_dec 106 132 = some (12, .getfield 25, 3) := by decide +kernel
theorem i_106_135 : q_dec 106 135 = some (12, .iload_n 3, 1) := by decide +kernel
theorem i_106_136 : q_dec 106 136 = some (12, .iaload, 1) := by decide +kernel
theorem i_106_137 : q_dec 106 137 = some (12, .bipush 48, 2) := by decide +kernel
theorem i_106_139 : q_dec 106 139 = some (12, .if_icmp .eq (20), 3) := by decide +kernel
theorem i_106_142 : q_dec 106 142 = some (12, .iload 4, 2) := by decide +kernel
theorem i_106_144 : q_dec 106 144 = some (12, .i2l, 1) := by decide +kernel
theorem i_106_145 : q_dec 106 145 = some (12, .iload_n 1, 1) := by decide +kernel
theorem i_106_146 : q_dec 106 146 = some (12, .i2l, 1) := by decide +kernel
theorem i_106_147 : q_dec 106 147 = some (12, .iload_n 2, 1) := by decide +kernel
theorem i_106_148 : q_dec 106 148 = some (12, .i2l, 1) := by decide +kernel
theorem i_106_149 : q_dec 106 149 = some (12, .invokestatic 72, 3) := by decide +kernel
theorem i_106_152 : q_dec 106 152 = some (12, .ifCond .eq (7), 3) := by decide +kernel
theorem i_106_155 : q_dec 106 155 = some (12, .iconst 1, 1) := by decide +kernel
theorem i_106_156 : q_dec 106 156 = some (12, .goto 4, 3) := by decide +kernel
theorem i_106_159 : q_dec 106 159 = some (12, .iconst 0, 1) := by decide +kernel
theorem i_106_160 : q_dec 106 160 = some (12, .istore 5, 2) := by decide +kernel
theorem i_106_162 : q_dec 106 162 = some (12, .aload_n 0, 1) := by decide +kernel
theorem i_106_163 : q_dec 106 163 = some (12, .iload 5, 2) := by decide +kernel
theorem i_106_165 : q_dec 106 165 = some (12, .ifCond .eq (10), 3) := by decide +kernel
theorem i_106_168 : q_dec 106 168 = some (12, .aload_n 0, 1) := by decide +kernel
theorem i_106_169 : q_dec 106 169 = some (12, .getfield 97, 3) := by decide +kernel
theorem i_106_172 : q_dec 106 172 = some (12, .goto 4, 3) := by decide +kernel
theorem i_106_175 : q_dec 106 175 = some (12, .iload_n 3, 1) := by decide +kernel
theorem i_106_176 : q_dec 106 176 = some (12, .putfield 97, 3) := by decide +kernel
theorem i_106_179 : q_dec 106 179 = some (12, .iload 5, 2) := by decide +kernel
theorem i_106_181 : q_dec 106 181 = some (12, .ifCond .eq (8), 3) := by decide +kernel
theorem i_106_184 : q_dec 106 184 = some (12, .iload 4, 2) := by decide +kernel
theorem i_106_186 : q_dec 106 186 = some (12, .goto 4, 3) := by decide +kernel
theorem i_106_189 : q_dec 106 189 = some (12, .iload_n 1, 1) := by decide +kernel
theorem i_106_190 : q_dec 106 190 = some (12, .ireturn, 1) := by decide +kernel
theorem i_107_0 : q_dec 107 0 = some (12, .iload_n 0, 1) := by decide +kernel
theorem i_107_1 : q_dec 107 1 = some (12, .iload_n 1, 1) := by decide +kernel
theorem i_107_2 : q_dec 107 2 = some (12, .if_icmp .ge (7), 3) := by decide +kernel
theorem i_107_5 : q_dec 107 5 = some (12, .iload_n 0, 1) := by decide +kernel
theorem i_107_6 : q_dec 107 6 = some (12, .goto 4, 3) := by decide +kernel
theorem i_107_9 : q_dec 107 9 = some (12, .iload_n 1, 1) := by decide +kernel
theorem i_107_10 : q_dec 107 10 = some (12, .ireturn, 1) := by decide +kernel
theorem i_108_0 : q_dec 108 0 = some (12, .aload_n 0, 1) := by decide +kernel
theorem i_108_1 : q_dec 108 1 = some (12, .iconst 0, 1) := by decide +kernel
theorem i_108_2 : q_dec 108 2 = some (12, .aload_n 0, 1) := by decide +kernel
theorem i_108_3 : q_dec 108 3 = some (12, .getfield 120, 3) := by decide +kernel
theorem i_108_6 : q_dec 108 6 = some (12, .iconst 1, 1) := by decide +kernel
theorem i_108_7 : q_dec 108 7 = some (12, .isub, 1) := by decide +kernel
theorem i_108_8 : q_dec 108 8 = some (12, .invokevirtual 123, 3) := by decide +kernel
theorem i_108_11 : q_dec 108 11 = some (12, .istore_n 2, 1) := by decide +kernel
theorem i_108_12 : q_dec 108 12 = some (12, .aload_n 0, 1) := by decide +kernel
theorem i_108_13 : q_dec 108 13 = some (12, .getfield 97, 3) := by decide +kernel
theorem i_108_16 : q_dec 108 16 = some (12, .ifCond .ge (18), 3) := by decide +kernel
theorem i_108_19 : q_dec 108 19 = some (12, .aload_n 0, 1) := by decide +kernel
theorem i_108_20 : q_dec 108 20 = some (12, .invokevirtual 100, 3) := by decide +kernel
theorem i_108_23 : q_dec 108 23 = some (12, .ifCond .eq (11), 3) := by decide +kernel
theorem i_108_26 : q_dec 108 26 = some (12, .aload_n 0, 1) := by decide +kernel
theorem i_108_27 : q_dec 108 27 = some (12, .aload_n 0, 1) := by decide +kernel
theorem i_108_28 : q_dec 108 28 = some (12, .getfield 89, 3) := by decide +kernel
theorem i_108_31 : q_dec 108 31 = some (12, .putfield 97, 3) := by decide +kernel
theorem i_108_34 : q_dec 108 34 = some (12, .aload_n 0, 1) := by decide +kernel
theorem i_108_35 : q_dec 108 35 = some (12, .getfield 94, 3) := by decide +kernel
theorem i_108_38 : q_dec 108 38 = some (12, .istore_n 3, 1) := by decide +kernel
theorem i_108_39 : q_dec 108 39 = some (12, .aload_n 0, 1) := by decide +kernel
theorem i_108_40 : q_dec 108 40 = some (12, .getfield 120, 3) := by decide +kernel
theorem i_108_43 : q_dec 108 43 = some (12, .aload_n 0, 1) := by decide +kernel
theorem i_108_44 : q_dec 108 44 = some (12, .iconst 0, 1) := by decide +kernel
theorem i_108_45 : q_dec 108 45 = some (12, .aload_n 0, 1) := by decide +kernel
theorem i_108_46 : q_dec 108 46 = some (12, .getfield 126, 3) := by decide +kernel
theorem i_108_49 : q_dec 108 49 = some (12, .iconst 1, 1) := by decide +kernel
theorem i_108_50 : q_dec 108 50 = some (12, .isub, 1) := by decide +kernel
theorem i_108_51 : q_dec 108 51 = some (12, .invokevirtual 123, 3) := by decide +kernel
theorem i_108_54 : q_dec 108 54 = some (12, .imul, 1) := by decide +kernel
theorem i_108_55 : q_dec 108 55 = some (12, .iload_n 2, 1) := by decide +kernel
theorem i_108_56 : q_dec 108 56 = some (12, .iadd, 1) := by decide +kernel
theorem i_108_57 : q_dec 108 57 = some (12, .istore 4, 2) := by decide +kernel
theorem i_108_59 : q_dec 108 59 = some (12, .aload_n 0, 1) := by decide +kernel
theorem i_108_60 : q_dec 108 60 = some (12, .getfield 97, 3) := by decide +kernel
theorem i_108_63 : q_dec 108 63 = some (12, .ifCond .ge (25), 3) := by decide +kernel
theorem i_108_66 : q_dec 108 66 = some (12, .aload_n 0, 1) := by decide +kernel
theorem i_108_67 : q_dec 108 67 = some (12, .getfield 129, 3) := by decide +kernel
theorem i_108_70 : q_dec 108 70 = some (12, .aload_n 0, 1) := by decide +kernel
theorem i_108_71 : q_dec 108 71 = some (12, .getfield 132, 3) := by decide +kernel
theorem i_108_74 : q_dec 108 74 = some (12, .ior, 1) := by decide +kernel
theorem i_108_75 : q_dec 108 75 = some (12, .iload 4, 2) := by decide +kernel
theorem i_108_77 : q_dec 108 77 = some (12, .invokestatic 83, 3) := by decide +kernel
theorem i_108_80 : q_dec 108 80 = some (12, .ifCond .eq (8), 3) := by decide +kernel
theorem i_108_83 : q_dec 108 83 = some (12, .aload_n 0, 1) := by decide +kernel
theorem i_108_84 : q_dec 108 84 = some (12, .iload_n 3, 1) := by decide +kernel
theorem i_108_85 : q_dec 108 85 = some (12, .putfield 97, 3) := by decide +kernel
theorem i_108_88 : q_dec 108 88 = some (12, .aload_n 0, 1) := by decide +kernel
theorem i_108_89 : q_dec 108 89 = some (12, .getfield 97, 3) := by decide +kernel
theorem i_108_92 : q_dec 108 92 = some (12, .ifCond .ge (45), 3) := by decide +kernel
theorem i_108_95 : q_dec 108 95 = some (12, .aload_n 0, 1) := by decide +kernel
theorem i_108_96 : q_dec 108 96 = some (12, .dup, 1) := by decide +kernel
theorem i_108_97 : q_dec 108 97 = some (12, .getfield 129, 3) := by decide +kernel
theorem i_108_100 : q_dec 108 100 = some (12, .iload_n 1, 1) := by decide +kernel
theorem i_108_101 : q_dec 108 101 = some (12, .ifCond .eq (10), 3) := by decide +kernel
theorem i_108_104 : q_dec 108 104 = some (12, .iconst 1, 1) := by decide +kernel
theorem i_108_105 : q_dec 108 105 = some (12, .iload 4, 2) := by decide +kernel
theorem i_108_107 : q_dec 108 107 = some (12, .ishl, 1) := by decide +kernel
theorem i_108_108 : q_dec 108 108 = some (12, .goto 4, 3) := by decide +kernel
theorem i_108_111 : q_dec 108 111 = some (12, .iconst 0, 1) := by decide +kernel
theorem i_108_112 : q_dec 108 112 = some (12, .ior, 1) := by decide +kernel
theorem i_108_113 : q_dec 108 113 = some (12, .putfield 129, 3) := by decide +kernel
theorem i_108_116 : q_dec 108 116 = some (12, .aload_n 0, 1) := by decide +kernel
theorem i_108_117 : q_dec 108 117 = some (12, .dup, 1) := by decide +kernel
theorem i_108_118 : q_dec 108 118 = some (12, .getfield 132, 3) := by decide +kernel
theorem i_108_121 : q_dec 108 121 = some (12, .iload_n 1, 1) := by decide +kernel
theorem i_108_122 : q_dec 108 122 = some (12, .ifCond .eq (7), 3) := by decide +kernel
theorem i_108_125 : q_dec 108 125 = some (12, .iconst 0, 1) := by decide +kernel
theorem i_108_126 : q_dec 108 126 = some (12, .goto 7, 3) := by decide +kernel
theorem i_108_129 : q_dec 108 129 = some (12, .iconst 1, 1) := by decide +kernel
theorem i_108_130 : q_dec 108 130 = some (12, .iload 4, 2) := by decide +kernel
theorem i_108_132 : q_dec 108 132 = some (12, .ishl, 1) := by decide +kernel
theorem i_108_133 : q_dec 108 133 = some (12, .ior, 1) := by decide +kernel
theorem i_108_134 : q_dec 108 134 = some (12, .putfield 132, 3) := by decide +kernel
theorem i_108_137 : q_dec 108 137 = some (12, .return_, 1) := by decide +kernel
theorem i_109_0 : q_dec 109 0 = some (12, .iload_n 0, 1) := by decide +kernel
theorem i_109_1 : q_dec 109 1 = some (12, .iload_n 1, 1) := by decide +kernel
theorem i_109_2 : q_dec 109 2 = some (12, .ishr, 1) := by decide +kernel
theorem i_109_3 : q_dec 109 3 = some (12, .iconst 1, 1) := by decide +kernel
theorem i_109_4 : q_dec 109 4 = some (12, .iand, 1) := by decide +kernel
theorem i_109_5 : q_dec 109 5 = some (12, .iconst 1, 1) := by decide +kernel
theorem i_109_6 : q_dec 109 6 = some (12, .if_icmp .ne (7), 3) := by decide +kernel
theorem i_109_9 : q_dec 109 9 = some (12, .iconst 1, 1) := by decide +kernel
theorem i_109_10 : q_dec 109 10 = some (12, .goto 4, 3) := by decide +kernel
theorem i_109_13 : q_dec 109 13 = some (12, .iconst 0, 1) := by decide +kernel
theorem i_109_14 : q_dec 109 14 = some (12, .ireturn, 1) := by decide +kernel
theorem i_110_0 : q_dec 110 0 = some (12, .aload_n 0, 1) := by decide +kernel
theorem i_110_1 : q_dec 110 1 = some (12, .getfield 135, 3) := by decide +kernel
theorem i_110_4 : q_dec 110 4 = some (12, .iload_n 1, 1) := by decide +kernel
theorem i_110_5 : q_dec 110 5 = some (12, .invokestatic 83, 3) := by decide +kernel
theorem i_110_8 : q_dec 110 8 = some (12, .istore_n 3, 1) := by decide +kernel
theorem i_110_9 : q_dec 110 9 = some (12, .aload_n 0, 1) := by decide +kernel
theorem i_110_10 : q_dec 110 10 = some (12, .dup, 1) := by decide +kernel
theorem i_110_11 : q_dec 110 11 = some (12, .getfield 135, 3) := by decide +kernel
theorem i_110_14 : q_dec 110 14 = some (12, .iconst 1, 1) := by decide +kernel
theorem i_110_15 : q_dec 110 15 = some (12, .iload_n 1, 1) := by decide +kernel
theorem i_110_16 : q_dec 110 16 = some (12, .ishl, 1) := by decide +kernel
theorem i_110_17 : q_dec 110 17 = some (12, .ior, 1) := by decide +kernel
theorem i_110_18 : q_dec 110 18 = some (12, .putfield 135, 3) := by decide +kernel
theorem i_110_21 : q_dec 110 21 = some (12, .aload_n 0, 1) := by decide +kernel
theorem i_110_22 : q_dec 110 22 = some (12, .iload_n 3, 1) := by decide +kernel
theorem i_110_23 : q_dec 110 23 = some (12, .ifCond .eq (7), 3) := by decide +kernel
theorem i_110_26 : q_dec 110 26 = some (12, .iload_n 2, 1) := by decide +kernel
theorem i_110_27 : q_dec 110 27 = some (12, .goto 7, 3) := by decide +kernel
theorem i_110_30 : q_dec 110 30 = some (12, .aload_n 0, 1) := by decide +kernel
theorem i_110_31 : q_dec 110 31 = some (12, .getfield 97, 3) := by decide +kernel
theorem i_110_34 : q_dec 110 34 = some (12, .putfield 97, 3) := by decide +kernel
theorem i_110_37 : q_dec 110 37 = some (12, .iload_n 3, 1) := by decide +kernel
theorem i_110_38 : q_dec 110 38 = some (12, .ireturn, 1) := by decide +kernel
theorem i_111_0 : q_dec 111 0 = some (12, .aload_n 0, 1) := by decide +kernel
theorem i_111_1 : q_dec 111 1 = some (12, .iload_n 1, 1) := by decide +kernel
theorem i_111_2 : q_dec 111 2 = some (12, .invokevirtual 76, 3) := by decide +kernel
theorem i_111_5 : q_dec 111 5 = some (12, .ifCond .ne (7), 3) := by decide +kernel
theorem i_111_8 : q_dec 111 8 = some (12, .iconst (-1), 1) := by decide +kernel
theorem i_111_9 : q_dec 111 9 = some (12, .goto 34, 3) := by decide +kernel
theorem i_111_12 : q_dec 111 12 = some (12, .aload_n 0, 1) := by decide +kernel
theorem i_111_13 : q_dec 111 13 = some (12, .getfield 80, 3) := by decide +kernel
theorem i_111_16 : q_dec 111 16 = some (12, .iload_n 1, 1) := by decide +kernel
theorem i_111_17 : q_dec 111 17 = some (12, .invokestatic 83, 3) := by decide +kernel
theorem i_111_20 : q_dec 111 20 = some (12, .ifCond .eq (7), 3) := by decide +kernel
theorem i_111_23 : q_dec 111 23 = some (12, .iconst 1, 1) := by decide +kernel
theorem i_111_24 : q_dec 111 24 = some (12, .goto 19, 3) := by decide +kernel
theorem i_111_27 : q_dec 111 27 = some (12, .aload_n 0, 1) := by decide +kernel
theorem i_111_28 : q_dec 111 28 = some (12, .getfield 167, 3) := by decide +kernel
theorem i_111_31 : q_dec 111 31 = some (12, .iload_n 1, 1) := by decide +kernel
theorem i_111_32 : q_dec 111 32 = some (12, .invokestatic 83, 3) := by decide +kernel
theorem i_111_35 : q_dec 111 35 = some (12, .ifCond .eq (7), 3) := by decide +kernel
theorem i_111_38 : q_dec 111 38 = some (12, .iconst 2, 1) := by decide +kernel
theorem i_111_39 : q_dec 111 39 = some (12, .goto 4, 3) := by decide +kernel
theorem i_111_42 : q_dec 111 42 = some (12, .iconst 0, 1) := by decide +kernel
theorem i_111_43 : q_dec 111 43 = some (12, .ireturn, 1) := by decide +kernel
theorem i_112_0 : q_dec 112 0 = some (12, .iload_n 1, 1) := by decide +kernel
theorem i_112_1 : q_dec 112 1 = some (12, .i2l, 1) := by decide +kernel
theorem i_112_2 : q_dec 112 2 = some (12, .lconst 0, 1) := by decide +kernel
theorem i_112_3 : q_dec 112 3 = some (12, .aload_n 0, 1) := by decide +kernel
theorem i_112_4 : q_dec 112 4 = some (12, .getfield 7, 3) := by decide +kernel
theorem i_112_7 : q_dec 112 7 = some (12, .aload_n 0, 1) := by decide +kernel
theorem i_112_8 : q_dec 112 8 = some (12, .getfield 13, 3) := by decide +kernel
theorem i_112_11 : q_dec 112 11 = some (12, .imul, 1) := by decide +kernel
theorem i_112_12 : q_dec 112 12 = some (12, .iconst 1, 1) := by decide +kernel
theorem i_112_13 : q_dec 112 13 = some (12, .isub, 1) := by decide +kernel
theorem i_112_14 : q_dec 112 14 = some (12, .i2l, 1) := by decide +kernel
theorem i_112_15 : q_dec 112 15 = some (12, .invokestatic 72, 3) := by decide +kernel
theorem i_112_18 : q_dec 112 18 = some (12, .ireturn, 1) := by decide +kernel
theorem i_113_0 : q_dec 113 0 = some (12, .iload_n 1, 1) := by decide +kernel
theorem i_113_1 : q_dec 113 1 = some (12, .tableswitch (71) (0) (5) #[39, 44, 49, 54, 59, 64], 39) := by decide +kernel
theorem i_113_40 : q_dec 113 40 = some (12, .aload_n 0, 1) := by decide +kernel
theorem i_113_41 : q_dec 113 41 = some (12, .getfield 16, 3) := by decide +kernel
theorem i_113_44 : q_dec 113 44 = some (12, .ireturn, 1) := by decide +kernel
theorem i_113_45 : q_dec 113 45 = some (12, .aload_n 0, 1) := by decide +kernel
theorem i_113_46 : q_dec 113 46 = some (12, .getfield 19, 3) := by decide +kernel
theorem i_113_49 : q_dec 113 49 = some (12, .ireturn, 1) := by decide +kernel
theorem i_113_50 : q_dec 113 50 = some (12, .aload_n 0, 1) := by decide +kernel
theorem i_113_51 : q_dec 113 51 = some (12, .getfield 22, 3) := by decide +kernel
theorem i_113_54 : q_dec 113 54 = some (12, .ireturn, 1) := by decide +kernel
theorem i_113_55 : q_dec 113 55 = some (12, .aload_n 0, 1) := by decide +kernel
theorem i_113_56 : q_dec 113 56 = some (12, .getfield 170, 3) := by decide +kernel
theorem i_113_59 : q_dec 113 59 = some (12, .ireturn, 1) := by decide +kernel
theorem i_113_60 : q_dec 113 60 = some (12, .aload_n 0, 1) := by decide +kernel
theorem i_113_61 : q_dec 113 61 = some (12, .getfield 173, 3) := by decide +kernel
theorem i_113_64 : q_dec 113 64 = some (12, .ireturn, 1) := by decide +kernel
theorem i_113_65 : q_dec 113 65 = some (12, .aload_n 0, 1) := by decide +kernel
theorem i_113_66 : q_dec 113 66 = some (12, .getfield 29, 3) := by decide +kernel
theorem i_113_69 : q_dec 113 69 = some (12, .iconst 2, 1) := by decide +kernel
theorem i_113_70 : q_dec 113 70 = some (12, .iaload, 1) := by decide +kernel
theorem i_113_71 : q_dec 113 71 = some (12, .ireturn, 1) := by decide +kernel
theorem i_113_72 : q_dec 113 72 = some (12, .iconst (-1), 1) := by decide +kernel
theorem i_113_73 : q_dec 113 73 = some (12, .ireturn, 1) := by decide +kernel
theorem i_114_0 : q_dec 114 0 = some (12, .aload_n 0, 1) := by decide +kernel
theorem i_114_1 : q_dec 114 1 = some (12, .iload_n 1, 1) := by decide +kernel
theorem i_114_2 : q_dec 114 2 = some (12, .invokevirtual 182, 3) := by decide +kernel
theorem i_114_5 : q_dec 114 5 = some (12, .ifCond .ne (5), 3) := by decide +kernel
theorem i_114_8 : q_dec 114 8 = some (12, .iconst (-1), 1) := by decide +kernel
theorem i_114_9 : q_dec 114 9 = some (12, .ireturn, 1) := by decide +kernel
theorem i_114_10 : q_dec 114 10 = some (12, .aload_n 0, 1) := by decide +kernel
theorem i_114_11 : q_dec 114 11 = some (12, .getfield 29, 3) := by decide +kernel
theorem i_114_14 : q_dec 114 14 = some (12, .iconst 0, 1) := by decide +kernel
theorem i_114_15 : q_dec 114 15 = some (12, .iload_n 1, 1) := by decide +kernel
theorem i_114_16 : q_dec 114 16 = some (12, .iastore, 1) := by decide +kernel
theorem i_114_17 : q_dec 114 17 = some (12, .aload_n 0, 1) := by decide +kernel
theorem i_114_18 : q_dec 114 18 = some (12, .getfield 29, 3) := by decide +kernel
theorem i_114_21 : q_dec 114 21 = some (12, .iconst 1, 1) := by decide +kernel
theorem i_114_22 : q_dec 114 22 = some (12, .iconst 0, 1) := by decide +kernel
theorem i_114_23 : q_dec 114 23 = some (12, .iastore, 1) := by decide +kernel
theorem i_114_24 : q_dec 114 24 = some (12, .aload_n 0, 1) := by decide +kernel
theorem i_114_25 : q_dec 114 25 = some (12, .getfield 29, 3) := by decide +kernel
theorem i_114_28 : q_dec 114 28 = some (12, .iconst 3, 1) := by decide +kernel
theorem i_114_29 : q_dec 114 29 = some (12, .iconst 0, 1) := by decide +kernel
theorem i_114_30 : q_dec 114 30 = some (12, .iastore, 1) := by decide +kernel
theorem i_114_31 : q_dec 114 31 = some (12, .iconst 1, 1) := by decide +kernel
theorem i_114_32 : q_dec 114 32 = some (12, .ireturn, 1) := by decide +kernel
theorem i_115_0 : q_dec 115 0 = some (12, .aload_n 0, 1) := by decide +kernel
theorem i_115_1 : q_dec 115 1 = some (12, .iload_n 1, 1) := by decide +kernel
theorem i_115_2 : q_dec 115 2 = some (12, .invokevirtual 76, 3) := by decide +kernel
theorem i_115_5 : q_dec 115 5 = some (12, .ifCond .eq (18), 3) := by decide +kernel
theorem i_115_8 : q_dec 115 8 = some (12, .aload_n 0, 1) := by decide +kernel
theorem i_115_9 : q_dec 115 9 = some (12, .getfield 80, 3) := by decide +kernel
theorem i_115_12 : q_dec 115 12 = some (12, .iload_n 1, 1) := by decide +kernel
theorem i_115_13 : q_dec 115 13 = some (12, .invokestatic 83, 3) := by decide +kernel
theorem i_115_16 : q_dec 115 16 = some (12, .ifCond .ne (7), 3) := by decide +kernel
theorem i_115_19 : q_dec 115 19 = some (12, .iconst 1, 1) := by decide +kernel
theorem i_115_20 : q_dec 115 20 = some (12, .goto 4, 3) := by decide +kernel
theorem i_115_23 : q_dec 115 23 = some (12, .iconst 0, 1) := by decide +kernel
theorem i_115_24 : q_dec 115 24 = some (12, .ireturn, 1) := by decide +kernel
theorem i_116_0 : q_dec 116 0 = some (12, .iload_n 1, 1) := by decide +kernel
theorem i_116_1 : q_dec 116 1 = some (12, .i2l, 1) := by decide +kernel
theorem i_116_2 : q_dec 116 2 = some (12, .lconst 0, 1) := by decide +kernel
theorem i_116_3 : q_dec 116 3 = some (12, .ldc2_w 185, 3) := by decide +kernel
theorem i_116_6 : q_dec 116 6 = some (12, .invokestatic 72, 3) := by decide +kernel
theorem i_116_9 : q_dec 116 9 = some (12, .ifCond .ne (5), 3) := by decide +kernel
theorem i_116_12 : q_dec 116 12 = some (12, .iconst (-1), 1) := by decide +kernel
theorem i_116_13 : q_dec 116 13 = some (12, .ireturn, 1) := by decide +kernel
theorem i_116_14 : q_dec 116 14 = some (12, .aload_n 0, 1) := by decide +kernel
theorem i_116_15 : q_dec 116 15 = some (12, .getfield 29, 3) := by decide +kernel
theorem i_116_18 : q_dec 116 18 = some (12, .iconst 0, 1) := by decide +kernel
theorem i_116_19 : q_dec 116 19 = some (12, .iaload, 1) := by decide +kernel
theorem i_116_20 : q_dec 116 20 = some (12, .bipush (-9), 2) := by decide +kernel
theorem i_116_22 : q_dec 116 22 = some (12, .if_icmp .ne (7), 3) := by decide +kernel
theorem i_116_25 : q_dec 116 25 = some (12, .iconst (-1), 1) := by decide +kernel
theorem i_116_26 : q_dec 116 26 = some (12, .goto 14, 3) := by decide +kernel
theorem i_116_29 : q_dec 116 29 = some (12, .aload_n 0, 1) := by decide +kernel
theorem i_116_30 : q_dec 116 30 = some (12, .aload_n 0, 1) := by decide +kernel
theorem i_116_31 : q_dec 116 31 = some (12, .getfield 29, 3) := by decide +kernel
theorem i_116_34 : q_dec 116 34 = some (12, .iconst 0, 1) := by decide +kernel
theorem i_116_35 : q_dec 116 35 = some (12, .iaload, 1) := by decide +kernel
theorem i_116_36 : q_dec 116 36 = some (12, .iload_n 1, 1) := by decide +kernel
theorem i_116_37 : q_dec 116 37 = some (12, .invokevirtual 187, 3) := by decide +kernel
theorem i_116_40 : q_dec 116 40 = some (12, .istore_n 2, 1) := by decide +kernel
theorem i_116_41 : q_dec 116 41 = some (12, .iload_n 2, 1) := by decide +kernel
theorem i_116_42 : q_dec 116 42 = some (12, .ifCond .ge (6), 3) := by decide +kernel
theorem i_116_45 : q_dec 116 45 = some (12, .bipush (-2), 2) := by decide +kernel
theorem i_116_47 : q_dec 116 47 = some (12, .ireturn, 1) := by decide +kernel
theorem i_116_48 : q_dec 116 48 = some (12, .aload_n 0, 1) := by decide +kernel
theorem i_116_49 : q_dec 116 49 = some (12, .getfield 29, 3) := by decide +kernel
theorem i_116_52 : q_dec 116 52 = some (12, .iconst 3, 1) := by decide +kernel
theorem i_116_53 : q_dec 116 53 = some (12, .iaload, 1) := by decide +kernel
theorem i_116_54 : q_dec 116 54 = some (12, .istore_n 3, 1) := by decide +kernel
theorem i_116_55 : q_dec 116 55 = some (12, .iload_n 3, 1) := by decide +kernel
theorem i_116_56 : q_dec 116 56 = some (12, .bipush 60, 2) := by decide +kernel
theorem i_116_58 : q_dec 116 58 = some (12, .if_icmp .ne (6), 3) := by decide +kernel
theorem i_116_61 : q_dec 116 61 = some (12, .bipush (-3), 2) := by decide +kernel
theorem i_116_63 : q_dec 116 63 = some (12, .ireturn, 1) := by decide +kernel
theorem i_116_64 : q_dec 116 64 = some (12, .iload_n 3, 1) := by decide +kernel
theorem i_116_65 : q_dec 116 65 = some (12, .ifCond .le (37), 3) := by decide +kernel
theorem i_116_68 : q_dec 116 68 = some (12, .aload_n 0, 1) := by decide +kernel
theorem i_116_69 : q_dec 116 69 = some (12, .getfield 29, 3) := by decide +kernel
theorem i_116_72 : q_dec 116 72 = some (12, .iconst 4, 1) := by decide +kernel
theorem i_116_73 : q_dec 116 73 = some (12, .iload_n 3, 1) := by decide +kernel
theorem i_116_74 : q_dec 116 74 = some (12, .iadd, 1) := by decide +kernel
theorem i_116_75 : q_dec 116 75 = some (12, .iconst 1, 1) := by decide +kernel
theorem i_116_76 : q_dec 116 76 = some (12, .isub, 1) := by decide +kernel
theorem i_116_77 : q_dec 116 77 = some (12, .iaload, 1) := by decide +kernel
theorem i_116_78 : q_dec 116 78 = some (12, .iload_n 1, 1) := by decide +kernel
theorem i_116_79 : q_dec 116 79 = some (12, .if_icmp .ne (23), 3) := by decide +kernel
theorem i_116_82 : q_dec 116 82 = some (12, .aload_n 0, 1) := by decide +kernel
theorem i_116_83 : q_dec 116 83 = some (12, .getfield 167, 3) := by decide +kernel
theorem i_116_86 : q_dec 116 86 = some (12, .aload_n 0, 1) := by decide +kernel
theorem i_116_87 : q_dec 116 87 = some (12, .getfield 29, 3) := by decide +kernel
theorem i_116_90 : q_dec 116 90 = some (12, .iconst 0, 1) := by decide +kernel
theorem i_116_91 : q_dec 116 91 = some (12, .iaload, 1) := by decide +kernel
theorem i_116_92 : q_dec 116 92 = some (12, .invokestatic 83, 3) := by decide +kernel
theorem i_116_95 : q_dec 116 95 = some (12, .ifCond .ne (7), 3) := by decide +kernel
theorem i_116_98 : q_dec 116 98 = some (12, .iconst 1, 1) := by decide +kernel
theorem i_116_99 : q_dec 116 99 = some (12, .goto 4, 3) := by decide +kernel
theorem i_116_102 : q_dec 116 102 = some (12, .iconst 0, 1) := by decide +kernel
theorem i_116_103 : q_dec 116 103 = some (12, .istore 4, 2) := by decide +kernel
theorem i_116_105 : q_dec 116 105 = some (12, .aload_n 0, 1) := by decide +kernel
theorem i_116_106 : q_dec 116 106 = some (12, .iload 4, 2) := by decide +kernel
theorem i_116_108 : q_dec 116 108 = some (12, .ifCond .eq (12), 3) := by decide +kernel
theorem i_116_111 : q_dec 116 111 = some (12, .aload_n 0, 1) := by decide +kernel
theorem i_116_112 : q_dec 116 112 = some (12, .invokevirtual 190, 3) := by decide +kernel
theorem i_116_115 : q_dec 116 115 = some (12, .iconst 1, 1) := by decide +kernel
theorem i_116_116 : q_dec 116 116 = some (12, .iadd, 1) := by decide +kernel
theorem i_116_117 : q_dec 116 117 = some (12, .goto 4, 3) := by decide +kernel
theorem i_116_120 : q_dec 116 120 = some (12, .iconst 1, 1) := by decide +kernel
theorem i_116_121 : q_dec 116 121 = some (12, .invokevirtual 194, 3) := by decide +kernel
theorem i_116_124 : q_dec 116 124 = some (12, .istore 5, 2) := by decide +kernel
theorem i_116_126 : q_dec 116 126 = some (12, .aload_n 0, 1) := by decide +kernel
theorem i_116_127 : q_dec 116 127 = some (12, .getfield 29, 3) := by decide +kernel
theorem i_116_130 : q_dec 116 130 = some (12, .iconst 4, 1) := by decide +kernel
theorem i_116_131 : q_dec 116 131 = some (12, .iload_n 3, 1) := by decide +kernel
theorem i_116_132 : q_dec 116 132 = some (12, .iadd, 1) := by decide +kernel
theorem i_116_133 : q_dec 116 133 = some (12, .iload_n 1, 1) := by decide +kernel
theorem i_116_134 : q_dec 116 134 = some (12, .iastore, 1) := by decide +kernel
theorem i_116_135 : q_dec 116 135 = some (12, .aload_n 0, 1) := by decide +kernel
theorem i_116_136 : q_dec 116 136 = some (12, .getfield 29, 3) := by decide +kernel
theorem i_116_139 : q_dec 116 139 = some (12, .bipush 66, 2) := by decide +kernel
theorem i_116_141 : q_dec 116 141 = some (12, .iload_n 3, 1) := by decide +kernel
theorem i_116_142 : q_dec 116 142 = some (12, .iadd, 1) := by decide +kernel
theorem i_116_143 : q_dec 116 143 = some (12, .iload 5, 2) := by decide +kernel
theorem i_116_145 : q_dec 116 145 = some (12, .iastore, 1) := by decide +kernel
theorem i_116_146 : q_dec 116 146 = some (12, .aload_n 0, 1) := by decide +kernel
theorem i_116_147 : q_dec 116 147 = some (12, .getfield 29, 3) := by decide +kernel
theorem i_116_150 : q_dec 116 150 = some (12, .iconst 3, 1) := by decide +kernel
theorem i_116_151 : q_dec 116 151 = some (12, .dup2, 1) := by decide +kernel
theorem i_116_152 : q_dec 116 152 = some (12, .iaload, 1) := by decide +kernel
theorem i_116_153 : q_dec 116 153 = some (12, .iconst 1, 1) := by decide +kernel
theorem i_116_154 : q_dec 116 154 = some (12, .iadd, 1) := by decide +kernel
theorem i_116_155 : q_dec 116 155 = some (12, .iastore, 1) := by decide +kernel
theorem i_116_156 : q_dec 116 156 = some (12, .aload_n 0, 1) := by decide +kernel
theorem i_116_157 : q_dec 116 157 = some (12, .getfield 29, 3) := by decide +kernel
theorem i_116_160 : q_dec 116 160 = some (12, .iconst 0, 1) := by decide +kernel
theorem i_116_161 : q_dec 116 161 = some (12, .iload_n 2, 1) := by decide +kernel
theorem i_116_162 : q_dec 116 162 = some (12, .iastore, 1) := by decide +kernel
theorem i_116_163 : q_dec 116 163 = some (12, .aload_n 0, 1) := by decide +kernel
theorem i_116_164 : q_dec 116 164 = some (12, .getfield 29, 3) := by decide +kernel
theorem i_116_167 : q_dec 116 167 = some (12, .iconst 1, 1) := by decide +kernel
theorem i_116_168 : q_dec 116 168 = some (12, .dup2, 1) := by decide +kernel
theorem i_116_169 : q_dec 116 169 = some (12, .iaload, 1) := by decide +kernel
theorem i_116_170 : q_dec 116 170 = some (12, .iload 5, 2) := by decide +kernel
theorem i_116_172 : q_dec 116 172 = some (12, .iadd, 1) := by decide +kernel
theorem i_116_173 : q_dec 116 173 = some (12, .iastore, 1) := by decide +kernel
theorem i_116_174 : q_dec 116 174 = some (12, .iload 5, 2) := by decide +kernel
theorem i_116_176 : q_dec 116 176 = some (12, .ireturn, 1) := by decide +kernel
theorem i_117_0 : q_dec 117 0 = some (12, .iload_n 1, 1) := by decide +kernel
theorem i_117_1 : q_dec 117 1 = some (12, .aload_n 0, 1) := by decide +kernel
theorem i_117_2 : q_dec 117 2 = some (12, .getfield 7, 3) := by decide +kernel
theorem i_117_5 : q_dec 117 5 = some (12, .irem, 1) := by decide +kernel
theorem i_117_6 : q_dec 117 6 = some (12, .iload_n 2, 1) := by decide +kernel
theorem i_117_7 : q_dec 117 7 = some (12, .iconst 1, 1) := by decide +kernel
theorem i_117_8 : q_dec 117 8 = some (12, .if_icmp .ne (7), 3) := by decide +kernel
theorem i_117_11 : q_dec 117 11 = some (12, .iconst 1, 1) := by decide +kernel
theorem i_117_12 : q_dec 117 12 = some (12, .goto 13, 3) := by decide +kernel
theorem i_117_15 : q_dec 117 15 = some (12, .iload_n 2, 1) := by decide +kernel
theorem i_117_16 : q_dec 117 16 = some (12, .iconst 3, 1) := by decide +kernel
theorem i_117_17 : q_dec 117 17 = some (12, .if_icmp .ne (7), 3) := by decide +kernel
theorem i_117_20 : q_dec 117 20 = some (12, .iconst (-1), 1) := by decide +kernel
theorem i_117_21 : q_dec 117 21 = some (12, .goto 4, 3) := by decide +kernel
theorem i_117_24 : q_dec 117 24 = some (12, .iconst 0, 1) := by decide +kernel
theorem i_117_25 : q_dec 117 25 = some (12, .iadd, 1) := by decide +kernel
theorem i_117_26 : q_dec 117 26 = some (12, .istore_n 3, 1) := by decide +kernel
theorem i_117_27 : q_dec 117 27 = some (12, .iload_n 1, 1) := by decide +kernel
theorem i_117_28 : q_dec 117 28 = some (12, .aload_n 0, 1) := by decide +kernel
theorem i_117_29 : q_dec 117 29 = some (12, .getfield 7, 3) := by decide +kernel
theorem i_117_32 : q_dec 117 32 = some (12, .idiv, 1) := by decide +kernel
theorem i_117_33 : q_dec 117 33 = some (12, .iload_n 2, 1) := by decide +kernel
theorem i_117_34 : q_dec 117 34 = some (12, .iconst 2, 1) := by decide +kernel
theorem i_117_35 : q_dec 117 35 = some (12, .if_icmp .ne (7), 3) := by decide +kernel
theorem i_117_38 : q_dec 117 38 = some (12, .iconst 1, 1) := by decide +kernel
theorem i_117_39 : q_dec 117 39 = some (12, .goto 12, 3) := by decide +kernel
theorem i_117_42 : q_dec 117 42 = some (12, .iload_n 2, 1) := by decide +kernel
theorem i_117_43 : q_dec 117 43 = some (12, .ifCond .ne (7), 3) := by decide +kernel
theorem i_117_46 : q_dec 117 46 = some (12, .iconst (-1), 1) := by decide +kernel
theorem i_117_47 : q_dec 117 47 = some (12, .goto 4, 3) := by decide +kernel
theorem i_117_50 : q_dec 117 50 = some (12, .iconst 0, 1) := by decide +kernel
theorem i_117_51 : q_dec 117 51 = some (12, .iadd, 1) := by decide +kernel
theorem i_117_52 : q_dec 117 52 = some (12, .istore 4, 2) := by decide +kernel
theorem i_117_54 : q_dec 117 54 = some (12, .iload_n 3, 1) := by decide +kernel
theorem i_117_55 : q_dec 117 55 = some (12, .i2l, 1) := by decide +kernel
theorem i_117_56 : q_dec 117 56 = some (12, .lconst 0, 1) := by decide +kernel
theorem i_117_57 : q_dec 117 57 = some (12, .aload_n 0, 1) := by decide +kernel
theorem i_117_58 : q_dec 117 58 = some (12, .getfield 7, 3) := by decide +kernel
theorem i_117_61 : q_dec 117 61 = some (12, .iconst 1, 1) := by decide +kernel
theorem i_117_62 : q_dec 117 62 = some (12, .isub, 1) := by decide +kernel
theorem i_117_63 : q_dec 117 63 = some (12, .i2l, 1) := by decide +kernel
theorem i_117_64 : q_dec 117 64 = some (12, .invokestatic 72, 3) := by decide +kernel
theorem i_117_67 : q_dec 117 67 = some (12, .ifCond .eq (43), 3) := by decide +kernel
theorem i_117_70 : q_dec 117 70 = some (12, .iload 4, 2) := by decide +kernel
theorem i_117_72 : q_dec 117 72 = some (12, .i2l, 1) := by decide +kernel
theorem i_117_73 : q_dec 117 73 = some (12, .lconst 0, 1) := by decide +kernel
theorem i_117_74 : q_dec 117 74 = some (12, .aload_n 0, 1) := by decide +kernel
theorem i_117_75 : q_dec 117 75 = some (12, .getfield 13, 3) := by decide +kernel
theorem i_117_78 : q_dec 117 78 = some (12, .iconst 1, 1) := by decide +kernel
theorem i_117_79 : q_dec 117 79 = some (12, .isub, 1) := by decide +kernel
theorem i_117_80 : q_dec 117 80 = some (12, .i2l, 1) := by decide +kernel
theorem i_117_81 : q_dec 117 81 = some (12, .invokestatic 72, 3) := by decide +kernel
theorem i_117_84 : q_dec 117 84 = some (12, .ifCond .eq (26), 3) := by decide +kernel
theorem i_117_87 : q_dec 117 87 = some (12, .aload_n 0, 1) := by decide +kernel
theorem i_117_88 : q_dec 117 88 = some (12, .getfield 80, 3) := by decide +kernel
theorem i_117_91 : q_dec 117 91 = some (12, .aload_n 0, 1) := by decide +kernel
theorem i_117_92 : q_dec 117 92 = some (12, .getfield 7, 3) := by decide +kernel
theorem i_117_95 : q_dec 117 95 = some (12, .iload 4, 2) := by decide +kernel
theorem i_117_97 : q_dec 117 97 = some (12, .imul, 1) := by decide +kernel
theorem i_117_98 : q_dec 117 98 = some (12, .iload_n 3, 1) := by decide +kernel
theorem i_117_99 : q_dec 117 99 = some (12, .iadd, 1) := by decide +kernel
theorem i_117_100 : q_dec 117 100 = some (12, .invokestatic 83, 3) := by decide +kernel
theorem i_117_103 : q_dec 117 103 = some (12, .ifCond .ne (7), 3) := by decide +kernel
theorem i_117_106 : q_dec 117 106 = some (12, .iconst 1, 1) := by decide +kernel
theorem i_117_107 : q_dec 117 107 = some (12, .goto 4, 3) := by decide +kernel
theorem i_117_110 : q_dec 117 110 = some (12, .iconst 0, 1) := by decide +kernel
theorem i_117_111 : q_dec 117 111 = some (12, .istore 5, 2) := by decide +kernel
theorem i_117_113 : q_dec 117 113 = some (12, .iload 5, 2) := by decide +kernel
theorem i_117_115 : q_dec 117 115 = some (12, .ifCond .eq (15), 3) := by decide +kernel
theorem i_117_118 : q_dec 117 118 = some (12, .aload_n 0, 1) := by decide +kernel
theorem i_117_119 : q_dec 117 119 = some (12, .getfield 7, 3) := by decide +kernel
theorem i_117_122 : q_dec 117 122 = some (12, .iload 4, 2) := by decide +kernel
theorem i_117_124 : q_dec 117 124 = some (12, .imul, 1) := by decide +kernel
theorem i_117_125 : q_dec 117 125 = some (12, .iload_n 3, 1) := by decide +kernel
theorem i_117_126 : q_dec 117 126 = some (12, .iadd, 1) := by decide +kernel
theorem i_117_127 : q_dec 117 127 = some (12, .goto 4, 3) := by decide +kernel
theorem i_117_130 : q_dec 117 130 = some (12, .iconst (-1), 1) := by decide +kernel
theorem i_117_131 : q_dec 117 131 = some (12, .ireturn, 1) := by decide +kernel
theorem i_118_0 : q_dec 118 0 = some (12, .aload_n 0, 1) := by decide +kernel
theorem i_118_1 : q_dec 118 1 = some (12, .getfield 29, 3) := by decide +kernel
theorem i_118_4 : q_dec 118 4 = some (12, .iconst 3, 1) := by decide +kernel
theorem i_118_5 : q_dec 118 5 = some (12, .iaload, 1) := by decide +kernel
theorem i_118_6 : q_dec 118 6 = some (12, .istore_n 1, 1) := by decide +kernel
theorem i_118_7 : q_dec 118 7 = some (12, .iload_n 1, 1) := by decide +kernel
theorem i_118_8 : q_dec 118 8 = some (12, .ifCond .le (7), 3) := by decide +kernel
theorem i_118_11 : q_dec 118 11 = some (12, .iconst 1, 1) := by decide +kernel
theorem i_118_12 : q_dec 118 12 = some (12, .goto 4, 3) := by decide +kernel
theorem i_118_15 : q_dec 118 15 = some (12, .iconst 0, 1) := by decide +kernel
theorem i_118_16 : q_dec 118 16 = some (12, .istore_n 2, 1) := by decide +kernel
theorem i_118_17 : q_dec 118 17 = some (12, .aload_n 0, 1) := by decide +kernel
theorem i_118_18 : q_dec 118 18 = some (12, .getfield 29, 3) := by decide +kernel
theorem i_118_21 : q_dec 118 21 = some (12, .iconst 0, 1) := by decide +kernel
theorem i_118_22 : q_dec 118 22 = some (12, .iaload, 1) := by decide +kernel
theorem i_118_23 : q_dec 118 23 = some (12, .istore_n 3, 1) := by decide +kernel
theorem i_118_24 : q_dec 118 24 = some (12, .iload_n 1, 1) := by decide +kernel
theorem i_118_25 : q_dec 118 25 = some (12, .iconst 1, 1) := by decide +kernel
theorem i_118_26 : q_dec 118 26 = some (12, .isub, 1) := by decide +kernel
theorem i_118_27 : q_dec 118 27 = some (12, .istore 4, 2) := by decide +kernel
theorem i_118_29 : q_dec 118 29 = some (12, .iload 4, 2) := by decide +kernel
theorem i_118_31 : q_dec 118 31 = some (12, .ifCond .le (63), 3) := by decide +kernel
theorem i_118_34 : q_dec 118 34 = some (12, .aload_n 0, 1) := by decide +kernel
theorem i_118_35 : q_dec 118 35 = some (12, .iload_n 3, 1) := by decide +kernel
theorem i_118_36 : q_dec 118 36 = some (12, .aload_n 0, 1) := by decide +kernel
theorem i_118_37 : q_dec 118 37 = some (12, .getfield 29, 3) := by decide +kernel
theorem i_118_40 : q_dec 118 40 = some (12, .iconst 4, 1) := by decide +kernel
theorem i_118_41 : q_dec 118 41 = some (12, .iload 4, 2) := by decide +kernel
theorem i_118_43 : q_dec 118 43 = some (12, .iadd, 1) := by decide +kernel
theorem i_118_44 : q_dec 118 44 = some (12, .iaload, 1) := by decide +kernel
theorem i_118_45 : q_dec 118 45 = some (12, .invokevirtual 179, 3) := by decide +kernel
theorem i_118_48 : q_dec 118 48 = some (12, .istore_n 3, 1) := by decide +kernel
theorem i_118_49 : q_dec 118 49 = some (12, .aload_n 0, 1) := by decide +kernel
theorem i_118_50 : q_dec 118 50 = some (12, .getfield 29, 3) := by decide +kernel
theorem i_118_53 : q_dec 118 53 = some (12, .iconst 4, 1) := by decide +kernel
theorem i_118_54 : q_dec 118 54 = some (12, .iload 4, 2) := by decide +kernel
theorem i_118_56 : q_dec 118 56 = some (12, .iadd, 1) := by decide +kernel
theorem i_118_57 : q_dec 118 57 = some (12, .iconst 1, 1) := by decide +kernel
theorem i_118_58 : q_dec 118 58 = some (12, .isub, 1) := by decide +kernel
theorem i_118_59 : q_dec 118 59 = some (12, .iaload, 1) := by decide +kernel
theorem i_118_60 : q_dec 118 60 = some (12, .aload_n 0, 1) := by decide +kernel
theorem i_118_61 : q_dec 118 61 = some (12, .getfield 29, 3) := by decide +kernel
theorem i_118_64 : q_dec 118 64 = some (12, .iconst 4, 1) := by decide +kernel
theorem i_118_65 : q_dec 118 65 = some (12, .iload 4, 2) := by decide +kernel
theorem i_118_67 : q_dec 118 67 = some (12, .iadd, 1) := by decide +kernel
theorem i_118_68 : q_dec 118 68 = some (12, .iaload, 1) := by decide +kernel
theorem i_118_69 : q_dec 118 69 = some (12, .if_icmp .ne (14), 3) := by decide +kernel
theorem i_118_72 : q_dec 118 72 = some (12, .aload_n 0, 1) := by decide +kernel
theorem i_118_73 : q_dec 118 73 = some (12, .getfield 167, 3) := by decide +kernel
theorem i_118_76 : q_dec 118 76 = some (12, .iload_n 3, 1) := by decide +kernel
theorem i_118_77 : q_dec 118 77 = some (12, .invokestatic 83, 3) := by decide +kernel
theorem i_118_80 : q_dec 118 80 = some (12, .ifCond .eq (5), 3) := by decide +kernel
theorem i_118_83 : q_dec 118 83 = some (12, .iload_n 2, 1) := by decide +kernel
theorem i_118_84 : q_dec 118 84 = some (12, .ireturn, 1) := by decide +kernel
theorem i_118_85 : q_dec 118 85 = some (12, .iinc 2 1, 3) := by decide +kernel
theorem i_118_88 : q_dec 118 88 = some (12, .iinc 4 (-1), 3) := by decide +kernel
theorem i_118_91 : q_dec 118 91 = some (12, .goto (-62), 3) := by decide +kernel
theorem i_118_94 : q_dec 118 94 = some (12, .iload_n 2, 1) := by decide +kernel
theorem i_118_95 : q_dec 118 95 = some (12, .ireturn, 1) := by decide +kernel
theorem i_119_0 : q_dec 119 0 = some (12, .iload_n 1, 1) := by decide +kernel
theorem i_119_1 : q_dec 119 1 = some (12, .iload_n 2, 1) := by decide +kernel
theorem i_119_2 : q_dec 119 2 = some (12, .iconst 1, 1) := by decide +kernel
theorem i_119_3 : q_dec 119 3 = some (12, .if_icmp .ne (7), 3) := by decide +kernel
theorem i_119_6 : q_dec 119 6 = some (12, .iconst 1, 1) := by decide +kernel
theorem i_119_7 : q_dec 119 7 = some (12, .goto 29, 3) := by decide +kernel
theorem i_119_10 : q_dec 119 10 = some (12, .iload_n 2, 1) := by decide +kernel
theorem i_119_11 : q_dec 119 11 = some (12, .iconst 3, 1) := by decide +kernel
theorem i_119_12 : q_dec 119 12 = some (12, .if_icmp .ne (7), 3) := by decide +kernel
theorem i_119_15 : q_dec 119 15 = some (12, .iconst (-1), 1) := by decide +kernel
theorem i_119_16 : q_dec 119 16 = some (12, .goto 20, 3) := by decide +kernel
theorem i_119_19 : q_dec 119 19 = some (12, .iload_n 2, 1) := by decide +kernel
theorem i_119_20 : q_dec 119 20 = some (12, .iconst 2, 1) := by decide +kernel
theorem i_119_21 : q_dec 119 21 = some (12, .if_icmp .ne (10), 3) := by decide +kernel
theorem i_119_24 : q_dec 119 24 = some (12, .aload_n 0, 1) := by decide +kernel
theorem i_119_25 : q_dec 119 25 = some (12, .getfield 7, 3) := by decide +kernel
theorem i_119_28 : q_dec 119 28 = some (12, .goto 8, 3) := by decide +kernel
theorem i_119_31 : q_dec 119 31 = some (12, .aload_n 0, 1) := by decide +kernel
theorem i_119_32 : q_dec 119 32 = some (12, .getfield 7, 3) := by decide +kernel
theorem i_119_35 : q_dec 119 35 = some (12, .ineg, 1) := by decide +kernel
theorem i_119_36 : q_dec 119 36 = some (12, .isub, 1) := by decide +kernel
theorem i_119_37 : q_dec 119 37 = some (12, .ireturn, 1) := by decide +kernel
theorem i_120_0 : q_dec 120 0 = some (12, .iload_n 1, 1) := by decide +kernel
theorem i_120_1 : q_dec 120 1 = some (12, .aload_n 0, 1) := by decide +kernel
theorem i_120_2 : q_dec 120 2 = some (12, .getfield 16, 3) := by decide +kernel
theorem i_120_5 : q_dec 120 5 = some (12, .isub, 1) := by decide +kernel
theorem i_120_6 : q_dec 120 6 = some (12, .istore_n 2, 1) := by decide +kernel
theorem i_120_7 : q_dec 120 7 = some (12, .iload_n 2, 1) := by decide +kernel
theorem i_120_8 : q_dec 120 8 = some (12, .ifCond .gt (7), 3) := by decide +kernel
theorem i_120_11 : q_dec 120 11 = some (12, .iconst 0, 1) := by decide +kernel
theorem i_120_12 : q_dec 120 12 = some (12, .goto 42, 3) := by decide +kernel
theorem i_120_15 : q_dec 120 15 = some (12, .aload_n 0, 1) := by decide +kernel
theorem i_120_16 : q_dec 120 16 = some (12, .getfield 22, 3) := by decide +kernel
theorem i_120_19 : q_dec 120 19 = some (12, .ifCond .ne (10), 3) := by decide +kernel
theorem i_120_22 : q_dec 120 22 = some (12, .aload_n 0, 1) := by decide +kernel
theorem i_120_23 : q_dec 120 23 = some (12, .getfield 19, 3) := by decide +kernel
theorem i_120_26 : q_dec 120 26 = some (12, .goto 28, 3) := by decide +kernel
theorem i_120_29 : q_dec 120 29 = some (12, .aload_n 0, 1) := by decide +kernel
theorem i_120_30 : q_dec 120 30 = some (12, .getfield 22, 3) := by decide +kernel
theorem i_120_33 : q_dec 120 33 = some (12, .iconst 1, 1) := by decide +kernel
theorem i_120_34 : q_dec 120 34 = some (12, .if_icmp .ne (12), 3) := by decide +kernel
theorem i_120_37 : q_dec 120 37 = some (12, .aload_n 0, 1) := by decide +kernel
theorem i_120_38 : q_dec 120 38 = some (12, .getfield 19, 3) := by decide +kernel
theorem i_120_41 : q_dec 120 41 = some (12, .iload_n 2, 1) := by decide +kernel
theorem i_120_42 : q_dec 120 42 = some (12, .imul, 1) := by decide +kernel
theorem i_120_43 : q_dec 120 43 = some (12, .goto 11, 3) := by decide +kernel
theorem i_120_46 : q_dec 120 46 = some (12, .aload_n 0, 1) := by decide +kernel
theorem i_120_47 : q_dec 120 47 = some (12, .getfield 19, 3) := by decide +kernel
theorem i_120_50 : q_dec 120 50 = some (12, .iload_n 2, 1) := by decide +kernel
theorem i_120_51 : q_dec 120 51 = some (12, .imul, 1) := by decide +kernel
theorem i_120_52 : q_dec 120 52 = some (12, .iload_n 2, 1) := by decide +kernel
theorem i_120_53 : q_dec 120 53 = some (12, .imul, 1) := by decide +kernel
theorem i_120_54 : q_dec 120 54 = some (12, .istore_n 3, 1) := by decide +kernel
theorem i_120_55 : q_dec 120 55 = some (12, .aload_n 0, 1) := by decide +kernel
theorem i_120_56 : q_dec 120 56 = some (12, .getfield 173, 3) := by decide +kernel
theorem i_120_59 : q_dec 120 59 = some (12, .aload_n 0, 1) := by decide +kernel
theorem i_120_60 : q_dec 120 60 = some (12, .getfield 170, 3) := by decide +kernel
theorem i_120_63 : q_dec 120 63 = some (12, .iconst 1, 1) := by decide +kernel
theorem i_120_64 : q_dec 120 64 = some (12, .if_icmp .ne (19), 3) := by decide +kernel
theorem i_120_67 : q_dec 120 67 = some (12, .aload_n 0, 1) := by decide +kernel
theorem i_120_68 : q_dec 120 68 = some (12, .getfield 29, 3) := by decide +kernel
theorem i_120_71 : q_dec 120 71 = some (12, .iconst 2, 1) := by decide +kernel
theorem i_120_72 : q_dec 120 72 = some (12, .iaload, 1) := by decide +kernel
theorem i_120_73 : q_dec 120 73 = some (12, .iconst 1, 1) := by decide +kernel
theorem i_120_74 : q_dec 120 74 = some (12, .if_icmp .ne (9), 3) := by decide +kernel
theorem i_120_77 : q_dec 120 77 = some (12, .iconst 2, 1) := by decide +kernel
theorem i_120_78 : q_dec 120 78 = some (12, .iload_n 3, 1) := by decide +kernel
theorem i_120_79 : q_dec 120 79 = some (12, .imul, 1) := by decide +kernel
theorem i_120_80 : q_dec 120 80 = some (12, .goto 4, 3) := by decide +kernel
theorem i_120_83 : q_dec 120 83 = some (12, .iload_n 3, 1) := by decide +kernel
theorem i_120_84 : q_dec 120 84 = some (12, .iadd, 1) := by decide +kernel
theorem i_120_85 : q_dec 120 85 = some (12, .ireturn, 1) := by decide +kernel
theorem i_121_0 : q_dec 121 0 = some (12, .aload_n 0, 1) := by decide +kernel
theorem i_121_1 : q_dec 121 1 = some (12, .getfield 29, 3) := by decide +kernel
theorem i_121_4 : q_dec 121 4 = some (12, .iconst 3, 1) := by decide +kernel
theorem i_121_5 : q_dec 121 5 = some (12, .iaload, 1) := by decide +kernel
theorem i_121_6 : q_dec 121 6 = some (12, .ifCond .ne (6), 3) := by decide +kernel
theorem i_121_9 : q_dec 121 9 = some (12, .bipush (-2), 2) := by decide +kernel
theorem i_121_11 : q_dec 121 11 = some (12, .ireturn, 1) := by decide +kernel
theorem i_121_12 : q_dec 121 12 = some (12, .aload_n 0, 1) := by decide +kernel
theorem i_121_13 : q_dec 121 13 = some (12, .getfield 29, 3) := by decide +kernel
theorem i_121_16 : q_dec 121 16 = some (12, .iconst 3, 1) := by decide +kernel
theorem i_121_17 : q_dec 121 17 = some (12, .dup2, 1) := by decide +kernel
theorem i_121_18 : q_dec 121 18 = some (12, .iaload, 1) := by decide +kernel
theorem i_121_19 : q_dec 121 19 = some (12, .iconst 1, 1) := by decide +kernel
theorem i_121_20 : q_dec 121 20 = some (12, .isub, 1) := by decide +kernel
theorem i_121_21 : q_dec 121 21 = some (12, .iastore, 1) := by decide +kernel
theorem i_121_22 : q_dec 121 22 = some (12, .aload_n 0, 1) := by decide +kernel
theorem i_121_23 : q_dec 121 23 = some (12, .getfield 29, 3) := by decide +kernel
theorem i_121_26 : q_dec 121 26 = some (12, .iconst 3, 1) := by decide +kernel
theorem i_121_27 : q_dec 121 27 = some (12, .iaload, 1) := by decide +kernel
theorem i_121_28 : q_dec 121 28 = some (12, .istore_n 1, 1) := by decide +kernel
theorem i_121_29 : q_dec 121 29 = some (12, .aload_n 0, 1) := by decide +kernel
theorem i_121_30 : q_dec 121 30 = some (12, .getfield 29, 3) := by decide +kernel
theorem i_121_33 : q_dec 121 33 = some (12, .iconst 0, 1) := by decide +kernel
theorem i_121_34 : q_dec 121 34 = some (12, .aload_n 0, 1) := by decide +kernel
theorem i_121_35 : q_dec 121 35 = some (12, .aload_n 0, 1) := by decide +kernel
theorem i_121_36 : q_dec 121 36 = some (12, .getfield 29, 3) := by decide +kernel
theorem i_121_39 : q_dec 121 39 = some (12, .iconst 0, 1) := by decide +kernel
theorem i_121_40 : q_dec 121 40 = some (12, .iaload, 1) := by decide +kernel
theorem i_121_41 : q_dec 121 41 = some (12, .aload_n 0, 1) := by decide +kernel
theorem i_121_42 : q_dec 121 42 = some (12, .getfield 29, 3) := by decide +kernel
theorem i_121_45 : q_dec 121 45 = some (12, .iconst 4, 1) := by decide +kernel
theorem i_121_46 : q_dec 121 46 = some (12, .iload_n 1, 1) := by decide +kernel
theorem i_121_47 : q_dec 121 47 = some (12, .iadd, 1) := by decide +kernel
theorem i_121_48 : q_dec 121 48 = some (12, .iaload, 1) := by decide +kernel
theorem i_121_49 : q_dec 121 49 = some (12, .invokevirtual 179, 3) := by decide +kernel
theorem i_121_52 : q_dec 121 52 = some (12, .iastore, 1) := by decide +kernel
theorem i_121_53 : q_dec 121 53 = some (12, .aload_n 0, 1) := by decide +kernel
theorem i_121_54 : q_dec 121 54 = some (12, .getfield 29, 3) := by decide +kernel
theorem i_121_57 : q_dec 121 57 = some (12, .iconst 1, 1) := by decide +kernel
theorem i_121_58 : q_dec 121 58 = some (12, .dup2, 1) := by decide +kernel
theorem i_121_59 : q_dec 121 59 = some (12, .iaload, 1) := by decide +kernel
theorem i_121_60 : q_dec 121 60 = some (12, .aload_n 0, 1) := by decide +kernel
theorem i_121_61 : q_dec 121 61 = some (12, .getfield 29, 3) := by decide +kernel
theorem i_121_64 : q_dec 121 64 = some (12, .bipush 66, 2) := by decide +kernel
theorem i_121_66 : q_dec 121 66 = some (12, .iload_n 1, 1) := by decide +kernel
theorem i_121_67 : q_dec 121 67 = some (12, .iadd, 1) := by decide +kernel
theorem i_121_68 : q_dec 121 68 = some (12, .iaload, 1) := by decide +kernel
theorem i_121_69 : q_dec 121 69 = some (12, .isub, 1) := by decide +kernel
theorem i_121_70 : q_dec 121 70 = some (12, .iastore, 1) := by decide +kernel
theorem i_121_71 : q_dec 121 71 = some (12, .aload_n 0, 1) := by decide +kernel
theorem i_121_72 : q_dec 121 72 = some (12, .getfield 29, 3) := by decide +kernel
theorem i_121_75 : q_dec 121 75 = some (12, .bipush 66, 2) := by decide +kernel
theorem i_121_77 : q_dec 121 77 = some (12, .iload_n 1, 1) := by decide +kernel
theorem i_121_78 : q_dec 121 78 = some (12, .iadd, 1) := by decide +kernel
theorem i_121_79 : q_dec 121 79 = some (12, .iaload, 1) := by decide +kernel
theorem i_121_80 : q_dec 121 80 = some (12, .ireturn, 1) := by decide +kernel
theorem i_122_0 : q_dec 122 0 = some (12, .iload_n 1, 1) := by decide +kernel
theorem i_122_1 : q_dec 122 1 = some (12, .tableswitch (91) (0) (4) #[35, 42, 49, 54, 84], 35) := by decide +kernel
theorem i_122_36 : q_dec 122 36 = some (12, .aload_n 0, 1) := by decide +kernel
theorem i_122_37 : q_dec 122 37 = some (12, .getfield 29, 3) := by decide +kernel
theorem i_122_40 : q_dec 122 40 = some (12, .iconst 0, 1) := by decide +kernel
theorem i_122_41 : q_dec 122 41 = some (12, .iaload, 1) := by decide +kernel
theorem i_122_42 : q_dec 122 42 = some (12, .ireturn, 1) := by decide +kernel
theorem i_122_43 : q_dec 122 43 = some (12, .aload_n 0, 1) := by decide +kernel
theorem i_122_44 : q_dec 122 44 = some (12, .getfield 29, 3) := by decide +kernel
theorem i_122_47 : q_dec 122 47 = some (12, .iconst 1, 1) := by decide +kernel
theorem i_122_48 : q_dec 122 48 = some (12, .iaload, 1) := by decide +kernel
theorem i_122_49 : q_dec 122 49 = some (12, .ireturn, 1) := by decide +kernel
theorem i_122_50 : q_dec 122 50 = some (12, .aload_n 0, 1) := by decide +kernel
theorem i_122_51 : q_dec 122 51 = some (12, .invokevirtual 190, 3) := by decide +kernel
theorem i_122_54 : q_dec 122 54 = some (12, .ireturn, 1) := by decide +kernel
theorem i_122_55 : q_dec 122 55 = some (12, .aload_n 0, 1) := by decide +kernel
theorem i_122_56 : q_dec 122 56 = some (12, .getfield 29, 3) := by decide +kernel
theorem i_122_59 : q_dec 122 59 = some (12, .iconst 3, 1) := by decide +kernel
theorem i_122_60 : q_dec 122 60 = some (12, .iaload, 1) := by decide +kernel
theorem i_122_61 : q_dec 122 61 = some (12, .ifCond .ne (8), 3) := by decide +kernel
theorem i_122_64 : q_dec 122 64 = some (12, .bipush (-9), 2) := by decide +kernel
theorem i_122_66 : q_dec 122 66 = some (12, .goto 18, 3) := by decide +kernel
theorem i_122_69 : q_dec 122 69 = some (12, .aload_n 0, 1) := by decide +kernel
theorem i_122_70 : q_dec 122 70 = some (12, .getfield 29, 3) := by decide +kernel
theorem i_122_73 : q_dec 122 73 = some (12, .iconst 4, 1) := by decide +kernel
theorem i_122_74 : q_dec 122 74 = some (12, .aload_n 0, 1) := by decide +kernel
theorem i_122_75 : q_dec 122 75 = some (12, .getfield 29, 3) := by decide +kernel
theorem i_122_78 : q_dec 122 78 = some (12, .iconst 3, 1) := by decide +kernel
theorem i_122_79 : q_dec 122 79 = some (12, .iaload, 1) := by decide +kernel
theorem i_122_80 : q_dec 122 80 = some (12, .iadd, 1) := by decide +kernel
theorem i_122_81 : q_dec 122 81 = some (12, .iconst 1, 1) := by decide +kernel
theorem i_122_82 : q_dec 122 82 = some (12, .isub, 1) := by decide +kernel
theorem i_122_83 : q_dec 122 83 = some (12, .iaload, 1) := by decide +kernel
theorem i_122_84 : q_dec 122 84 = some (12, .ireturn, 1) := by decide +kernel
theorem i_122_85 : q_dec 122 85 = some (12, .aload_n 0, 1) := by decide +kernel
theorem i_122_86 : q_dec 122 86 = some (12, .getfield 29, 3) := by decide +kernel
theorem i_122_89 : q_dec 122 89 = some (12, .iconst 3, 1) := by decide +kernel
theorem i_122_90 : q_dec 122 90 = some (12, .iaload, 1) := by decide +kernel
theorem i_122_91 : q_dec 122 91 = some (12, .ireturn, 1) := by decide +kernel
theorem i_122_92 : q_dec 122 92 = some (12, .iconst (-1), 1) := by decide +kernel
theorem i_122_93 : q_dec 122 93 = some (12, .ireturn, 1) := by decide +kernel
theorem i_123_0 : q_dec 123 0 = some (12, .iload_n 1, 1) := by decide +kernel
theorem i_123_1 : q_dec 123 1 = some (12, .i2l, 1) := by decide +kernel
theorem i_123_2 : q_dec 123 2 = some (12, .lconst 0, 1) := by decide +kernel
theorem i_123_3 : q_dec 123 3 = some (12, .lconst 1, 1) := by decide +kernel
theorem i_123_4 : q_dec 123 4 = some (12, .invokestatic 72, 3) := by decide +kernel
theorem i_123_7 : q_dec 123 7 = some (12, .ifCond .ne (5), 3) := by decide +kernel
theorem i_123_10 : q_dec 123 10 = some (12, .iconst (-1), 1) := by decide +kernel
theorem i_123_11 : q_dec 123 11 = some (12, .ireturn, 1) := by decide +kernel
theorem i_123_12 : q_dec 123 12 = some (12, .aload_n 0, 1) := by decide +kernel
theorem i_123_13 : q_dec 123 13 = some (12, .getfield 29, 3) := by decide +kernel
theorem i_123_16 : q_dec 123 16 = some (12, .iconst 2, 1) := by decide +kernel
theorem i_123_17 : q_dec 123 17 = some (12, .iaload, 1) := by decide +kernel
theorem i_123_18 : q_dec 123 18 = some (12, .istore_n 2, 1) := by decide +kernel
theorem i_123_19 : q_dec 123 19 = some (12, .aload_n 0, 1) := by decide +kernel
theorem i_123_20 : q_dec 123 20 = some (12, .getfield 29, 3) := by decide +kernel
theorem i_123_23 : q_dec 123 23 = some (12, .iconst 2, 1) := by decide +kernel
theorem i_123_24 : q_dec 123 24 = some (12, .iload_n 1, 1) := by decide +kernel
theorem i_123_25 : q_dec 123 25 = some (12, .iastore, 1) := by decide +kernel
theorem i_123_26 : q_dec 123 26 = some (12, .iload_n 2, 1) := by decide +kernel
theorem i_123_27 : q_dec 123 27 = some (12, .ireturn, 1) := by decide +kernel
theorem i_124_0 : q_dec 124 0 = some (12, .aload_n 0, 1) := by decide +kernel
theorem i_124_1 : q_dec 124 1 = some (12, .iload_n 1, 1) := by decide +kernel
theorem i_124_2 : q_dec 124 2 = some (12, .invokevirtual 182, 3) := by decide +kernel
theorem i_124_5 : q_dec 124 5 = some (12, .ifCond .eq (15), 3) := by decide +kernel
theorem i_124_8 : q_dec 124 8 = some (12, .iload_n 2, 1) := by decide +kernel
theorem i_124_9 : q_dec 124 9 = some (12, .i2l, 1) := by decide +kernel
theorem i_124_10 : q_dec 124 10 = some (12, .lconst 0, 1) := by decide +kernel
theorem i_124_11 : q_dec 124 11 = some (12, .ldc2_w 198, 3) := by decide +kernel
theorem i_124_14 : q_dec 124 14 = some (12, .invokestatic 72, 3) := by decide +kernel
theorem i_124_17 : q_dec 124 17 = some (12, .ifCond .ne (5), 3) := by decide +kernel
theorem i_124_20 : q_dec 124 20 = some (12, .iconst (-1), 1) := by decide +kernel
theorem i_124_21 : q_dec 124 21 = some (12, .ireturn, 1) := by decide +kernel
theorem i_124_22 : q_dec 124 22 = some (12, .iconst 1, 1) := by decide +kernel
theorem i_124_23 : q_dec 124 23 = some (12, .istore_n 3, 1) := by decide +kernel
theorem i_124_24 : q_dec 124 24 = some (12, .iload_n 2, 1) := by decide +kernel
theorem i_124_25 : q_dec 124 25 = some (12, .istore 4, 2) := by decide +kernel
theorem i_124_27 : q_dec 124 27 = some (12, .iload 4, 2) := by decide +kernel
theorem i_124_29 : q_dec 124 29 = some (12, .ifCond .le (47), 3) := by decide +kernel
theorem i_124_32 : q_dec 124 32 = some (12, .iload 4, 2) := by decide +kernel
theorem i_124_34 : q_dec 124 34 = some (12, .bipush 10, 2) := by decide +kernel
theorem i_124_36 : q_dec 124 36 = some (12, .irem, 1) := by decide +kernel
theorem i_124_37 : q_dec 124 37 = some (12, .i2l, 1) := by decide +kernel
theorem i_124_38 : q_dec 124 38 = some (12, .lconst 1, 1) := by decide +kernel
theorem i_124_39 : q_dec 124 39 = some (12, .ldc2_w 200, 3) := by decide +kernel
theorem i_124_42 : q_dec 124 42 = some (12, .invokestatic 72, 3) := by decide +kernel
theorem i_124_45 : q_dec 124 45 = some (12, .ifCond .ne (5), 3) := by decide +kernel
theorem i_124_48 : q_dec 124 48 = some (12, .iconst (-1), 1) := by decide +kernel
theorem i_124_49 : q_dec 124 49 = some (12, .ireturn, 1) := by decide +kernel
theorem i_124_50 : q_dec 124 50 = some (12, .iload_n 3, 1) := by decide +kernel
theorem i_124_51 : q_dec 124 51 = some (12, .iload 4, 2) := by decide +kernel
theorem i_124_53 : q_dec 124 53 = some (12, .bipush 9, 2) := by decide +kernel
theorem i_124_55 : q_dec 124 55 = some (12, .if_icmp .le (8), 3) := by decide +kernel
theorem i_124_58 : q_dec 124 58 = some (12, .bipush 10, 2) := by decide +kernel
theorem i_124_60 : q_dec 124 60 = some (12, .goto 4, 3) := by decide +kernel
theorem i_124_63 : q_dec 124 63 = some (12, .iconst 1, 1) := by decide +kernel
theorem i_124_64 : q_dec 124 64 = some (12, .imul, 1) := by decide +kernel
theorem i_124_65 : q_dec 124 65 = some (12, .istore_n 3, 1) := by decide +kernel
theorem i_124_66 : q_dec 124 66 = some (12, .iload 4, 2) := by decide +kernel
theorem i_124_68 : q_dec 124 68 = some (12, .bipush 10, 2) := by decide +kernel
theorem i_124_70 : q_dec 124 70 = some (12, .idiv, 1) := by decide +kernel
theorem i_124_71 : q_dec 124 71 = some (12, .istore 4, 2) := by decide +kernel
theorem i_124_73 : q_dec 124 73 = some (12, .goto (-46), 3) := by decide +kernel
theorem i_124_76 : q_dec 124 76 = some (12, .iload_n 1, 1) := by decide +kernel
theorem i_124_77 : q_dec 124 77 = some (12, .istore 4, 2) := by decide +kernel
theorem i_124_79 : q_dec 124 79 = some (12, .iconst 0, 1) := by decide +kernel
theorem i_124_80 : q_dec 124 80 = some (12, .istore 5, 2) := by decide +kernel
theorem i_124_82 : q_dec 124 82 = some (12, .iconst 0, 1) := by decide +kernel
theorem i_124_83 : q_dec 124 83 = some (12, .istore 6, 2) := by decide +kernel
theorem i_124_85 : q_dec 124 85 = some (12, .iconst (-1), 1) := by decide +kernel
theorem i_124_86 : q_dec 124 86 = some (12, .istore 7, 2) := by decide +kernel
theorem i_124_88 : q_dec 124 88 = some (12, .iconst 0, 1) := by decide +kernel
theorem i_124_89 : q_dec 124 89 = some (12, .istore 8, 2) := by decide +kernel
theorem i_124_91 : q_dec 124 91 = some (12, .iload_n 2, 1) := by decide +kernel
theorem i_124_92 : q_dec 124 92 = some (12, .ifCond .le (97), 3) := by decide +kernel
theorem i_124_95 : q_dec 124 95 = some (12, .iload_n 3, 1) := by decide +kernel
theorem i_124_96 : q_dec 124 96 = some (12, .ifCond .le (93), 3) := by decide +kernel
theorem i_124_99 : q_dec 124 99 = some (12, .iload_n 2, 1) := by decide +kernel
theorem i_124_100 : q_dec 124 100 = some (12, .iload_n 3, 1) := by decide +kernel
theorem i_124_101 : q_dec 124 101 = some (12, .idiv, 1) := by decide +kernel
theorem i_124_102 : q_dec 124 102 = some (12, .bipush 10, 2) := by decide +kernel
theorem i_124_104 : q_dec 124 104 = some (12, .irem, 1) := by decide +kernel
theorem i_124_105 : q_dec 124 105 = some (12, .iconst 1, 1) := by decide +kernel
theorem i_124_106 : q_dec 124 106 = some (12, .isub, 1) := by decide +kernel
theorem i_124_107 : q_dec 124 107 = some (12, .istore 9, 2) := by decide +kernel
theorem i_124_109 : q_dec 124 109 = some (12, .iload_n 3, 1) := by decide +kernel
theorem i_124_110 : q_dec 124 110 = some (12, .bipush 10, 2) := by decide +kernel
theorem i_124_112 : q_dec 124 112 = some (12, .idiv, 1) := by decide +kernel
theorem i_124_113 : q_dec 124 113 = some (12, .istore_n 3, 1) := by decide +kernel
theorem i_124_114 : q_dec 124 114 = some (12, .aload_n 0, 1) := by decide +kernel
theorem i_124_115 : q_dec 124 115 = some (12, .iload 4, 2) := by decide +kernel
theorem i_124_117 : q_dec 124 117 = some (12, .iload 9, 2) := by decide +kernel
theorem i_124_119 : q_dec 124 119 = some (12, .invokevirtual 187, 3) := by decide +kernel
theorem i_124_122 : q_dec 124 122 = some (12, .istore 4, 2) := by decide +kernel
theorem i_124_124 : q_dec 124 124 = some (12, .iload 4, 2) := by decide +kernel
theorem i_124_126 : q_dec 124 126 = some (12, .ifCond .ge (9), 3) := by decide +kernel
theorem i_124_129 : q_dec 124 129 = some (12, .bipush (-10), 2) := by decide +kernel
theorem i_124_131 : q_dec 124 131 = some (12, .iload 8, 2) := by decide +kernel
theorem i_124_133 : q_dec 124 133 = some (12, .isub, 1) := by decide +kernel
theorem i_124_134 : q_dec 124 134 = some (12, .ireturn, 1) := by decide +kernel
theorem i_124_135 : q_dec 124 135 = some (12, .iload 9, 2) := by decide +kernel
theorem i_124_137 : q_dec 124 137 = some (12, .iload 7, 2) := by decide +kernel
theorem i_124_139 : q_dec 124 139 = some (12, .if_icmp .ne (10), 3) := by decide +kernel
theorem i_124_142 : q_dec 124 142 = some (12, .iload 6, 2) := by decide +kernel
theorem i_124_144 : q_dec 124 144 = some (12, .iconst 1, 1) := by decide +kernel
theorem i_124_145 : q_dec 124 145 = some (12, .iadd, 1) := by decide +kernel
theorem i_124_146 : q_dec 124 146 = some (12, .goto 4, 3) := by decide +kernel
theorem i_124_149 : q_dec 124 149 = some (12, .iconst 1, 1) := by decide +kernel
theorem i_124_150 : q_dec 124 150 = some (12, .istore 6, 2) := by decide +kernel
theorem i_124_152 : q_dec 124 152 = some (12, .aload_n 0, 1) := by decide +kernel
theorem i_124_153 : q_dec 124 153 = some (12, .getfield 167, 3) := by decide +kernel
theorem i_124_156 : q_dec 124 156 = some (12, .iload 4, 2) := by decide +kernel
theorem i_124_158 : q_dec 124 158 = some (12, .invokestatic 83, 3) := by decide +kernel
theorem i_124_161 : q_dec 124 161 = some (12, .ifCond .eq (7), 3) := by decide +kernel
theorem i_124_164 : q_dec 124 164 = some (12, .iconst (-1), 1) := by decide +kernel
theorem i_124_165 : q_dec 124 165 = some (12, .goto 5, 3) := by decide +kernel
theorem i_124_168 : q_dec 124 168 = some (12, .iload 9, 2) := by decide +kernel
theorem i_124_170 : q_dec 124 170 = some (12, .istore 7, 2) := by decide +kernel
theorem i_124_172 : q_dec 124 172 = some (12, .iload 5, 2) := by decide +kernel
theorem i_124_174 : q_dec 124 174 = some (12, .aload_n 0, 1) := by decide +kernel
theorem i_124_175 : q_dec 124 175 = some (12, .iload 6, 2) := by decide +kernel
theorem i_124_177 : q_dec 124 177 = some (12, .invokevirtual 194, 3) := by decide +kernel
theorem i_124_180 : q_dec 124 180 = some (12, .iadd, 1) := by decide +kernel
theorem i_124_181 : q_dec 124 181 = some (12, .istore 5, 2) := by decide +kernel
theorem i_124_183 : q_dec 124 183 = some (12, .iinc 8 1, 3) := by decide +kernel
theorem i_124_186 : q_dec 124 186 = some (12, .goto (-95), 3) := by decide +kernel
theorem i_124_189 : q_dec 124 189 = some (12, .iload 5, 2) := by decide +kernel
theorem i_124_191 : q_dec 124 191 = some (12, .ireturn, 1) := by decide +kernel
theorem i_125_0 : q_dec 125 0 = some (12, .aload_n 0, 1) := by decide +kernel
theorem i_125_1 : q_dec 125 1 = some (12, .iload_n 1, 1) := by decide +kernel
theorem i_125_2 : q_dec 125 2 = some (12, .iload_n 2, 1) := by decide +kernel
theorem i_125_3 : q_dec 125 3 = some (12, .invokevirtual 210, 3) := by decide +kernel
theorem i_125_6 : q_dec 125 6 = some (12, .ifCond .eq (9), 3) := by decide +kernel
theorem i_125_9 : q_dec 125 9 = some (12, .iload_n 3, 1) := by decide +kernel
theorem i_125_10 : q_dec 125 10 = some (12, .bipush (-2), 2) := by decide +kernel
theorem i_125_12 : q_dec 125 12 = some (12, .if_icmp .ge (5), 3) := by decide +kernel
theorem i_125_15 : q_dec 125 15 = some (12, .iconst (-1), 1) := by decide +kernel
theorem i_125_16 : q_dec 125 16 = some (12, .ireturn, 1) := by decide +kernel
theorem i_125_17 : q_dec 125 17 = some (12, .aload_n 0, 1) := by decide +kernel
theorem i_125_18 : q_dec 125 18 = some (12, .iload_n 2, 1) := by decide +kernel
theorem i_125_19 : q_dec 125 19 = some (12, .aload_n 0, 1) := by decide +kernel
theorem i_125_20 : q_dec 125 20 = some (12, .getfield 167, 3) := by decide +kernel
theorem i_125_23 : q_dec 125 23 = some (12, .invokevirtual 213, 3) := by decide +kernel
theorem i_125_26 : q_dec 125 26 = some (12, .bipush 17, 2) := by decide +kernel
theorem i_125_28 : q_dec 125 28 = some (12, .iload_n 1, 1) := by decide +kernel
theorem i_125_29 : q_dec 125 29 = some (12, .imul, 1) := by decide +kernel
theorem i_125_30 : q_dec 125 30 = some (12, .bipush 16, 2) := by decide +kernel
theorem i_125_32 : q_dec 125 32 = some (12, .iadd, 1) := by decide +kernel
theorem i_125_33 : q_dec 125 33 = some (12, .istore 4, 2) := by decide +kernel
theorem i_125_35 : q_dec 125 35 = some (12, .aload_n 0, 1) := by decide +kernel
theorem i_125_36 : q_dec 125 36 = some (12, .getfield 45, 3) := by decide +kernel
theorem i_125_39 : q_dec 125 39 = some (12, .iload 4, 2) := by decide +kernel
theorem i_125_41 : q_dec 125 41 = some (12, .iaload, 1) := by decide +kernel
theorem i_125_42 : q_dec 125 42 = some (12, .ldc 202, 2) := by decide +kernel
theorem i_125_44 : q_dec 125 44 = some (12, .if_icmp .lt (6), 3) := by decide +kernel
theorem i_125_47 : q_dec 125 47 = some (12, .bipush (-9), 2) := by decide +kernel
theorem i_125_49 : q_dec 125 49 = some (12, .ireturn, 1) := by decide +kernel
theorem i_125_50 : q_dec 125 50 = some (12, .aload_n 0, 1) := by decide +kernel
theorem i_125_51 : q_dec 125 51 = some (12, .getfield 45, 3) := by decide +kernel
theorem i_125_54 : q_dec 125 54 = some (12, .iload 4, 2) := by decide +kernel
theorem i_125_56 : q_dec 125 56 = some (12, .iaload, 1) := by decide +kernel
theorem i_125_57 : q_dec 125 57 = some (12, .sipush 1000, 3) := by decide +kernel
theorem i_125_60 : q_dec 125 60 = some (12, .irem, 1) := by decide +kernel
theorem i_125_61 : q_dec 125 61 = some (12, .istore 5, 2) := by decide +kernel
theorem i_125_63 : q_dec 125 63 = some (12, .iload_n 3, 1) := by decide +kernel
theorem i_125_64 : q_dec 125 64 = some (12, .ifCond .ge (25), 3) := by decide +kernel
theorem i_125_67 : q_dec 125 67 = some (12, .iload_n 3, 1) := by decide +kernel
theorem i_125_68 : q_dec 125 68 = some (12, .iconst (-1), 1) := by decide +kernel
theorem i_125_69 : q_dec 125 69 = some (12, .if_icmp .ne (8), 3) := by decide +kernel
theorem i_125_72 : q_dec 125 72 = some (12, .iload 5, 2) := by decide +kernel
theorem i_125_74 : q_dec 125 74 = some (12, .goto 14, 3) := by decide +kernel
theorem i_125_77 : q_dec 125 77 = some (12, .aload_n 0, 1) := by decide +kernel
theorem i_125_78 : q_dec 125 78 = some (12, .getfield 45, 3) := by decide +kernel
theorem i_125_81 : q_dec 125 81 = some (12, .iload 4, 2) := by decide +kernel
theorem i_125_83 : q_dec 125 83 = some (12, .iaload, 1) := by decide +kernel
theorem i_125_84 : q_dec 125 84 = some (12, .sipush 1000, 3) := by decide +kernel
theorem i_125_87 : q_dec 125 87 = some (12, .idiv, 1) := by decide +kernel
theorem i_125_88 : q_dec 125 88 = some (12, .ireturn, 1) := by decide +kernel
theorem i_125_89 : q_dec 125 89 = some (12, .iload_n 3, 1) := by decide +kernel
theorem i_125_90 : q_dec 125 90 = some (12, .iload 5, 2) := by decide +kernel
theorem i_125_92 : q_dec 125 92 = some (12, .if_icmp .lt (6), 3) := by decide +kernel
theorem i_125_95 : q_dec 125 95 = some (12, .bipush (-5), 2) := by decide +kernel
theorem i_125_97 : q_dec 125 97 = some (12, .ireturn, 1) := by decide +kernel
theorem i_125_98 : q_dec 125 98 = some (12, .iconst 0, 1) := by decide +kernel
theorem i_125_99 : q_dec 125 99 = some (12, .istore 6, 2) := by decide +kernel
theorem i_125_101 : q_dec 125 101 = some (12, .iconst 0, 1) := by decide +kernel
theorem i_125_102 : q_dec 125 102 = some (12, .istore 7, 2) := by decide +kernel
theorem i_125_104 : q_dec 125 104 = some (12, .iload 7, 2) := by decide +kernel
theorem i_125_106 : q_dec 125 106 = some (12, .iload_n 3, 1) := by decide +kernel
theorem i_125_107 : q_dec 125 107 = some (12, .if_icmp .gt (43), 3) := by decide +kernel
theorem i_125_110 : q_dec 125 110 = some (12, .iconst 0, 1) := by decide +kernel
theorem i_125_111 : q_dec 125 111 = some (12, .istore 6, 2) := by decide +kernel
theorem i_125_113 : q_dec 125 113 = some (12, .aload_n 0, 1) := by decide +kernel
theorem i_125_114 : q_dec 125 114 = some (12, .iload 4, 2) := by decide +kernel
theorem i_125_116 : q_dec 125 116 = some (12, .iload 6, 2) := by decide +kernel
theorem i_125_118 : q_dec 125 118 = some (12, .invokevirtual 217, 3) := by decide +kernel
theorem i_125_121 : q_dec 125 121 = some (12, .ifCond .ne (9), 3) := by decide +kernel
theorem i_125_124 : q_dec 125 124 = some (12, .iinc 6 1, 3) := by decide +kernel
theorem i_125_127 : q_dec 125 127 = some (12, .goto (-14), 3) := by decide +kernel
theorem i_125_130 : q_dec 125 130 = some (12, .aload_n 0, 1) := by decide +kernel
theorem i_125_131 : q_dec 125 131 = some (12, .iload 4, 2) := by decide +kernel
theorem i_125_133 : q_dec 125 133 = some (12, .iload 6, 2) := by decide +kernel
theorem i_125_135 : q_dec 125 135 = some (12, .aload_n 0, 1) := by decide +kernel
theorem i_125_136 : q_dec 125 136 = some (12, .getfield 167, 3) := by decide +kernel
theorem i_125_139 : q_dec 125 139 = some (12, .invokevirtual 206, 3) := by decide +kernel
theorem i_125_142 : q_dec 125 142 = some (12, .istore 4, 2) := by decide +kernel
theorem i_125_144 : q_dec 125 144 = some (12, .iinc 7 1, 3) := by decide +kernel
theorem i_125_147 : q_dec 125 147 = some (12, .goto (-43), 3) := by decide +kernel
theorem i_125_150 : q_dec 125 150 = some (12, .iload 6, 2) := by decide +kernel
theorem i_125_152 : q_dec 125 152 = some (12, .ireturn, 1) := by decide +kernel
theorem i_126_0 : q_dec 126 0 = some (12, .aload_n 0, 1) := by decide +kernel
theorem i_126_1 : q_dec 126 1 = some (12, .iload_n 1, 1) := by decide +kernel
theorem i_126_2 : q_dec 126 2 = some (12, .invokevirtual 182, 3) := by decide +kernel
theorem i_126_5 : q_dec 126 5 = some (12, .ifCond .eq (15), 3) := by decide +kernel
theorem i_126_8 : q_dec 126 8 = some (12, .aload_n 0, 1) := by decide +kernel
theorem i_126_9 : q_dec 126 9 = some (12, .iload_n 2, 1) := by decide +kernel
theorem i_126_10 : q_dec 126 10 = some (12, .invokevirtual 182, 3) := by decide +kernel
theorem i_126_13 : q_dec 126 13 = some (12, .ifCond .eq (7), 3) := by decide +kernel
theorem i_126_16 : q_dec 126 16 = some (12, .iconst 1, 1) := by decide +kernel
theorem i_126_17 : q_dec 126 17 = some (12, .goto 4, 3) := by decide +kernel
theorem i_126_20 : q_dec 126 20 = some (12, .iconst 0, 1) := by decide +kernel
theorem i_126_21 : q_dec 126 21 = some (12, .ireturn, 1) := by decide +kernel
theorem i_127_0 : q_dec 127 0 = some (12, .bipush 17, 2) := by decide +kernel
theorem i_127_2 : q_dec 127 2 = some (12, .aload_n 0, 1) := by decide +kernel
theorem i_127_3 : q_dec 127 3 = some (12, .getfield 7, 3) := by decide +kernel
theorem i_127_6 : q_dec 127 6 = some (12, .imul, 1) := by decide +kernel
theorem i_127_7 : q_dec 127 7 = some (12, .aload_n 0, 1) := by decide +kernel
theorem i_127_8 : q_dec 127 8 = some (12, .getfield 13, 3) := by decide +kernel
theorem i_127_11 : q_dec 127 11 = some (12, .imul, 1) := by decide +kernel
theorem i_127_12 : q_dec 127 12 = some (12, .istore_n 3, 1) := by decide +kernel
theorem i_127_13 : q_dec 127 13 = some (12, .iconst 0, 1) := by decide +kernel
theorem i_127_14 : q_dec 127 14 = some (12, .istore 4, 2) := by decide +kernel
theorem i_127_16 : q_dec 127 16 = some (12, .iload 4, 2) := by decide +kernel
theorem i_127_18 : q_dec 127 18 = some (12, .iload_n 3, 1) := by decide +kernel
theorem i_127_19 : q_dec 127 19 = some (12, .if_icmp .ge (31), 3) := by decide +kernel
theorem i_127_22 : q_dec 127 22 = some (12, .aload_n 0, 1) := by decide +kernel
theorem i_127_23 : q_dec 127 23 = some (12, .getfield 45, 3) := by decide +kernel
theorem i_127_26 : q_dec 127 26 = some (12, .iload 4, 2) := by decide +kernel
theorem i_127_28 : q_dec 127 28 = some (12, .iload 4, 2) := by decide +kernel
theorem i_127_30 : q_dec 127 30 = some (12, .bipush 17, 2) := by decide +kernel
theorem i_127_32 : q_dec 127 32 = some (12, .idiv, 1) := by decide +kernel
theorem i_127_33 : q_dec 127 33 = some (12, .iload_n 1, 1) := by decide +kernel
theorem i_127_34 : q_dec 127 34 = some (12, .if_icmp .ne (7), 3) := by decide +kernel
theorem i_127_37 : q_dec 127 37 = some (12, .iconst 0, 1) := by decide +kernel
theorem i_127_38 : q_dec 127 38 = some (12, .goto 5, 3) := by decide +kernel
theorem i_127_41 : q_dec 127 41 = some (12, .ldc 202, 2) := by decide +kernel
theorem i_127_43 : q_dec 127 43 = some (12, .iastore, 1) := by decide +kernel
theorem i_127_44 : q_dec 127 44 = some (12, .iinc 4 1, 3) := by decide +kernel
theorem i_127_47 : q_dec 127 47 = some (12, .goto (-31), 3) := by decide +kernel
theorem i_127_50 : q_dec 127 50 = some (12, .iconst 1, 1) := by decide +kernel
theorem i_127_51 : q_dec 127 51 = some (12, .istore 4, 2) := by decide +kernel
theorem i_127_53 : q_dec 127 53 = some (12, .iload 4, 2) := by decide +kernel
theorem i_127_55 : q_dec 127 55 = some (12, .ifCond .eq (174), 3) := by decide +kernel
theorem i_127_58 : q_dec 127 58 = some (12, .iconst 0, 1) := by decide +kernel
theorem i_127_59 : q_dec 127 59 = some (12, .istore 4, 2) := by decide +kernel
theorem i_127_61 : q_dec 127 61 = some (12, .iload_n 3, 1) := by decide +kernel
theorem i_127_62 : q_dec 127 62 = some (12, .iconst 1, 1) := by decide +kernel
theorem i_127_63 : q_dec 127 63 = some (12, .isub, 1) := by decide +kernel
theorem i_127_64 : q_dec 127 64 = some (12, .istore 5, 2) := by decide +kernel
theorem i_127_66 : q_dec 127 66 = some (12, .iload 5, 2) := by decide +kernel
theorem i_127_68 : q_dec 127 68 = some (12, .ifCond .lt (158), 3) := by decide +kernel
theorem i_127_71 : q_dec 127 71 = some (12, .iload 5, 2) := by decide +kernel
theorem i_127_73 : q_dec 127 73 = some (12, .bipush 17, 2) := by decide +kernel
theorem i_127_75 : q_dec 127 75 = some (12, .idiv, 1) := by decide +kernel
theorem i_127_76 : q_dec 127 76 = some (12, .iload_n 1, 1) := by decide +kernel
theorem i_127_77 : q_dec 127 77 = some (12, .if_icmp .eq (143), 3) := by decide +kernel
theorem i_127_80 : q_dec 127 80 = some (12, .aload_n 0, 1) := by decide +kernel
theorem i_127_81 : q_dec 127 81 = some (12, .getfield 80, 3) := by decide +kernel
theorem i_127_84 : q_dec 127 84 = some (12, .iload 5, 2) := by decide +kernel
theorem i_127_86 : q_dec 127 86 = some (12, .bipush 17, 2) := by decide +kernel
theorem i_127_88 : q_dec 127 88 = some (12, .idiv, 1) := by decide +kernel
theorem i_127_89 : q_dec 127 89 = some (12, .invokestatic 83, 3) := by decide +kernel
theorem i_127_92 : q_dec 127 92 = some (12, .ifCond .ne (128), 3) := by decide +kernel
theorem i_127_95 : q_dec 127 95 = some (12, .aload_n 0, 1) := by decide +kernel
theorem i_127_96 : q_dec 127 96 = some (12, .getfield 45, 3) := by decide +kernel
theorem i_127_99 : q_dec 127 99 = some (12, .iload 5, 2) := by decide +kernel
theorem i_127_101 : q_dec 127 101 = some (12, .iaload, 1) := by decide +kernel
theorem i_127_102 : q_dec 127 102 = some (12, .istore 6, 2) := by decide +kernel
theorem i_127_104 : q_dec 127 104 = some (12, .iconst 0, 1) := by decide +kernel
theorem i_127_105 : q_dec 127 105 = some (12, .istore 7, 2) := by decide +kernel
theorem i_127_107 : q_dec 127 107 = some (12, .iload 7, 2) := by decide +kernel
theorem i_127_109 : q_dec 127 109 = some (12, .iconst 4, 1) := by decide +kernel
theorem i_127_110 : q_dec 127 110 = some (12, .if_icmp .ge (77), 3) := by decide +kernel
theorem i_127_113 : q_dec 127 113 = some (12, .aload_n 0, 1) := by decide +kernel
theorem i_127_114 : q_dec 127 114 = some (12, .iload 5, 2) := by decide +kernel
theorem i_127_116 : q_dec 127 116 = some (12, .iload 7, 2) := by decide +kernel
theorem i_127_118 : q_dec 127 118 = some (12, .invokevirtual 203, 3) := by decide +kernel
theorem i_127_121 : q_dec 127 121 = some (12, .istore 8, 2) := by decide +kernel
theorem i_127_123 : q_dec 127 123 = some (12, .iload 8, 2) := by decide +kernel
theorem i_127_125 : q_dec 127 125 = some (12, .iconst 4, 1) := by decide +kernel
theorem i_127_126 : q_dec 127 126 = some (12, .if_icmp .le (7), 3) := by decide +kernel
theorem i_127_129 : q_dec 127 129 = some (12, .iconst (-1), 1) := by decide +kernel
theorem i_127_130 : q_dec 127 130 = some (12, .goto 12, 3) := by decide +kernel
theorem i_127_133 : q_dec 127 133 = some (12, .aload_n 0, 1) := by decide +kernel
theorem i_127_134 : q_dec 127 134 = some (12, .iload 5, 2) := by decide +kernel
theorem i_127_136 : q_dec 127 136 = some (12, .iload 7, 2) := by decide +kernel
theorem i_127_138 : q_dec 127 138 = some (12, .iload_n 2, 1) := by decide +kernel
theorem i_127_139 : q_dec 127 139 = some (12, .invokevirtual 206, 3) := by decide +kernel
theorem i_127_142 : q_dec 127 142 = some (12, .istore 9, 2) := by decide +kernel
theorem i_127_144 : q_dec 127 144 = some (12, .iload 9, 2) := by decide +kernel
theorem i_127_146 : q_dec 127 146 = some (12, .ifCond .ge (8), 3) := by decide +kernel
theorem i_127_149 : q_dec 127 149 = some (12, .iload 6, 2) := by decide +kernel
theorem i_127_151 : q_dec 127 151 = some (12, .goto 28, 3) := by decide +kernel
theorem i_127_154 : q_dec 127 154 = some (12, .iload 6, 2) := by decide +kernel
theorem i_127_156 : q_dec 127 156 = some (12, .aload_n 0, 1) := by decide +kernel
theorem i_127_157 : q_dec 127 157 = some (12, .getfield 45, 3) := by decide +kernel
theorem i_127_160 : q_dec 127 160 = some (12, .iload 9, 2) := by decide +kernel
theorem i_127_162 : q_dec 127 162 = some (12, .iaload, 1) := by decide +kernel
theorem i_127_163 : q_dec 127 163 = some (12, .sipush 1000, 3) := by decide +kernel
