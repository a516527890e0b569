theorem i_127_166 : q_dec 127 166 = some (12, .aload_n 0, 1) := by decide +kernel
theorem i_127_167 : q_dec 127 167 = some (12, .iload 8, 2) := by decide +kernel
theorem i_127_169 : q_dec 127 169 = some (12, .invokevirtual 194, 3) := by decide +kernel
theorem i_127_172 : q_dec 127 172 = some (12, .imul, 1) := by decide +kernel
theorem i_127_173 : q_dec 127 173 = some (12, .iadd, 1) := by decide +kernel
theorem i_127_174 : q_dec 127 174 = some (12, .iconst 1, 1) := by decide +kernel
theorem i_127_175 : q_dec 127 175 = some (12, .iadd, 1) := by decide +kernel
theorem i_127_176 : q_dec 127 176 = some (12, .invokestatic 108, 3) := by decide +kernel
theorem i_127_179 : q_dec 127 179 = some (12, .istore 6, 2) := by decide +kernel
theorem i_127_181 : q_dec 127 181 = some (12, .iinc 7 1, 3) := by decide +kernel
theorem i_127_184 : q_dec 127 184 = some (12, .goto (-77), 3) := by decide +kernel
theorem i_127_187 : q_dec 127 187 = some (12, .iload 4, 2) := by decide +kernel
theorem i_127_189 : q_dec 127 189 = some (12, .ifCond .ne (15), 3) := by decide +kernel
theorem i_127_192 : q_dec 127 192 = some (12, .iload 6, 2) := by decide +kernel
theorem i_127_194 : q_dec 127 194 = some (12, .aload_n 0, 1) := by decide +kernel
theorem i_127_195 : q_dec 127 195 = some (12, .getfield 45, 3) := by decide +kernel
theorem i_127_198 : q_dec 127 198 = some (12, .iload 5, 2) := by decide +kernel
theorem i_127_200 : q_dec 127 200 = some (12, .iaload, 1) := by decide +kernel
theorem i_127_201 : q_dec 127 201 = some (12, .if_icmp .ge (7), 3) := by decide +kernel
theorem i_127_204 : q_dec 127 204 = some (12, .iconst 1, 1) := by decide +kernel
theorem i_127_205 : q_dec 127 205 = some (12, .goto 4, 3) := by decide +kernel
theorem i_127_208 : q_dec 127 208 = some (12, .iconst 0, 1) := by decide +kernel
theorem i_127_209 : q_dec 127 209 = some (12, .istore 4, 2) := by decide +kernel
theorem i_127_211 : q_dec 127 211 = some (12, .aload_n 0, 1) := by decide +kernel
theorem i_127_212 : q_dec 127 212 = some (12, .getfield 45, 3) := by decide +kernel
theorem i_127_215 : q_dec 127 215 = some (12, .iload 5, 2) := by decide +kernel
theorem i_127_217 : q_dec 127 217 = some (12, .iload 6, 2) := by decide +kernel
theorem i_127_219 : q_dec 127 219 = some (12, .iastore, 1) := by decide +kernel
theorem i_127_220 : q_dec 127 220 = some (12, .iinc 5 (-1), 3) := by decide +kernel
theorem i_127_223 : q_dec 127 223 = some (12, .goto (-157), 3) := by decide +kernel
theorem i_127_226 : q_dec 127 226 = some (12, .goto (-173), 3) := by decide +kernel
theorem i_127_229 : q_dec 127 229 = some (12, .return_, 1) := by decide +kernel
theorem i_128_0 : q_dec 128 0 = some (12, .iload_n 1, 1) := by decide +kernel
theorem i_128_1 : q_dec 128 1 = some (12, .bipush 17, 2) := by decide +kernel
theorem i_128_3 : q_dec 128 3 = some (12, .irem, 1) := by decide +kernel
theorem i_128_4 : q_dec 128 4 = some (12, .istore_n 3, 1) := by decide +kernel
theorem i_128_5 : q_dec 128 5 = some (12, .iload_n 3, 1) := by decide +kernel
theorem i_128_6 : q_dec 128 6 = some (12, .bipush 16, 2) := by decide +kernel
theorem i_128_8 : q_dec 128 8 = some (12, .if_icmp .ge (18), 3) := by decide +kernel
theorem i_128_11 : q_dec 128 11 = some (12, .iload_n 3, 1) := by decide +kernel
theorem i_128_12 : q_dec 128 12 = some (12, .iconst 4, 1) := by decide +kernel
theorem i_128_13 : q_dec 128 13 = some (12, .idiv, 1) := by decide +kernel
theorem i_128_14 : q_dec 128 14 = some (12, .iload_n 2, 1) := by decide +kernel
theorem i_128_15 : q_dec 128 15 = some (12, .if_icmp .ne (11), 3) := by decide +kernel
theorem i_128_18 : q_dec 128 18 = some (12, .iload_n 3, 1) := by decide +kernel
theorem i_128_19 : q_dec 128 19 = some (12, .iconst 4, 1) := by decide +kernel
theorem i_128_20 : q_dec 128 20 = some (12, .irem, 1) := by decide +kernel
theorem i_128_21 : q_dec 128 21 = some (12, .iconst 2, 1) := by decide +kernel
theorem i_128_22 : q_dec 128 22 = some (12, .iadd, 1) := by decide +kernel
theorem i_128_23 : q_dec 128 23 = some (12, .goto 4, 3) := by decide +kernel
theorem i_128_26 : q_dec 128 26 = some (12, .iconst 1, 1) := by decide +kernel
theorem i_128_27 : q_dec 128 27 = some (12, .ireturn, 1) := by decide +kernel
theorem i_129_0 : q_dec 129 0 = some (12, .iload_n 1, 1) := by decide +kernel
theorem i_129_1 : q_dec 129 1 = some (12, .bipush 17, 2) := by decide +kernel
theorem i_129_3 : q_dec 129 3 = some (12, .idiv, 1) := by decide +kernel
theorem i_129_4 : q_dec 129 4 = some (12, .istore 4, 2) := by decide +kernel
theorem i_129_6 : q_dec 129 6 = some (12, .iload_n 1, 1) := by decide +kernel
theorem i_129_7 : q_dec 129 7 = some (12, .bipush 17, 2) := by decide +kernel
theorem i_129_9 : q_dec 129 9 = some (12, .irem, 1) := by decide +kernel
theorem i_129_10 : q_dec 129 10 = some (12, .istore 5, 2) := by decide +kernel
theorem i_129_12 : q_dec 129 12 = some (12, .aload_n 0, 1) := by decide +kernel
theorem i_129_13 : q_dec 129 13 = some (12, .iload 4, 2) := by decide +kernel
theorem i_129_15 : q_dec 129 15 = some (12, .iload_n 2, 1) := by decide +kernel
theorem i_129_16 : q_dec 129 16 = some (12, .invokevirtual 187, 3) := by decide +kernel
theorem i_129_19 : q_dec 129 19 = some (12, .istore 6, 2) := by decide +kernel
theorem i_129_21 : q_dec 129 21 = some (12, .iload 6, 2) := by decide +kernel
theorem i_129_23 : q_dec 129 23 = some (12, .ifCond .ge (5), 3) := by decide +kernel
theorem i_129_26 : q_dec 129 26 = some (12, .iconst (-1), 1) := by decide +kernel
theorem i_129_27 : q_dec 129 27 = some (12, .ireturn, 1) := by decide +kernel
theorem i_129_28 : q_dec 129 28 = some (12, .iload 5, 2) := by decide +kernel
theorem i_129_30 : q_dec 129 30 = some (12, .bipush 16, 2) := by decide +kernel
theorem i_129_32 : q_dec 129 32 = some (12, .if_icmp .ge (20), 3) := by decide +kernel
theorem i_129_35 : q_dec 129 35 = some (12, .iload 5, 2) := by decide +kernel
theorem i_129_37 : q_dec 129 37 = some (12, .iconst 4, 1) := by decide +kernel
theorem i_129_38 : q_dec 129 38 = some (12, .idiv, 1) := by decide +kernel
theorem i_129_39 : q_dec 129 39 = some (12, .iload_n 2, 1) := by decide +kernel
theorem i_129_40 : q_dec 129 40 = some (12, .if_icmp .ne (12), 3) := by decide +kernel
theorem i_129_43 : q_dec 129 43 = some (12, .iload 5, 2) := by decide +kernel
theorem i_129_45 : q_dec 129 45 = some (12, .iconst 4, 1) := by decide +kernel
theorem i_129_46 : q_dec 129 46 = some (12, .irem, 1) := by decide +kernel
theorem i_129_47 : q_dec 129 47 = some (12, .iconst 1, 1) := by decide +kernel
theorem i_129_48 : q_dec 129 48 = some (12, .iadd, 1) := by decide +kernel
theorem i_129_49 : q_dec 129 49 = some (12, .goto 4, 3) := by decide +kernel
theorem i_129_52 : q_dec 129 52 = some (12, .iconst 0, 1) := by decide +kernel
theorem i_129_53 : q_dec 129 53 = some (12, .istore 7, 2) := by decide +kernel
theorem i_129_55 : q_dec 129 55 = some (12, .bipush 17, 2) := by decide +kernel
theorem i_129_57 : q_dec 129 57 = some (12, .iload 6, 2) := by decide +kernel
theorem i_129_59 : q_dec 129 59 = some (12, .imul, 1) := by decide +kernel
theorem i_129_60 : q_dec 129 60 = some (12, .iload_n 3, 1) := by decide +kernel
theorem i_129_61 : q_dec 129 61 = some (12, .iload 6, 2) := by decide +kernel
theorem i_129_63 : q_dec 129 63 = some (12, .invokestatic 83, 3) := by decide +kernel
theorem i_129_66 : q_dec 129 66 = some (12, .ifCond .eq (8), 3) := by decide +kernel
theorem i_129_69 : q_dec 129 69 = some (12, .bipush 16, 2) := by decide +kernel
theorem i_129_71 : q_dec 129 71 = some (12, .goto 9, 3) := by decide +kernel
theorem i_129_74 : q_dec 129 74 = some (12, .iconst 4, 1) := by decide +kernel
theorem i_129_75 : q_dec 129 75 = some (12, .iload_n 2, 1) := by decide +kernel
theorem i_129_76 : q_dec 129 76 = some (12, .imul, 1) := by decide +kernel
theorem i_129_77 : q_dec 129 77 = some (12, .iload 7, 2) := by decide +kernel
theorem i_129_79 : q_dec 129 79 = some (12, .iadd, 1) := by decide +kernel
theorem i_129_80 : q_dec 129 80 = some (12, .iadd, 1) := by decide +kernel
theorem i_129_81 : q_dec 129 81 = some (12, .ireturn, 1) := by decide +kernel
theorem i_130_0 : q_dec 130 0 = some (12, .aload_n 0, 1) := by decide +kernel
theorem i_130_1 : q_dec 130 1 = some (12, .iload_n 1, 1) := by decide +kernel
theorem i_130_2 : q_dec 130 2 = some (12, .iload_n 2, 1) := by decide +kernel
theorem i_130_3 : q_dec 130 3 = some (12, .invokevirtual 203, 3) := by decide +kernel
theorem i_130_6 : q_dec 130 6 = some (12, .istore_n 3, 1) := by decide +kernel
theorem i_130_7 : q_dec 130 7 = some (12, .iload_n 3, 1) := by decide +kernel
theorem i_130_8 : q_dec 130 8 = some (12, .iconst 4, 1) := by decide +kernel
theorem i_130_9 : q_dec 130 9 = some (12, .if_icmp .le (7), 3) := by decide +kernel
theorem i_130_12 : q_dec 130 12 = some (12, .iconst (-1), 1) := by decide +kernel
theorem i_130_13 : q_dec 130 13 = some (12, .goto 13, 3) := by decide +kernel
theorem i_130_16 : q_dec 130 16 = some (12, .aload_n 0, 1) := by decide +kernel
theorem i_130_17 : q_dec 130 17 = some (12, .iload_n 1, 1) := by decide +kernel
theorem i_130_18 : q_dec 130 18 = some (12, .iload_n 2, 1) := by decide +kernel
theorem i_130_19 : q_dec 130 19 = some (12, .aload_n 0, 1) := by decide +kernel
theorem i_130_20 : q_dec 130 20 = some (12, .getfield 167, 3) := by decide +kernel
theorem i_130_23 : q_dec 130 23 = some (12, .invokevirtual 206, 3) := by decide +kernel
theorem i_130_26 : q_dec 130 26 = some (12, .istore 4, 2) := by decide +kernel
theorem i_130_28 : q_dec 130 28 = some (12, .iload 4, 2) := by decide +kernel
theorem i_130_30 : q_dec 130 30 = some (12, .ifCond .lt (35), 3) := by decide +kernel
theorem i_130_33 : q_dec 130 33 = some (12, .aload_n 0, 1) := by decide +kernel
theorem i_130_34 : q_dec 130 34 = some (12, .getfield 45, 3) := by decide +kernel
theorem i_130_37 : q_dec 130 37 = some (12, .iload 4, 2) := by decide +kernel
theorem i_130_39 : q_dec 130 39 = some (12, .iaload, 1) := by decide +kernel
theorem i_130_40 : q_dec 130 40 = some (12, .sipush 1000, 3) := by decide +kernel
theorem i_130_43 : q_dec 130 43 = some (12, .aload_n 0, 1) := by decide +kernel
theorem i_130_44 : q_dec 130 44 = some (12, .iload_n 3, 1) := by decide +kernel
theorem i_130_45 : q_dec 130 45 = some (12, .invokevirtual 194, 3) := by decide +kernel
theorem i_130_48 : q_dec 130 48 = some (12, .imul, 1) := by decide +kernel
theorem i_130_49 : q_dec 130 49 = some (12, .iadd, 1) := by decide +kernel
theorem i_130_50 : q_dec 130 50 = some (12, .iconst 1, 1) := by decide +kernel
theorem i_130_51 : q_dec 130 51 = some (12, .iadd, 1) := by decide +kernel
theorem i_130_52 : q_dec 130 52 = some (12, .aload_n 0, 1) := by decide +kernel
theorem i_130_53 : q_dec 130 53 = some (12, .getfield 45, 3) := by decide +kernel
theorem i_130_56 : q_dec 130 56 = some (12, .iload_n 1, 1) := by decide +kernel
theorem i_130_57 : q_dec 130 57 = some (12, .iaload, 1) := by decide +kernel
theorem i_130_58 : q_dec 130 58 = some (12, .if_icmp .ne (7), 3) := by decide +kernel
theorem i_130_61 : q_dec 130 61 = some (12, .iconst 1, 1) := by decide +kernel
theorem i_130_62 : q_dec 130 62 = some (12, .goto 4, 3) := by decide +kernel
theorem i_130_65 : q_dec 130 65 = some (12, .iconst 0, 1) := by decide +kernel
theorem i_130_66 : q_dec 130 66 = some (12, .ireturn, 1) := by decide +kernel
theorem i_131_0 : q_dec 131 0 = some (12, .aload_n 0, 1) := by decide +kernel
theorem i_131_1 : q_dec 131 1 = some (12, .iload_n 1, 1) := by decide +kernel
theorem i_131_2 : q_dec 131 2 = some (12, .iload_n 2, 1) := by decide +kernel
theorem i_131_3 : q_dec 131 3 = some (12, .invokevirtual 210, 3) := by decide +kernel
theorem i_131_6 : q_dec 131 6 = some (12, .ifCond .eq (7), 3) := by decide +kernel
theorem i_131_9 : q_dec 131 9 = some (12, .iload_n 3, 1) := by decide +kernel
theorem i_131_10 : q_dec 131 10 = some (12, .ifCond .ge (5), 3) := by decide +kernel
theorem i_131_13 : q_dec 131 13 = some (12, .iconst (-1), 1) := by decide +kernel
theorem i_131_14 : q_dec 131 14 = some (12, .ireturn, 1) := by decide +kernel
theorem i_131_15 : q_dec 131 15 = some (12, .aload_n 0, 1) := by decide +kernel
theorem i_131_16 : q_dec 131 16 = some (12, .iload_n 1, 1) := by decide +kernel
theorem i_131_17 : q_dec 131 17 = some (12, .iload_n 2, 1) := by decide +kernel
theorem i_131_18 : q_dec 131 18 = some (12, .invokevirtual 220, 3) := by decide +kernel
theorem i_131_21 : q_dec 131 21 = some (12, .iconst 0, 1) := by decide +kernel
theorem i_131_22 : q_dec 131 22 = some (12, .istore 4, 2) := by decide +kernel
theorem i_131_24 : q_dec 131 24 = some (12, .iload 4, 2) := by decide +kernel
theorem i_131_26 : q_dec 131 26 = some (12, .bipush 60, 2) := by decide +kernel
theorem i_131_28 : q_dec 131 28 = some (12, .if_icmp .gt (35), 3) := by decide +kernel
theorem i_131_31 : q_dec 131 31 = some (12, .aload_n 0, 1) := by decide +kernel
theorem i_131_32 : q_dec 131 32 = some (12, .getfield 51, 3) := by decide +kernel
theorem i_131_35 : q_dec 131 35 = some (12, .iload 4, 2) := by decide +kernel
theorem i_131_37 : q_dec 131 37 = some (12, .iaload, 1) := by decide +kernel
theorem i_131_38 : q_dec 131 38 = some (12, .ldc 202, 2) := by decide +kernel
theorem i_131_40 : q_dec 131 40 = some (12, .if_icmp .ge (17), 3) := by decide +kernel
theorem i_131_43 : q_dec 131 43 = some (12, .aload_n 0, 1) := by decide +kernel
theorem i_131_44 : q_dec 131 44 = some (12, .getfield 51, 3) := by decide +kernel
theorem i_131_47 : q_dec 131 47 = some (12, .iload 4, 2) := by decide +kernel
theorem i_131_49 : q_dec 131 49 = some (12, .iaload, 1) := by decide +kernel
theorem i_131_50 : q_dec 131 50 = some (12, .iload_n 3, 1) := by decide +kernel
theorem i_131_51 : q_dec 131 51 = some (12, .if_icmp .gt (6), 3) := by decide +kernel
theorem i_131_54 : q_dec 131 54 = some (12, .iload 4, 2) := by decide +kernel
theorem i_131_56 : q_dec 131 56 = some (12, .ireturn, 1) := by decide +kernel
theorem i_131_57 : q_dec 131 57 = some (12, .iinc 4 1, 3) := by decide +kernel
theorem i_131_60 : q_dec 131 60 = some (12, .goto (-36), 3) := by decide +kernel
theorem i_131_63 : q_dec 131 63 = some (12, .bipush (-9), 2) := by decide +kernel
theorem i_131_65 : q_dec 131 65 = some (12, .ireturn, 1) := by decide +kernel
theorem i_132_0 : q_dec 132 0 = some (12, .bipush 17, 2) := by decide +kernel
theorem i_132_2 : q_dec 132 2 = some (12, .aload_n 0, 1) := by decide +kernel
theorem i_132_3 : q_dec 132 3 = some (12, .getfield 7, 3) := by decide +kernel
theorem i_132_6 : q_dec 132 6 = some (12, .imul, 1) := by decide +kernel
theorem i_132_7 : q_dec 132 7 = some (12, .aload_n 0, 1) := by decide +kernel
theorem i_132_8 : q_dec 132 8 = some (12, .getfield 13, 3) := by decide +kernel
theorem i_132_11 : q_dec 132 11 = some (12, .imul, 1) := by decide +kernel
theorem i_132_12 : q_dec 132 12 = some (12, .istore_n 3, 1) := by decide +kernel
theorem i_132_13 : q_dec 132 13 = some (12, .iconst 0, 1) := by decide +kernel
theorem i_132_14 : q_dec 132 14 = some (12, .istore 4, 2) := by decide +kernel
theorem i_132_16 : q_dec 132 16 = some (12, .iload 4, 2) := by decide +kernel
theorem i_132_18 : q_dec 132 18 = some (12, .iload_n 3, 1) := by decide +kernel
theorem i_132_19 : q_dec 132 19 = some (12, .if_icmp .ge (34), 3) := by decide +kernel
theorem i_132_22 : q_dec 132 22 = some (12, .aload_n 0, 1) := by decide +kernel
theorem i_132_23 : q_dec 132 23 = some (12, .getfield 45, 3) := by decide +kernel
theorem i_132_26 : q_dec 132 26 = some (12, .iload 4, 2) := by decide +kernel
theorem i_132_28 : q_dec 132 28 = some (12, .iload 4, 2) := by decide +kernel
theorem i_132_30 : q_dec 132 30 = some (12, .bipush 17, 2) := by decide +kernel
theorem i_132_32 : q_dec 132 32 = some (12, .iload_n 1, 1) := by decide +kernel
theorem i_132_33 : q_dec 132 33 = some (12, .imul, 1) := by decide +kernel
theorem i_132_34 : q_dec 132 34 = some (12, .bipush 16, 2) := by decide +kernel
theorem i_132_36 : q_dec 132 36 = some (12, .iadd, 1) := by decide +kernel
theorem i_132_37 : q_dec 132 37 = some (12, .if_icmp .ne (7), 3) := by decide +kernel
theorem i_132_40 : q_dec 132 40 = some (12, .iconst 0, 1) := by decide +kernel
theorem i_132_41 : q_dec 132 41 = some (12, .goto 5, 3) := by decide +kernel
theorem i_132_44 : q_dec 132 44 = some (12, .ldc 202, 2) := by decide +kernel
theorem i_132_46 : q_dec 132 46 = some (12, .iastore, 1) := by decide +kernel
theorem i_132_47 : q_dec 132 47 = some (12, .iinc 4 1, 3) := by decide +kernel
theorem i_132_50 : q_dec 132 50 = some (12, .goto (-34), 3) := by decide +kernel
theorem i_132_53 : q_dec 132 53 = some (12, .iconst 0, 1) := by decide +kernel
theorem i_132_54 : q_dec 132 54 = some (12, .istore 4, 2) := by decide +kernel
theorem i_132_56 : q_dec 132 56 = some (12, .iload 4, 2) := by decide +kernel
theorem i_132_58 : q_dec 132 58 = some (12, .bipush 60, 2) := by decide +kernel
theorem i_132_60 : q_dec 132 60 = some (12, .if_icmp .gt (230), 3) := by decide +kernel
theorem i_132_63 : q_dec 132 63 = some (12, .aload_n 0, 1) := by decide +kernel
theorem i_132_64 : q_dec 132 64 = some (12, .getfield 51, 3) := by decide +kernel
theorem i_132_67 : q_dec 132 67 = some (12, .iload 4, 2) := by decide +kernel
theorem i_132_69 : q_dec 132 69 = some (12, .ldc 202, 2) := by decide +kernel
theorem i_132_71 : q_dec 132 71 = some (12, .iastore, 1) := by decide +kernel
theorem i_132_72 : q_dec 132 72 = some (12, .bipush 17, 2) := by decide +kernel
theorem i_132_74 : q_dec 132 74 = some (12, .iload_n 2, 1) := by decide +kernel
theorem i_132_75 : q_dec 132 75 = some (12, .imul, 1) := by decide +kernel
theorem i_132_76 : q_dec 132 76 = some (12, .istore 5, 2) := by decide +kernel
theorem i_132_78 : q_dec 132 78 = some (12, .iload 5, 2) := by decide +kernel
theorem i_132_80 : q_dec 132 80 = some (12, .bipush 17, 2) := by decide +kernel
theorem i_132_82 : q_dec 132 82 = some (12, .iload_n 2, 1) := by decide +kernel
theorem i_132_83 : q_dec 132 83 = some (12, .iconst 1, 1) := by decide +kernel
theorem i_132_84 : q_dec 132 84 = some (12, .iadd, 1) := by decide +kernel
theorem i_132_85 : q_dec 132 85 = some (12, .imul, 1) := by decide +kernel
theorem i_132_86 : q_dec 132 86 = some (12, .if_icmp .ge (33), 3) := by decide +kernel
theorem i_132_89 : q_dec 132 89 = some (12, .aload_n 0, 1) := by decide +kernel
theorem i_132_90 : q_dec 132 90 = some (12, .getfield 51, 3) := by decide +kernel
theorem i_132_93 : q_dec 132 93 = some (12, .iload 4, 2) := by decide +kernel
theorem i_132_95 : q_dec 132 95 = some (12, .aload_n 0, 1) := by decide +kernel
theorem i_132_96 : q_dec 132 96 = some (12, .getfield 51, 3) := by decide +kernel
theorem i_132_99 : q_dec 132 99 = some (12, .iload 4, 2) := by decide +kernel
theorem i_132_101 : q_dec 132 101 = some (12, .iaload, 1) := by decide +kernel
theorem i_132_102 : q_dec 132 102 = some (12, .aload_n 0, 1) := by decide +kernel
theorem i_132_103 : q_dec 132 103 = some (12, .getfield 45, 3) := by decide +kernel
theorem i_132_106 : q_dec 132 106 = some (12, .iload 5, 2) := by decide +kernel
theorem i_132_108 : q_dec 132 108 = some (12, .iaload, 1) := by decide +kernel
theorem i_132_109 : q_dec 132 109 = some (12, .invokestatic 108, 3) := by decide +kernel
theorem i_132_112 : q_dec 132 112 = some (12, .iastore, 1) := by decide +kernel
theorem i_132_113 : q_dec 132 113 = some (12, .iinc 5 1, 3) := by decide +kernel
theorem i_132_116 : q_dec 132 116 = some (12, .goto (-38), 3) := by decide +kernel
theorem i_132_119 : q_dec 132 119 = some (12, .iconst 0, 1) := by decide +kernel
theorem i_132_120 : q_dec 132 120 = some (12, .istore 5, 2) := by decide +kernel
theorem i_132_122 : q_dec 132 122 = some (12, .iload 5, 2) := by decide +kernel
theorem i_132_124 : q_dec 132 124 = some (12, .iload_n 3, 1) := by decide +kernel
theorem i_132_125 : q_dec 132 125 = some (12, .if_icmp .ge (18), 3) := by decide +kernel
theorem i_132_128 : q_dec 132 128 = some (12, .aload_n 0, 1) := by decide +kernel
theorem i_132_129 : q_dec 132 129 = some (12, .getfield 48, 3) := by decide +kernel
theorem i_132_132 : q_dec 132 132 = some (12, .iload 5, 2) := by decide +kernel
theorem i_132_134 : q_dec 132 134 = some (12, .ldc 202, 2) := by decide +kernel
theorem i_132_136 : q_dec 132 136 = some (12, .iastore, 1) := by decide +kernel
theorem i_132_137 : q_dec 132 137 = some (12, .iinc 5 1, 3) := by decide +kernel
theorem i_132_140 : q_dec 132 140 = some (12, .goto (-18), 3) := by decide +kernel
theorem i_132_143 : q_dec 132 143 = some (12, .iconst 0, 1) := by decide +kernel
theorem i_132_144 : q_dec 132 144 = some (12, .istore 5, 2) := by decide +kernel
theorem i_132_146 : q_dec 132 146 = some (12, .iload 5, 2) := by decide +kernel
theorem i_132_148 : q_dec 132 148 = some (12, .iload_n 3, 1) := by decide +kernel
theorem i_132_149 : q_dec 132 149 = some (12, .if_icmp .ge (106), 3) := by decide +kernel
theorem i_132_152 : q_dec 132 152 = some (12, .iconst 0, 1) := by decide +kernel
theorem i_132_153 : q_dec 132 153 = some (12, .istore 6, 2) := by decide +kernel
theorem i_132_155 : q_dec 132 155 = some (12, .iload 6, 2) := by decide +kernel
theorem i_132_157 : q_dec 132 157 = some (12, .iconst 4, 1) := by decide +kernel
theorem i_132_158 : q_dec 132 158 = some (12, .if_icmp .ge (91), 3) := by decide +kernel
theorem i_132_161 : q_dec 132 161 = some (12, .aload_n 0, 1) := by decide +kernel
theorem i_132_162 : q_dec 132 162 = some (12, .getfield 45, 3) := by decide +kernel
theorem i_132_165 : q_dec 132 165 = some (12, .iload 5, 2) := by decide +kernel
theorem i_132_167 : q_dec 132 167 = some (12, .iaload, 1) := by decide +kernel
theorem i_132_168 : q_dec 132 168 = some (12, .ldc 202, 2) := by decide +kernel
theorem i_132_170 : q_dec 132 170 = some (12, .if_icmp .ge (79), 3) := by decide +kernel
theorem i_132_173 : q_dec 132 173 = some (12, .aload_n 0, 1) := by decide +kernel
theorem i_132_174 : q_dec 132 174 = some (12, .iload 5, 2) := by decide +kernel
theorem i_132_176 : q_dec 132 176 = some (12, .iload 6, 2) := by decide +kernel
theorem i_132_178 : q_dec 132 178 = some (12, .invokevirtual 203, 3) := by decide +kernel
theorem i_132_181 : q_dec 132 181 = some (12, .istore 7, 2) := by decide +kernel
theorem i_132_183 : q_dec 132 183 = some (12, .iload 7, 2) := by decide +kernel
theorem i_132_185 : q_dec 132 185 = some (12, .iconst 4, 1) := by decide +kernel
theorem i_132_186 : q_dec 132 186 = some (12, .if_icmp .le (7), 3) := by decide +kernel
theorem i_132_189 : q_dec 132 189 = some (12, .iconst (-1), 1) := by decide +kernel
theorem i_132_190 : q_dec 132 190 = some (12, .goto 15, 3) := by decide +kernel
theorem i_132_193 : q_dec 132 193 = some (12, .aload_n 0, 1) := by decide +kernel
theorem i_132_194 : q_dec 132 194 = some (12, .iload 5, 2) := by decide +kernel
theorem i_132_196 : q_dec 132 196 = some (12, .iload 6, 2) := by decide +kernel
theorem i_132_198 : q_dec 132 198 = some (12, .aload_n 0, 1) := by decide +kernel
theorem i_132_199 : q_dec 132 199 = some (12, .getfield 167, 3) := by decide +kernel
theorem i_132_202 : q_dec 132 202 = some (12, .invokevirtual 206, 3) := by decide +kernel
theorem i_132_205 : q_dec 132 205 = some (12, .istore 8, 2) := by decide +kernel
theorem i_132_207 : q_dec 132 207 = some (12, .iload 8, 2) := by decide +kernel
theorem i_132_209 : q_dec 132 209 = some (12, .ifCond .lt (34), 3) := by decide +kernel
theorem i_132_212 : q_dec 132 212 = some (12, .aload_n 0, 1) := by decide +kernel
theorem i_132_213 : q_dec 132 213 = some (12, .getfield 48, 3) := by decide +kernel
theorem i_132_216 : q_dec 132 216 = some (12, .iload 8, 2) := by decide +kernel
theorem i_132_218 : q_dec 132 218 = some (12, .aload_n 0, 1) := by decide +kernel
theorem i_132_219 : q_dec 132 219 = some (12, .getfield 48, 3) := by decide +kernel
theorem i_132_222 : q_dec 132 222 = some (12, .iload 8, 2) := by decide +kernel
theorem i_132_224 : q_dec 132 224 = some (12, .iaload, 1) := by decide +kernel
theorem i_132_225 : q_dec 132 225 = some (12, .aload_n 0, 1) := by decide +kernel
theorem i_132_226 : q_dec 132 226 = some (12, .getfield 45, 3) := by decide +kernel
theorem i_132_229 : q_dec 132 229 = some (12, .iload 5, 2) := by decide +kernel
theorem i_132_231 : q_dec 132 231 = some (12, .iaload, 1) := by decide +kernel
theorem i_132_232 : q_dec 132 232 = some (12, .aload_n 0, 1) := by decide +kernel
theorem i_132_233 : q_dec 132 233 = some (12, .iload 7, 2) := by decide +kernel
theorem i_132_235 : q_dec 132 235 = some (12, .invokevirtual 194, 3) := by decide +kernel
theorem i_132_238 : q_dec 132 238 = some (12, .iadd, 1) := by decide +kernel
theorem i_132_239 : q_dec 132 239 = some (12, .invokestatic 108, 3) := by decide +kernel
theorem i_132_242 : q_dec 132 242 = some (12, .iastore, 1) := by decide +kernel
theorem i_132_243 : q_dec 132 243 = some (12, .iinc 6 1, 3) := by decide +kernel
theorem i_132_246 : q_dec 132 246 = some (12, .goto (-91), 3) := by decide +kernel
theorem i_132_249 : q_dec 132 249 = some (12, .iinc 5 1, 3) := by decide +kernel
theorem i_132_252 : q_dec 132 252 = some (12, .goto (-106), 3) := by decide +kernel
theorem i_132_255 : q_dec 132 255 = some (12, .iconst 0, 1) := by decide +kernel
theorem i_132_256 : q_dec 132 256 = some (12, .istore 5, 2) := by decide +kernel
theorem i_132_258 : q_dec 132 258 = some (12, .iload 5, 2) := by decide +kernel
theorem i_132_260 : q_dec 132 260 = some (12, .iload_n 3, 1) := by decide +kernel
theorem i_132_261 : q_dec 132 261 = some (12, .if_icmp .ge (23), 3) := by decide +kernel
theorem i_132_264 : q_dec 132 264 = some (12, .aload_n 0, 1) := by decide +kernel
theorem i_132_265 : q_dec 132 265 = some (12, .getfield 45, 3) := by decide +kernel
theorem i_132_268 : q_dec 132 268 = some (12, .iload 5, 2) := by decide +kernel
theorem i_132_270 : q_dec 132 270 = some (12, .aload_n 0, 1) := by decide +kernel
theorem i_132_271 : q_dec 132 271 = some (12, .getfield 48, 3) := by decide +kernel
theorem i_132_274 : q_dec 132 274 = some (12, .iload 5, 2) := by decide +kernel
theorem i_132_276 : q_dec 132 276 = some (12, .iaload, 1) := by decide +kernel
theorem i_132_277 : q_dec 132 277 = some (12, .iastore, 1) := by decide +kernel
theorem i_132_278 : q_dec 132 278 = some (12, .iinc 5 1, 3) := by decide +kernel
theorem i_132_281 : q_dec 132 281 = some (12, .goto (-23), 3) := by decide +kernel
theorem i_132_284 : q_dec 132 284 = some (12, .iinc 4 1, 3) := by decide +kernel
theorem i_132_287 : q_dec 132 287 = some (12, .goto (-231), 3) := by decide +kernel
theorem i_132_290 : q_dec 132 290 = some (12, .return_, 1) := by decide +kernel
theorem i_133_0 : q_dec 133 0 = some (12, .aload_n 0, 1) := by decide +kernel
theorem i_133_1 : q_dec 133 1 = some (12, .iload_n 1, 1) := by decide +kernel
theorem i_133_2 : q_dec 133 2 = some (12, .iload_n 2, 1) := by decide +kernel
theorem i_133_3 : q_dec 133 3 = some (12, .invokevirtual 210, 3) := by decide +kernel
theorem i_133_6 : q_dec 133 6 = some (12, .ifCond .eq (19), 3) := by decide +kernel
theorem i_133_9 : q_dec 133 9 = some (12, .iload_n 3, 1) := by decide +kernel
theorem i_133_10 : q_dec 133 10 = some (12, .iconst (-1), 1) := by decide +kernel
theorem i_133_11 : q_dec 133 11 = some (12, .if_icmp .lt (14), 3) := by decide +kernel
theorem i_133_14 : q_dec 133 14 = some (12, .iload 4, 2) := by decide +kernel
theorem i_133_16 : q_dec 133 16 = some (12, .i2l, 1) := by decide +kernel
theorem i_133_17 : q_dec 133 17 = some (12, .lconst 0, 1) := by decide +kernel
theorem i_133_18 : q_dec 133 18 = some (12, .lconst 1, 1) := by decide +kernel
theorem i_133_19 : q_dec 133 19 = some (12, .invokestatic 72, 3) := by decide +kernel
theorem i_133_22 : q_dec 133 22 = some (12, .ifCond .ne (5), 3) := by decide +kernel
theorem i_133_25 : q_dec 133 25 = some (12, .iconst (-1), 1) := by decide +kernel
theorem i_133_26 : q_dec 133 26 = some (12, .ireturn, 1) := by decide +kernel
theorem i_133_27 : q_dec 133 27 = some (12, .aload_n 0, 1) := by decide +kernel
theorem i_133_28 : q_dec 133 28 = some (12, .iload_n 1, 1) := by decide +kernel
theorem i_133_29 : q_dec 133 29 = some (12, .iload_n 2, 1) := by decide +kernel
theorem i_133_30 : q_dec 133 30 = some (12, .invokevirtual 220, 3) := by decide +kernel
theorem i_133_33 : q_dec 133 33 = some (12, .iconst 0, 1) := by decide +kernel
theorem i_133_34 : q_dec 133 34 = some (12, .istore 5, 2) := by decide +kernel
theorem i_133_36 : q_dec 133 36 = some (12, .ldc 202, 2) := by decide +kernel
theorem i_133_38 : q_dec 133 38 = some (12, .istore 6, 2) := by decide +kernel
theorem i_133_40 : q_dec 133 40 = some (12, .iconst 0, 1) := by decide +kernel
theorem i_133_41 : q_dec 133 41 = some (12, .istore 7, 2) := by decide +kernel
theorem i_133_43 : q_dec 133 43 = some (12, .iload 7, 2) := by decide +kernel
theorem i_133_45 : q_dec 133 45 = some (12, .bipush 60, 2) := by decide +kernel
theorem i_133_47 : q_dec 133 47 = some (12, .if_icmp .gt (57), 3) := by decide +kernel
theorem i_133_50 : q_dec 133 50 = some (12, .aload_n 0, 1) := by decide +kernel
theorem i_133_51 : q_dec 133 51 = some (12, .getfield 51, 3) := by decide +kernel
theorem i_133_54 : q_dec 133 54 = some (12, .iload 7, 2) := by decide +kernel
theorem i_133_56 : q_dec 133 56 = some (12, .iaload, 1) := by decide +kernel
theorem i_133_57 : q_dec 133 57 = some (12, .iload 6, 2) := by decide +kernel
theorem i_133_59 : q_dec 133 59 = some (12, .if_icmp .ge (39), 3) := by decide +kernel
theorem i_133_62 : q_dec 133 62 = some (12, .iload 5, 2) := by decide +kernel
theorem i_133_64 : q_dec 133 64 = some (12, .iload_n 3, 1) := by decide +kernel
theorem i_133_65 : q_dec 133 65 = some (12, .if_icmp .ne (21), 3) := by decide +kernel
theorem i_133_68 : q_dec 133 68 = some (12, .iload 4, 2) := by decide +kernel
theorem i_133_70 : q_dec 133 70 = some (12, .ifCond .ne (8), 3) := by decide +kernel
theorem i_133_73 : q_dec 133 73 = some (12, .iload 7, 2) := by decide +kernel
theorem i_133_75 : q_dec 133 75 = some (12, .goto 10, 3) := by decide +kernel
theorem i_133_78 : q_dec 133 78 = some (12, .aload_n 0, 1) := by decide +kernel
theorem i_133_79 : q_dec 133 79 = some (12, .getfield 51, 3) := by decide +kernel
theorem i_133_82 : q_dec 133 82 = some (12, .iload 7, 2) := by decide +kernel
theorem i_133_84 : q_dec 133 84 = some (12, .iaload, 1) := by decide +kernel
theorem i_133_85 : q_dec 133 85 = some (12, .ireturn, 1) := by decide +kernel
theorem i_133_86 : q_dec 133 86 = some (12, .aload_n 0, 1) := by decide +kernel
theorem i_133_87 : q_dec 133 87 = some (12, .getfield 51, 3) := by decide +kernel
theorem i_133_90 : q_dec 133 90 = some (12, .iload 7, 2) := by decide +kernel
theorem i_133_92 : q_dec 133 92 = some (12, .iaload, 1) := by decide +kernel
theorem i_133_93 : q_dec 133 93 = some (12, .istore 6, 2) := by decide +kernel
theorem i_133_95 : q_dec 133 95 = some (12, .iinc 5 1, 3) := by decide +kernel
theorem i_133_98 : q_dec 133 98 = some (12, .iinc 7 1, 3) := by decide +kernel
theorem i_133_101 : q_dec 133 101 = some (12, .goto (-58), 3) := by decide +kernel
theorem i_133_104 : q_dec 133 104 = some (12, .iload_n 3, 1) := by decide +kernel
theorem i_133_105 : q_dec 133 105 = some (12, .ifCond .ge (8), 3) := by decide +kernel
theorem i_133_108 : q_dec 133 108 = some (12, .iload 5, 2) := by decide +kernel
theorem i_133_110 : q_dec 133 110 = some (12, .goto 5, 3) := by decide +kernel
theorem i_133_113 : q_dec 133 113 = some (12, .bipush (-5), 2) := by decide +kernel
theorem i_133_115 : q_dec 133 115 = some (12, .ireturn, 1) := by decide +kernel
theorem i_134_0 : q_dec 134 0 = some (12, .aload_n 0, 1) := by decide +kernel
theorem i_134_1 : q_dec 134 1 = some (12, .iload_n 1, 1) := by decide +kernel
theorem i_134_2 : q_dec 134 2 = some (12, .iload_n 2, 1) := by decide +kernel
theorem i_134_3 : q_dec 134 3 = some (12, .invokevirtual 210, 3) := by decide +kernel
theorem i_134_6 : q_dec 134 6 = some (12, .ifCond .ne (5), 3) := by decide +kernel
theorem i_134_9 : q_dec 134 9 = some (12, .iconst (-1), 1) := by decide +kernel
theorem i_134_10 : q_dec 134 10 = some (12, .ireturn, 1) := by decide +kernel
theorem i_134_11 : q_dec 134 11 = some (12, .iconst 1, 1) := by decide +kernel
theorem i_134_12 : q_dec 134 12 = some (12, .iload_n 1, 1) := by decide +kernel
theorem i_134_13 : q_dec 134 13 = some (12, .ishl, 1) := by decide +kernel
theorem i_134_14 : q_dec 134 14 = some (12, .istore_n 3, 1) := by decide +kernel
theorem i_134_15 : q_dec 134 15 = some (12, .iconst (-1), 1) := by decide +kernel
theorem i_134_16 : q_dec 134 16 = some (12, .istore 4, 2) := by decide +kernel
theorem i_134_18 : q_dec 134 18 = some (12, .iload_n 3, 1) := by decide +kernel
theorem i_134_19 : q_dec 134 19 = some (12, .iload_n 2, 1) := by decide +kernel
theorem i_134_20 : q_dec 134 20 = some (12, .invokestatic 83, 3) := by decide +kernel
theorem i_134_23 : q_dec 134 23 = some (12, .ifCond .ne (108), 3) := by decide +kernel
theorem i_134_26 : q_dec 134 26 = some (12, .iload_n 3, 1) := by decide +kernel
theorem i_134_27 : q_dec 134 27 = some (12, .istore 5, 2) := by decide +kernel
theorem i_134_29 : q_dec 134 29 = some (12, .iconst 0, 1) := by decide +kernel
theorem i_134_30 : q_dec 134 30 = some (12, .istore 6, 2) := by decide +kernel
theorem i_134_32 : q_dec 134 32 = some (12, .iload 6, 2) := by decide +kernel
theorem i_134_34 : q_dec 134 34 = some (12, .aload_n 0, 1) := by decide +kernel
theorem i_134_35 : q_dec 134 35 = some (12, .getfield 7, 3) := by decide +kernel
theorem i_134_38 : q_dec 134 38 = some (12, .aload_n 0, 1) := by decide +kernel
theorem i_134_39 : q_dec 134 39 = some (12, .getfield 13, 3) := by decide +kernel
theorem i_134_42 : q_dec 134 42 = some (12, .imul, 1) := by decide +kernel
theorem i_134_43 : q_dec 134 43 = some (12, .if_icmp .ge (70), 3) := by decide +kernel
theorem i_134_46 : q_dec 134 46 = some (12, .iconst 0, 1) := by decide +kernel
theorem i_134_47 : q_dec 134 47 = some (12, .istore 7, 2) := by decide +kernel
theorem i_134_49 : q_dec 134 49 = some (12, .iload 7, 2) := by decide +kernel
theorem i_134_51 : q_dec 134 51 = some (12, .iconst 4, 1) := by decide +kernel
theorem i_134_52 : q_dec 134 52 = some (12, .if_icmp .ge (55), 3) := by decide +kernel
theorem i_134_55 : q_dec 134 55 = some (12, .iload_n 3, 1) := by decide +kernel
theorem i_134_56 : q_dec 134 56 = some (12, .iload 6, 2) := by decide +kernel
theorem i_134_58 : q_dec 134 58 = some (12, .invokestatic 83, 3) := by decide +kernel
theorem i_134_61 : q_dec 134 61 = some (12, .ifCond .eq (46), 3) := by decide +kernel
theorem i_134_64 : q_dec 134 64 = some (12, .aload_n 0, 1) := by decide +kernel
theorem i_134_65 : q_dec 134 65 = some (12, .iload 6, 2) := by decide +kernel
theorem i_134_67 : q_dec 134 67 = some (12, .iload 7, 2) := by decide +kernel
theorem i_134_69 : q_dec 134 69 = some (12, .invokevirtual 187, 3) := by decide +kernel
theorem i_134_72 : q_dec 134 72 = some (12, .istore 8, 2) := by decide +kernel
theorem i_134_74 : q_dec 134 74 = some (12, .iload 8, 2) := by decide +kernel
theorem i_134_76 : q_dec 134 76 = some (12, .ifCond .lt (25), 3) := by decide +kernel
theorem i_134_79 : q_dec 134 79 = some (12, .iload 5, 2) := by decide +kernel
theorem i_134_81 : q_dec 134 81 = some (12, .iconst 1, 1) := by decide +kernel
theorem i_134_82 : q_dec 134 82 = some (12, .iload 8, 2) := by decide +kernel
theorem i_134_84 : q_dec 134 84 = some (12, .ishl, 1) := by decide +kernel
theorem i_134_85 : q_dec 134 85 = some (12, .ior, 1) := by decide +kernel
theorem i_134_86 : q_dec 134 86 = some (12, .istore 5, 2) := by decide +kernel
theorem i_134_88 : q_dec 134 88 = some (12, .aload_n 0, 1) := by decide +kernel
theorem i_134_89 : q_dec 134 89 = some (12, .iload 8, 2) := by decide +kernel
theorem i_134_91 : q_dec 134 91 = some (12, .iload 7, 2) := by decide +kernel
theorem i_134_93 : q_dec 134 93 = some (12, .invokevirtual 187, 3) := by decide +kernel
theorem i_134_96 : q_dec 134 96 = some (12, .istore 8, 2) := by decide +kernel
theorem i_134_98 : q_dec 134 98 = some (12, .goto (-24), 3) := by decide +kernel
theorem i_134_101 : q_dec 134 101 = some (12, .iinc 7 1, 3) := by decide +kernel
theorem i_134_104 : q_dec 134 104 = some (12, .goto (-55), 3) := by decide +kernel
theorem i_134_107 : q_dec 134 107 = some (12, .iinc 6 1, 3) := by decide +kernel
theorem i_134_110 : q_dec 134 110 = some (12, .goto (-78), 3) := by decide +kernel
theorem i_134_113 : q_dec 134 113 = some (12, .iload 5, 2) := by decide +kernel
theorem i_134_115 : q_dec 134 115 = some (12, .iload_n 3, 1) := by decide +kernel
theorem i_134_116 : q_dec 134 116 = some (12, .if_icmp .ne (6), 3) := by decide +kernel
theorem i_134_119 : q_dec 134 119 = some (12, .bipush (-9), 2) := by decide +kernel
theorem i_134_121 : q_dec 134 121 = some (12, .ireturn, 1) := by decide +kernel
theorem i_134_122 : q_dec 134 122 = some (12, .iload 5, 2) := by decide +kernel
theorem i_134_124 : q_dec 134 124 = some (12, .istore_n 3, 1) := by decide +kernel
theorem i_134_125 : q_dec 134 125 = some (12, .iinc 4 1, 3) := by decide +kernel
theorem i_134_128 : q_dec 134 128 = some (12, .goto (-110), 3) := by decide +kernel
theorem i_134_131 : q_dec 134 131 = some (12, .iload 4, 2) := by decide +kernel
theorem i_134_133 : q_dec 134 133 = some (12, .ifCond .ge (7), 3) := by decide +kernel
theorem i_134_136 : q_dec 134 136 = some (12, .iconst 0, 1) := by decide +kernel
theorem i_134_137 : q_dec 134 137 = some (12, .goto 5, 3) := by decide +kernel
theorem i_134_140 : q_dec 134 140 = some (12, .iload 4, 2) := by decide +kernel
theorem i_134_142 : q_dec 134 142 = some (12, .ireturn, 1) := by decide +kernel
theorem i_135_0 : q_dec 135 0 = some (12, .aload_n 0, 1) := by decide +kernel
theorem i_135_1 : q_dec 135 1 = some (12, .iload_n 1, 1) := by decide +kernel
theorem i_135_2 : q_dec 135 2 = some (12, .invokevirtual 182, 3) := by decide +kernel
theorem i_135_5 : q_dec 135 5 = some (12, .ifCond .eq (43), 3) := by decide +kernel
theorem i_135_8 : q_dec 135 8 = some (12, .iload_n 2, 1) := by decide +kernel
theorem i_135_9 : q_dec 135 9 = some (12, .i2l, 1) := by decide +kernel
theorem i_135_10 : q_dec 135 10 = some (12, .lconst 0, 1) := by decide +kernel
theorem i_135_11 : q_dec 135 11 = some (12, .iconst 1, 1) := by decide +kernel
theorem i_135_12 : q_dec 135 12 = some (12, .aload_n 0, 1) := by decide +kernel
theorem i_135_13 : q_dec 135 13 = some (12, .getfield 7, 3) := by decide +kernel
theorem i_135_16 : q_dec 135 16 = some (12, .aload_n 0, 1) := by decide +kernel
theorem i_135_17 : q_dec 135 17 = some (12, .getfield 13, 3) := by decide +kernel
theorem i_135_20 : q_dec 135 20 = some (12, .imul, 1) := by decide +kernel
theorem i_135_21 : q_dec 135 21 = some (12, .ishl, 1) := by decide +kernel
theorem i_135_22 : q_dec 135 22 = some (12, .iconst 1, 1) := by decide +kernel
theorem i_135_23 : q_dec 135 23 = some (12, .isub, 1) := by decide +kernel
theorem i_135_24 : q_dec 135 24 = some (12, .i2l, 1) := by decide +kernel
theorem i_135_25 : q_dec 135 25 = some (12, .invokestatic 72, 3) := by decide +kernel
theorem i_135_28 : q_dec 135 28 = some (12, .ifCond .eq (20), 3) := by decide +kernel
theorem i_135_31 : q_dec 135 31 = some (12, .iload_n 2, 1) := by decide +kernel
theorem i_135_32 : q_dec 135 32 = some (12, .aload_n 0, 1) := by decide +kernel
theorem i_135_33 : q_dec 135 33 = some (12, .getfield 80, 3) := by decide +kernel
theorem i_135_36 : q_dec 135 36 = some (12, .iand, 1) := by decide +kernel
theorem i_135_37 : q_dec 135 37 = some (12, .ifCond .ne (11), 3) := by decide +kernel
theorem i_135_40 : q_dec 135 40 = some (12, .iload_n 2, 1) := by decide +kernel
theorem i_135_41 : q_dec 135 41 = some (12, .invokestatic 223, 3) := by decide +kernel
theorem i_135_44 : q_dec 135 44 = some (12, .iconst 4, 1) := by decide +kernel
theorem i_135_45 : q_dec 135 45 = some (12, .if_icmp .le (5), 3) := by decide +kernel
theorem i_135_48 : q_dec 135 48 = some (12, .iconst (-1), 1) := by decide +kernel
theorem i_135_49 : q_dec 135 49 = some (12, .ireturn, 1) := by decide +kernel
theorem i_135_50 : q_dec 135 50 = some (12, .iconst 0, 1) := by decide +kernel
theorem i_135_51 : q_dec 135 51 = some (12, .istore_n 3, 1) := by decide +kernel
theorem i_135_52 : q_dec 135 52 = some (12, .iconst 0, 1) := by decide +kernel
theorem i_135_53 : q_dec 135 53 = some (12, .istore 4, 2) := by decide +kernel
theorem i_135_55 : q_dec 135 55 = some (12, .iload 4, 2) := by decide +kernel
theorem i_135_57 : q_dec 135 57 = some (12, .aload_n 0, 1) := by decide +kernel
theorem i_135_58 : q_dec 135 58 = some (12, .getfield 7, 3) := by decide +kernel
theorem i_135_61 : q_dec 135 61 = some (12, .aload_n 0, 1) := by decide +kernel
theorem i_135_62 : q_dec 135 62 = some (12, .getfield 13, 3) := by decide +kernel
theorem i_135_65 : q_dec 135 65 = some (12, .imul, 1) := by decide +kernel
theorem i_135_66 : q_dec 135 66 = some (12, .if_icmp .ge (29), 3) := by decide +kernel
theorem i_135_69 : q_dec 135 69 = some (12, .iload_n 2, 1) := by decide +kernel
theorem i_135_70 : q_dec 135 70 = some (12, .iload 4, 2) := by decide +kernel
theorem i_135_72 : q_dec 135 72 = some (12, .invokestatic 83, 3) := by decide +kernel
theorem i_135_75 : q_dec 135 75 = some (12, .ifCond .eq (14), 3) := by decide +kernel
theorem i_135_78 : q_dec 135 78 = some (12, .aload_n 0, 1) := by decide +kernel
theorem i_135_79 : q_dec 135 79 = some (12, .getfield 54, 3) := by decide +kernel
theorem i_135_82 : q_dec 135 82 = some (12, .iload_n 3, 1) := by decide +kernel
theorem i_135_83 : q_dec 135 83 = some (12, .iload 4, 2) := by decide +kernel
theorem i_135_85 : q_dec 135 85 = some (12, .iastore, 1) := by decide +kernel
theorem i_135_86 : q_dec 135 86 = some (12, .iinc 3 1, 3) := by decide +kernel
theorem i_135_89 : q_dec 135 89 = some (12, .iinc 4 1, 3) := by decide +kernel
theorem i_135_92 : q_dec 135 92 = some (12, .goto (-37), 3) := by decide +kernel
theorem i_135_95 : q_dec 135 95 = some (12, .aload_n 0, 1) := by decide +kernel
theorem i_135_96 : q_dec 135 96 = some (12, .getfield 54, 3) := by decide +kernel
theorem i_135_99 : q_dec 135 99 = some (12, .iload_n 3, 1) := by decide +kernel
theorem i_135_100 : q_dec 135 100 = some (12, .iload_n 1, 1) := by decide +kernel
theorem i_135_101 : q_dec 135 101 = some (12, .iastore, 1) := by decide +kernel
theorem i_135_102 : q_dec 135 102 = some (12, .iconst 0, 1) := by decide +kernel
theorem i_135_103 : q_dec 135 103 = some (12, .istore 4, 2) := by decide +kernel
theorem i_135_105 : q_dec 135 105 = some (12, .iload 4, 2) := by decide +kernel
theorem i_135_107 : q_dec 135 107 = some (12, .iload_n 3, 1) := by decide +kernel
theorem i_135_108 : q_dec 135 108 = some (12, .if_icmp .gt (58), 3) := by decide +kernel
theorem i_135_111 : q_dec 135 111 = some (12, .iconst 0, 1) := by decide +kernel
theorem i_135_112 : q_dec 135 112 = some (12, .istore 5, 2) := by decide +kernel
theorem i_135_114 : q_dec 135 114 = some (12, .iload 5, 2) := by decide +kernel
theorem i_135_116 : q_dec 135 116 = some (12, .iload_n 3, 1) := by decide +kernel
theorem i_135_117 : q_dec 135 117 = some (12, .if_icmp .gt (43), 3) := by decide +kernel
theorem i_135_120 : q_dec 135 120 = some (12, .aload_n 0, 1) := by decide +kernel
theorem i_135_121 : q_dec 135 121 = some (12, .getfield 57, 3) := by decide +kernel
theorem i_135_124 : q_dec 135 124 = some (12, .iconst 5, 1) := by decide +kernel
theorem i_135_125 : q_dec 135 125 = some (12, .iload 4, 2) := by decide +kernel
theorem i_135_127 : q_dec 135 127 = some (12, .imul, 1) := by decide +kernel
theorem i_135_128 : q_dec 135 128 = some (12, .iload 5, 2) := by decide +kernel
theorem i_135_130 : q_dec 135 130 = some (12, .iadd, 1) := by decide +kernel
theorem i_135_131 : q_dec 135 131 = some (12, .aload_n 0, 1) := by decide +kernel
theorem i_135_132 : q_dec 135 132 = some (12, .aload_n 0, 1) := by decide +kernel
theorem i_135_133 : q_dec 135 133 = some (12, .getfield 54, 3) := by decide +kernel
theorem i_135_136 : q_dec 135 136 = some (12, .iload 4, 2) := by decide +kernel
theorem i_135_138 : q_dec 135 138 = some (12, .iaload, 1) := by decide +kernel
theorem i_135_139 : q_dec 135 139 = some (12, .aload_n 0, 1) := by decide +kernel
theorem i_135_140 : q_dec 135 140 = some (12, .getfield 54, 3) := by decide +kernel
theorem i_135_143 : q_dec 135 143 = some (12, .iload 5, 2) := by decide +kernel
theorem i_135_145 : q_dec 135 145 = some (12, .iaload, 1) := by decide +kernel
theorem i_135_146 : q_dec 135 146 = some (12, .aload_n 0, 1) := by decide +kernel
theorem i_135_147 : q_dec 135 147 = some (12, .getfield 167, 3) := by decide +kernel
theorem i_135_150 : q_dec 135 150 = some (12, .invokevirtual 226, 3) := by decide +kernel
theorem i_135_153 : q_dec 135 153 = some (12, .iastore, 1) := by decide +kernel
theorem i_135_154 : q_dec 135 154 = some (12, .iinc 5 1, 3) := by decide +kernel
theorem i_135_157 : q_dec 135 157 = some (12, .goto (-43), 3) := by decide +kernel
theorem i_135_160 : q_dec 135 160 = some (12, .iinc 4 1, 3) := by decide +kernel
theorem i_135_163 : q_dec 135 163 = some (12, .goto (-58), 3) := by decide +kernel
theorem i_135_166 : q_dec 135 166 = some (12, .iconst 0, 1) := by decide +kernel
theorem i_135_167 : q_dec 135 167 = some (12, .istore 4, 2) := by decide +kernel
theorem i_135_169 : q_dec 135 169 = some (12, .iload 4, 2) := by decide +kernel
theorem i_135_171 : q_dec 135 171 = some (12, .iconst 1, 1) := by decide +kernel
theorem i_135_172 : q_dec 135 172 = some (12, .iload_n 3, 1) := by decide +kernel
theorem i_135_173 : q_dec 135 173 = some (12, .ishl, 1) := by decide +kernel
theorem i_135_174 : q_dec 135 174 = some (12, .if_icmp .ge (125), 3) := by decide +kernel
theorem i_135_177 : q_dec 135 177 = some (12, .iconst 0, 1) := by decide +kernel
theorem i_135_178 : q_dec 135 178 = some (12, .istore 5, 2) := by decide +kernel
theorem i_135_180 : q_dec 135 180 = some (12, .iload 5, 2) := by decide +kernel
theorem i_135_182 : q_dec 135 182 = some (12, .iload_n 3, 1) := by decide +kernel
theorem i_135_183 : q_dec 135 183 = some (12, .if_icmp .gt (110), 3) := by decide +kernel
theorem i_135_186 : q_dec 135 186 = some (12, .iload 4, 2) := by decide +kernel
theorem i_135_188 : q_dec 135 188 = some (12, .ifCond .ne (17), 3) := by decide +kernel
theorem i_135_191 : q_dec 135 191 = some (12, .aload_n 0, 1) := by decide +kernel
theorem i_135_192 : q_dec 135 192 = some (12, .getfield 57, 3) := by decide +kernel
theorem i_135_195 : q_dec 135 195 = some (12, .iconst 5, 1) := by decide +kernel
theorem i_135_196 : q_dec 135 196 = some (12, .iload 5, 2) := by decide +kernel
theorem i_135_198 : q_dec 135 198 = some (12, .imul, 1) := by decide +kernel
theorem i_135_199 : q_dec 135 199 = some (12, .iload_n 3, 1) := by decide +kernel
theorem i_135_200 : q_dec 135 200 = some (12, .iadd, 1) := by decide +kernel
theorem i_135_201 : q_dec 135 201 = some (12, .iaload, 1) := by decide +kernel
theorem i_135_202 : q_dec 135 202 = some (12, .goto 5, 3) := by decide +kernel
theorem i_135_205 : q_dec 135 205 = some (12, .ldc 202, 2) := by decide +kernel
theorem i_135_207 : q_dec 135 207 = some (12, .istore 6, 2) := by decide +kernel
theorem i_135_209 : q_dec 135 209 = some (12, .iconst 0, 1) := by decide +kernel
theorem i_135_210 : q_dec 135 210 = some (12, .istore 7, 2) := by decide +kernel
theorem i_135_212 : q_dec 135 212 = some (12, .iload 7, 2) := by decide +kernel
theorem i_135_214 : q_dec 135 214 = some (12, .iload_n 3, 1) := by decide +kernel
theorem i_135_215 : q_dec 135 215 = some (12, .if_icmp .ge (58), 3) := by decide +kernel
theorem i_135_218 : q_dec 135 218 = some (12, .iload 4, 2) := by decide +kernel
theorem i_135_220 : q_dec 135 220 = some (12, .iload 7, 2) := by decide +kernel
theorem i_135_222 : q_dec 135 222 = some (12, .invokestatic 83, 3) := by decide +kernel
theorem i_135_225 : q_dec 135 225 = some (12, .ifCond .eq (42), 3) := by decide +kernel
theorem i_135_228 : q_dec 135 228 = some (12, .iload 6, 2) := by decide +kernel
theorem i_135_230 : q_dec 135 230 = some (12, .aload_n 0, 1) := by decide +kernel
theorem i_135_231 : q_dec 135 231 = some (12, .getfield 57, 3) := by decide +kernel
theorem i_135_234 : q_dec 135 234 = some (12, .iconst 5, 1) := by decide +kernel
theorem i_135_235 : q_dec 135 235 = some (12, .iload 5, 2) := by decide +kernel
theorem i_135_237 : q_dec 135 237 = some (12, .imul, 1) := by decide +kernel
theorem i_135_238 : q_dec 135 238 = some (12, .iload 7, 2) := by decide +kernel
theorem i_135_240 : q_dec 135 240 = some (12, .iadd, 1) := by decide +kernel
theorem i_135_241 : q_dec 135 241 = some (12, .iaload, 1) := by decide +kernel
theorem i_135_242 : q_dec 135 242 = some (12, .aload_n 0, 1) := by decide +kernel
theorem i_135_243 : q_dec 135 243 = some (12, .getfield 60, 3) := by decide +kernel
theorem i_135_246 : q_dec 135 246 = some (12, .iconst 5, 1) := by decide +kernel
theorem i_135_247 : q_dec 135 247 = some (12, .iload 4, 2) := by decide +kernel
theorem i_135_249 : q_dec 135 249 = some (12, .iconst 1, 1) := by decide +kernel
theorem i_135_250 : q_dec 135 250 = some (12, .iload 7, 2) := by decide +kernel
theorem i_135_252 : q_dec 135 252 = some (12, .ishl, 1) := by decide +kernel
theorem i_135_253 : q_dec 135 253 = some (12, .iconst (-1), 1) := by decide +kernel
theorem i_135_254 : q_dec 135 254 = some (12, .ixor, 1) := by decide +kernel
theorem i_135_255 : q_dec 135 255 = some (12, .iand, 1) := by decide +kernel
theorem i_135_256 : q_dec 135 256 = some (12, .imul, 1) := by decide +kernel
theorem i_135_257 : q_dec 135 257 = some (12, .iload 7, 2) := by decide +kernel
theorem i_135_259 : q_dec 135 259 = some (12, .iadd, 1) := by decide +kernel
theorem i_135_260 : q_dec 135 260 = some (12, .iaload, 1) := by decide +kernel
theorem i_135_261 : q_dec 135 261 = some (12, .iadd, 1) := by decide +kernel
theorem i_135_262 : q_dec 135 262 = some (12, .invokestatic 108, 3) := by decide +kernel
theorem i_135_265 : q_dec 135 265 = some (12, .istore 6, 2) := by decide +kernel
theorem i_135_267 : q_dec 135 267 = some (12, .iinc 7 1, 3) := by decide +kernel
theorem i_135_270 : q_dec 135 270 = some (12, .goto (-58), 3) := by decide +kernel
theorem i_135_273 : q_dec 135 273 = some (12, .aload_n 0, 1) := by decide +kernel
theorem i_135_274 : q_dec 135 274 = some (12, .getfield 60, 3) := by decide +kernel
theorem i_135_277 : q_dec 135 277 = some (12, .iconst 5, 1) := by decide +kernel
theorem i_135_278 : q_dec 135 278 = some (12, .iload 4, 2) := by decide +kernel
theorem i_135_280 : q_dec 135 280 = some (12, .imul, 1) := by decide +kernel
theorem i_135_281 : q_dec 135 281 = some (12, .iload 5, 2) := by decide +kernel
theorem i_135_283 : q_dec 135 283 = some (12, .iadd, 1) := by decide +kernel
theorem i_135_284 : q_dec 135 284 = some (12, .iload 6, 2) := by decide +kernel
theorem i_135_286 : q_dec 135 286 = some (12, .iastore, 1) := by decide +kernel
theorem i_135_287 : q_dec 135 287 = some (12, .iinc 5 1, 3) := by decide +kernel
theorem i_135_290 : q_dec 135 290 = some (12, .goto (-110), 3) := by decide +kernel
theorem i_135_293 : q_dec 135 293 = some (12, .iinc 4 1, 3) := by decide +kernel
theorem i_135_296 : q_dec 135 296 = some (12, .goto (-127), 3) := by decide +kernel
theorem i_135_299 : q_dec 135 299 = some (12, .aload_n 0, 1) := by decide +kernel
theorem i_135_300 : q_dec 135 300 = some (12, .getfield 60, 3) := by decide +kernel
theorem i_135_303 : q_dec 135 303 = some (12, .iconst 5, 1) := by decide +kernel
theorem i_135_304 : q_dec 135 304 = some (12, .iconst 1, 1) := by decide +kernel
theorem i_135_305 : q_dec 135 305 = some (12, .iload_n 3, 1) := by decide +kernel
theorem i_135_306 : q_dec 135 306 = some (12, .ishl, 1) := by decide +kernel
theorem i_135_307 : q_dec 135 307 = some (12, .iconst 1, 1) := by decide +kernel
theorem i_135_308 : q_dec 135 308 = some (12, .isub, 1) := by decide +kernel
theorem i_135_309 : q_dec 135 309 = some (12, .imul, 1) := by decide +kernel
theorem i_135_310 : q_dec 135 310 = some (12, .iload_n 3, 1) := by decide +kernel
theorem i_135_311 : q_dec 135 311 = some (12, .iadd, 1) := by decide +kernel
theorem i_135_312 : q_dec 135 312 = some (12, .iaload, 1) := by decide +kernel
theorem i_135_313 : q_dec 135 313 = some (12, .istore 4, 2) := by decide +kernel
theorem i_135_315 : q_dec 135 315 = some (12, .iload 4, 2) := by decide +kernel
theorem i_135_317 : q_dec 135 317 = some (12, .ldc 202, 2) := by decide +kernel
theorem i_135_319 : q_dec 135 319 = some (12, .if_icmp .lt (8), 3) := by decide +kernel
theorem i_135_322 : q_dec 135 322 = some (12, .bipush (-9), 2) := by decide +kernel
theorem i_135_324 : q_dec 135 324 = some (12, .goto 5, 3) := by decide +kernel
theorem i_135_327 : q_dec 135 327 = some (12, .iload 4, 2) := by decide +kernel
theorem i_135_329 : q_dec 135 329 = some (12, .ireturn, 1) := by decide +kernel
theorem i_136_0 : q_dec 136 0 = some (12, .iconst 0, 1) := by decide +kernel
theorem i_136_1 : q_dec 136 1 = some (12, .istore_n 1, 1) := by decide +kernel
theorem i_136_2 : q_dec 136 2 = some (12, .iconst 0, 1) := by decide +kernel
theorem i_136_3 : q_dec 136 3 = some (12, .istore_n 2, 1) := by decide +kernel
theorem i_136_4 : q_dec 136 4 = some (12, .iload_n 2, 1) := by decide +kernel
theorem i_136_5 : q_dec 136 5 = some (12, .bipush 20, 2) := by decide +kernel
theorem i_136_7 : q_dec 136 7 = some (12, .if_icmp .ge (17), 3) := by decide +kernel
theorem i_136_10 : q_dec 136 10 = some (12, .iload_n 1, 1) := by decide +kernel
theorem i_136_11 : q_dec 136 11 = some (12, .iload_n 0, 1) := by decide +kernel
theorem i_136_12 : q_dec 136 12 = some (12, .iload_n 2, 1) := by decide +kernel
theorem i_136_13 : q_dec 136 13 = some (12, .ishr, 1) := by decide +kernel
theorem i_136_14 : q_dec 136 14 = some (12, .iconst 1, 1) := by decide +kernel
theorem i_136_15 : q_dec 136 15 = some (12, .iand, 1) := by decide +kernel
theorem i_136_16 : q_dec 136 16 = some (12, .iadd, 1) := by decide +kernel
theorem i_136_17 : q_dec 136 17 = some (12, .istore_n 1, 1) := by decide +kernel
theorem i_136_18 : q_dec 136 18 = some (12, .iinc 2 1, 3) := by decide +kernel
theorem i_136_21 : q_dec 136 21 = some (12, .goto (-17), 3) := by decide +kernel
theorem i_136_24 : q_dec 136 24 = some (12, .iload_n 1, 1) := by decide +kernel
theorem i_136_25 : q_dec 136 25 = some (12, .ireturn, 1) := by decide +kernel
theorem i_137_0 : q_dec 137 0 = some (12, .aload_n 0, 1) := by decide +kernel
theorem i_137_1 : q_dec 137 1 = some (12, .iload_n 2, 1) := by decide +kernel
theorem i_137_2 : q_dec 137 2 = some (12, .iload_n 3, 1) := by decide +kernel
theorem i_137_3 : q_dec 137 3 = some (12, .invokevirtual 213, 3) := by decide +kernel
theorem i_137_6 : q_dec 137 6 = some (12, .aload_n 0, 1) := by decide +kernel
theorem i_137_7 : q_dec 137 7 = some (12, .getfield 45, 3) := by decide +kernel
theorem i_137_10 : q_dec 137 10 = some (12, .bipush 17, 2) := by decide +kernel
theorem i_137_12 : q_dec 137 12 = some (12, .iload_n 1, 1) := by decide +kernel
theorem i_137_13 : q_dec 137 13 = some (12, .imul, 1) := by decide +kernel
theorem i_137_14 : q_dec 137 14 = some (12, .bipush 16, 2) := by decide +kernel
theorem i_137_16 : q_dec 137 16 = some (12, .iadd, 1) := by decide +kernel
theorem i_137_17 : q_dec 137 17 = some (12, .iaload, 1) := by decide +kernel
theorem i_137_18 : q_dec 137 18 = some (12, .istore 4, 2) := by decide +kernel
theorem i_137_20 : q_dec 137 20 = some (12, .iload 4, 2) := by decide +kernel
theorem i_137_22 : q_dec 137 22 = some (12, .ldc 202, 2) := by decide +kernel
theorem i_137_24 : q_dec 137 24 = some (12, .if_icmp .lt (8), 3) := by decide +kernel
theorem i_137_27 : q_dec 137 27 = some (12, .ldc 202, 2) := by decide +kernel
theorem i_137_29 : q_dec 137 29 = some (12, .goto 9, 3) := by decide +kernel
theorem i_137_32 : q_dec 137 32 = some (12, .iload 4, 2) := by decide +kernel
theorem i_137_34 : q_dec 137 34 = some (12, .sipush 1000, 3) := by decide +kernel
theorem i_137_37 : q_dec 137 37 = some (12, .idiv, 1) := by decide +kernel
theorem i_137_38 : q_dec 137 38 = some (12, .ireturn, 1) := by decide +kernel
theorem i_138_0 : q_dec 138 0 = some (12, .aload_n 0, 1) := by decide +kernel
theorem i_138_1 : q_dec 138 1 = some (12, .iload_n 1, 1) := by decide +kernel
theorem i_138_2 : q_dec 138 2 = some (12, .iload_n 2, 1) := by decide +kernel
theorem i_138_3 : q_dec 138 3 = some (12, .invokevirtual 210, 3) := by decide +kernel
theorem i_138_6 : q_dec 138 6 = some (12, .ifCond .ne (5), 3) := by decide +kernel
theorem i_138_9 : q_dec 138 9 = some (12, .iconst (-1), 1) := by decide +kernel
theorem i_138_10 : q_dec 138 10 = some (12, .ireturn, 1) := by decide +kernel
theorem i_138_11 : q_dec 138 11 = some (12, .aload_n 0, 1) := by decide +kernel
theorem i_138_12 : q_dec 138 12 = some (12, .getfield 176, 3) := by decide +kernel
theorem i_138_15 : q_dec 138 15 = some (12, .bipush 6, 2) := by decide +kernel
theorem i_138_17 : q_dec 138 17 = some (12, .if_icmp .ne (6), 3) := by decide +kernel
theorem i_138_20 : q_dec 138 20 = some (12, .bipush (-3), 2) := by decide +kernel
theorem i_138_22 : q_dec 138 22 = some (12, .ireturn, 1) := by decide +kernel
theorem i_138_23 : q_dec 138 23 = some (12, .aload_n 0, 1) := by decide +kernel
theorem i_138_24 : q_dec 138 24 = some (12, .getfield 36, 3) := by decide +kernel
theorem i_138_27 : q_dec 138 27 = some (12, .aload_n 0, 1) := by decide +kernel
theorem i_138_28 : q_dec 138 28 = some (12, .getfield 176, 3) := by decide +kernel
theorem i_138_31 : q_dec 138 31 = some (12, .iload_n 1, 1) := by decide +kernel
theorem i_138_32 : q_dec 138 32 = some (12, .iastore, 1) := by decide +kernel
theorem i_138_33 : q_dec 138 33 = some (12, .aload_n 0, 1) := by decide +kernel
theorem i_138_34 : q_dec 138 34 = some (12, .getfield 39, 3) := by decide +kernel
theorem i_138_37 : q_dec 138 37 = some (12, .aload_n 0, 1) := by decide +kernel
theorem i_138_38 : q_dec 138 38 = some (12, .getfield 176, 3) := by decide +kernel
theorem i_138_41 : q_dec 138 41 = some (12, .iload_n 2, 1) := by decide +kernel
theorem i_138_42 : q_dec 138 42 = some (12, .iastore, 1) := by decide +kernel
theorem i_138_43 : q_dec 138 43 = some (12, .aload_n 0, 1) := by decide +kernel
theorem i_138_44 : q_dec 138 44 = some (12, .dup, 1) := by decide +kernel
theorem i_138_45 : q_dec 138 45 = some (12, .getfield 176, 3) := by decide +kernel
theorem i_138_48 : q_dec 138 48 = some (12, .iconst 1, 1) := by decide +kernel
theorem i_138_49 : q_dec 138 49 = some (12, .iadd, 1) := by decide +kernel
theorem i_138_50 : q_dec 138 50 = some (12, .putfield 176, 3) := by decide +kernel
theorem i_138_53 : q_dec 138 53 = some (12, .aload_n 0, 1) := by decide +kernel
theorem i_138_54 : q_dec 138 54 = some (12, .getfield 176, 3) := by decide +kernel
theorem i_138_57 : q_dec 138 57 = some (12, .ireturn, 1) := by decide +kernel
theorem i_139_0 : q_dec 139 0 = some (12, .aload_n 0, 1) := by decide +kernel
theorem i_139_1 : q_dec 139 1 = some (12, .getfield 176, 3) := by decide +kernel
theorem i_139_4 : q_dec 139 4 = some (12, .istore_n 1, 1) := by decide +kernel
theorem i_139_5 : q_dec 139 5 = some (12, .aload_n 0, 1) := by decide +kernel
theorem i_139_6 : q_dec 139 6 = some (12, .iconst 0, 1) := by decide +kernel
theorem i_139_7 : q_dec 139 7 = some (12, .putfield 176, 3) := by decide +kernel
theorem i_139_10 : q_dec 139 10 = some (12, .iload_n 1, 1) := by decide +kernel
theorem i_139_11 : q_dec 139 11 = some (12, .ireturn, 1) := by decide +kernel
theorem i_140_0 : q_dec 140 0 = some (12, .iload_n 1, 1) := by decide +kernel
theorem i_140_1 : q_dec 140 1 = some (12, .i2l, 1) := by decide +kernel
theorem i_140_2 : q_dec 140 2 = some (12, .lconst 0, 1) := by decide +kernel
theorem i_140_3 : q_dec 140 3 = some (12, .lconst 1, 1) := by decide +kernel
theorem i_140_4 : q_dec 140 4 = some (12, .invokestatic 72, 3) := by decide +kernel
theorem i_140_7 : q_dec 140 7 = some (12, .ifCond .ne (5), 3) := by decide +kernel
theorem i_140_10 : q_dec 140 10 = some (12, .iconst (-1), 1) := by decide +kernel
theorem i_140_11 : q_dec 140 11 = some (12, .ireturn, 1) := by decide +kernel
theorem i_140_12 : q_dec 140 12 = some (12, .bipush (-9), 2) := by decide +kernel
theorem i_140_14 : q_dec 140 14 = some (12, .istore_n 2, 1) := by decide +kernel
theorem i_140_15 : q_dec 140 15 = some (12, .ldc 202, 2) := by decide +kernel
theorem i_140_17 : q_dec 140 17 = some (12, .istore_n 3, 1) := by decide +kernel
theorem i_140_18 : q_dec 140 18 = some (12, .iconst 0, 1) := by decide +kernel
theorem i_140_19 : q_dec 140 19 = some (12, .istore 4, 2) := by decide +kernel
theorem i_140_21 : q_dec 140 21 = some (12, .iload 4, 2) := by decide +kernel
theorem i_140_23 : q_dec 140 23 = some (12, .aload_n 0, 1) := by decide +kernel
theorem i_140_24 : q_dec 140 24 = some (12, .getfield 7, 3) := by decide +kernel
theorem i_140_27 : q_dec 140 27 = some (12, .aload_n 0, 1) := by decide +kernel
theorem i_140_28 : q_dec 140 28 = some (12, .getfield 13, 3) := by decide +kernel
theorem i_140_31 : q_dec 140 31 = some (12, .imul, 1) := by decide +kernel
theorem i_140_32 : q_dec 140 32 = some (12, .if_icmp .ge (104), 3) := by decide +kernel
theorem i_140_35 : q_dec 140 35 = some (12, .aload_n 0, 1) := by decide +kernel
theorem i_140_36 : q_dec 140 36 = some (12, .getfield 80, 3) := by decide +kernel
theorem i_140_39 : q_dec 140 39 = some (12, .aload_n 0, 1) := by decide +kernel
theorem i_140_40 : q_dec 140 40 = some (12, .getfield 167, 3) := by decide +kernel
theorem i_140_43 : q_dec 140 43 = some (12, .ior, 1) := by decide +kernel
theorem i_140_44 : q_dec 140 44 = some (12, .iload 4, 2) := by decide +kernel
theorem i_140_46 : q_dec 140 46 = some (12, .invokestatic 83, 3) := by decide +kernel
theorem i_140_49 : q_dec 140 49 = some (12, .ifCond .ne (81), 3) := by decide +kernel
theorem i_140_52 : q_dec 140 52 = some (12, .iconst 0, 1) := by decide +kernel
theorem i_140_53 : q_dec 140 53 = some (12, .istore 5, 2) := by decide +kernel
theorem i_140_55 : q_dec 140 55 = some (12, .iconst 0, 1) := by decide +kernel
theorem i_140_56 : q_dec 140 56 = some (12, .istore 6, 2) := by decide +kernel
theorem i_140_58 : q_dec 140 58 = some (12, .iload 6, 2) := by decide +kernel
theorem i_140_60 : q_dec 140 60 = some (12, .aload_n 0, 1) := by decide +kernel
theorem i_140_61 : q_dec 140 61 = some (12, .getfield 176, 3) := by decide +kernel
theorem i_140_64 : q_dec 140 64 = some (12, .if_icmp .ge (46), 3) := by decide +kernel
theorem i_140_67 : q_dec 140 67 = some (12, .ldc 202, 2) := by decide +kernel
theorem i_140_69 : q_dec 140 69 = some (12, .iload 5, 2) := by decide +kernel
theorem i_140_71 : q_dec 140 71 = some (12, .aload_n 0, 1) := by decide +kernel
theorem i_140_72 : q_dec 140 72 = some (12, .aload_n 0, 1) := by decide +kernel
theorem i_140_73 : q_dec 140 73 = some (12, .getfield 36, 3) := by decide +kernel
theorem i_140_76 : q_dec 140 76 = some (12, .iload 6, 2) := by decide +kernel
theorem i_140_78 : q_dec 140 78 = some (12, .iaload, 1) := by decide +kernel
theorem i_140_79 : q_dec 140 79 = some (12, .aload_n 0, 1) := by decide +kernel
theorem i_140_80 : q_dec 140 80 = some (12, .getfield 39, 3) := by decide +kernel
theorem i_140_83 : q_dec 140 83 = some (12, .iload 6, 2) := by decide +kernel
theorem i_140_85 : q_dec 140 85 = some (12, .iaload, 1) := by decide +kernel
theorem i_140_86 : q_dec 140 86 = some (12, .aload_n 0, 1) := by decide +kernel
theorem i_140_87 : q_dec 140 87 = some (12, .getfield 167, 3) := by decide +kernel
theorem i_140_90 : q_dec 140 90 = some (12, .iconst 1, 1) := by decide +kernel
theorem i_140_91 : q_dec 140 91 = some (12, .iload 4, 2) := by decide +kernel
theorem i_140_93 : q_dec 140 93 = some (12, .ishl, 1) := by decide +kernel
theorem i_140_94 : q_dec 140 94 = some (12, .ior, 1) := by decide +kernel
theorem i_140_95 : q_dec 140 95 = some (12, .invokevirtual 226, 3) := by decide +kernel
theorem i_140_98 : q_dec 140 98 = some (12, .iadd, 1) := by decide +kernel
theorem i_140_99 : q_dec 140 99 = some (12, .invokestatic 108, 3) := by decide +kernel
theorem i_140_102 : q_dec 140 102 = some (12, .istore 5, 2) := by decide +kernel
theorem i_140_104 : q_dec 140 104 = some (12, .iinc 6 1, 3) := by decide +kernel
theorem i_140_107 : q_dec 140 107 = some (12, .goto (-49), 3) := by decide +kernel
theorem i_140_110 : q_dec 140 110 = some (12, .iload 5, 2) := by decide +kernel
theorem i_140_112 : q_dec 140 112 = some (12, .iload_n 3, 1) := by decide +kernel
theorem i_140_113 : q_dec 140 113 = some (12, .if_icmp .ge (8), 3) := by decide +kernel
theorem i_140_116 : q_dec 140 116 = some (12, .iload 4, 2) := by decide +kernel
theorem i_140_118 : q_dec 140 118 = some (12, .goto 4, 3) := by decide +kernel
theorem i_140_121 : q_dec 140 121 = some (12, .iload_n 2, 1) := by decide +kernel
theorem i_140_122 : q_dec 140 122 = some (12, .istore_n 2, 1) := by decide +kernel
theorem i_140_123 : q_dec 140 123 = some (12, .iload_n 3, 1) := by decide +kernel
theorem i_140_124 : q_dec 140 124 = some (12, .iload 5, 2) := by decide +kernel
theorem i_140_126 : q_dec 140 126 = some (12, .invokestatic 108, 3) := by decide +kernel
theorem i_140_129 : q_dec 140 129 = some (12, .istore_n 3, 1) := by decide +kernel
theorem i_140_130 : q_dec 140 130 = some (12, .iinc 4 1, 3) := by decide +kernel
theorem i_140_133 : q_dec 140 133 = some (12, .goto (-112), 3) := by decide +kernel
theorem i_140_136 : q_dec 140 136 = some (12, .iload_n 2, 1) := by decide +kernel
theorem i_140_137 : q_dec 140 137 = some (12, .bipush (-9), 2) := by decide +kernel
theorem i_140_139 : q_dec 140 139 = some (12, .if_icmp .ne (8), 3) := by decide +kernel
theorem i_140_142 : q_dec 140 142 = some (12, .bipush (-9), 2) := by decide +kernel
theorem i_140_144 : q_dec 140 144 = some (12, .goto 12, 3) := by decide +kernel
theorem i_140_147 : q_dec 140 147 = some (12, .iload_n 1, 1) := by decide +kernel
theorem i_140_148 : q_dec 140 148 = some (12, .ifCond .ne (7), 3) := by decide +kernel
theorem i_140_151 : q_dec 140 151 = some (12, .iload_n 2, 1) := by decide +kernel
theorem i_140_152 : q_dec 140 152 = some (12, .goto 4, 3) := by decide +kernel
theorem i_140_155 : q_dec 140 155 = some (12, .iload_n 3, 1) := by decide +kernel
theorem i_140_156 : q_dec 140 156 = some (12, .ireturn, 1) := by decide +kernel
theorem i_141_0 : q_dec 141 0 = some (12, .aload_n 0, 1) := by decide +kernel
theorem i_141_1 : q_dec 141 1 = some (12, .iload_n 1, 1) := by decide +kernel
theorem i_141_2 : q_dec 141 2 = some (12, .iload_n 2, 1) := by decide +kernel
theorem i_141_3 : q_dec 141 3 = some (12, .invokevirtual 210, 3) := by decide +kernel
theorem i_141_6 : q_dec 141 6 = some (12, .ifCond .eq (20), 3) := by decide +kernel
theorem i_141_9 : q_dec 141 9 = some (12, .iload_n 3, 1) := by decide +kernel
theorem i_141_10 : q_dec 141 10 = some (12, .i2l, 1) := by decide +kernel
theorem i_141_11 : q_dec 141 11 = some (12, .lconst 0, 1) := by decide +kernel
theorem i_141_12 : q_dec 141 12 = some (12, .ldc2_w 87, 3) := by decide +kernel
theorem i_141_15 : q_dec 141 15 = some (12, .invokestatic 72, 3) := by decide +kernel
theorem i_141_18 : q_dec 141 18 = some (12, .ifCond .eq (8), 3) := by decide +kernel
theorem i_141_21 : q_dec 141 21 = some (12, .iload 4, 2) := by decide +kernel
theorem i_141_23 : q_dec 141 23 = some (12, .ifCond .ge (5), 3) := by decide +kernel
theorem i_141_26 : q_dec 141 26 = some (12, .iconst (-1), 1) := by decide +kernel
theorem i_141_27 : q_dec 141 27 = some (12, .ireturn, 1) := by decide +kernel
theorem i_141_28 : q_dec 141 28 = some (12, .iconst 0, 1) := by decide +kernel
theorem i_141_29 : q_dec 141 29 = some (12, .istore 5, 2) := by decide +kernel
theorem i_141_31 : q_dec 141 31 = some (12, .iconst 0, 1) := by decide +kernel
theorem i_141_32 : q_dec 141 32 = some (12, .istore 6, 2) := by decide +kernel
theorem i_141_34 : q_dec 141 34 = some (12, .aload_n 0, 1) := by decide +kernel
theorem i_141_35 : q_dec 141 35 = some (12, .getfield 66, 3) := by decide +kernel
theorem i_141_38 : q_dec 141 38 = some (12, .iconst 0, 1) := by decide +kernel
theorem i_141_39 : q_dec 141 39 = some (12, .bipush 17, 2) := by decide +kernel
theorem i_141_41 : q_dec 141 41 = some (12, .iload_n 1, 1) := by decide +kernel
theorem i_141_42 : q_dec 141 42 = some (12, .imul, 1) := by decide +kernel
theorem i_141_43 : q_dec 141 43 = some (12, .bipush 16, 2) := by decide +kernel
theorem i_141_45 : q_dec 141 45 = some (12, .iadd, 1) := by decide +kernel
theorem i_141_46 : q_dec 141 46 = some (12, .iastore, 1) := by decide +kernel
theorem i_141_47 : q_dec 141 47 = some (12, .aload_n 0, 1) := by decide +kernel
theorem i_141_48 : q_dec 141 48 = some (12, .getfield 69, 3) := by decide +kernel
theorem i_141_51 : q_dec 141 51 = some (12, .iconst 0, 1) := by decide +kernel
theorem i_141_52 : q_dec 141 52 = some (12, .iconst 0, 1) := by decide +kernel
theorem i_141_53 : q_dec 141 53 = some (12, .iastore, 1) := by decide +kernel
theorem i_141_54 : q_dec 141 54 = some (12, .aload_n 0, 1) := by decide +kernel
theorem i_141_55 : q_dec 141 55 = some (12, .getfield 63, 3) := by decide +kernel
theorem i_141_58 : q_dec 141 58 = some (12, .iconst 0, 1) := by decide +kernel
theorem i_141_59 : q_dec 141 59 = some (12, .iconst 0, 1) := by decide +kernel
theorem i_141_60 : q_dec 141 60 = some (12, .iastore, 1) := by decide +kernel
theorem i_141_61 : q_dec 141 61 = some (12, .iload 6, 2) := by decide +kernel
theorem i_141_63 : q_dec 141 63 = some (12, .ifCond .lt (205), 3) := by decide +kernel
theorem i_141_66 : q_dec 141 66 = some (12, .iload 6, 2) := by decide +kernel
theorem i_141_68 : q_dec 141 68 = some (12, .iload_n 3, 1) := by decide +kernel
theorem i_141_69 : q_dec 141 69 = some (12, .if_icmp .eq (14), 3) := by decide +kernel
theorem i_141_72 : q_dec 141 72 = some (12, .aload_n 0, 1) := by decide +kernel
theorem i_141_73 : q_dec 141 73 = some (12, .getfield 63, 3) := by decide +kernel
theorem i_141_76 : q_dec 141 76 = some (12, .iload 6, 2) := by decide +kernel
theorem i_141_78 : q_dec 141 78 = some (12, .iaload, 1) := by decide +kernel
theorem i_141_79 : q_dec 141 79 = some (12, .iconst 4, 1) := by decide +kernel
theorem i_141_80 : q_dec 141 80 = some (12, .if_icmp .ne (67), 3) := by decide +kernel
theorem i_141_83 : q_dec 141 83 = some (12, .iload 5, 2) := by decide +kernel
theorem i_141_85 : q_dec 141 85 = some (12, .iload 6, 2) := by decide +kernel
theorem i_141_87 : q_dec 141 87 = some (12, .iload_n 3, 1) := by decide +kernel
theorem i_141_88 : q_dec 141 88 = some (12, .if_icmp .ne (33), 3) := by decide +kernel
theorem i_141_91 : q_dec 141 91 = some (12, .aload_n 0, 1) := by decide +kernel
theorem i_141_92 : q_dec 141 92 = some (12, .getfield 66, 3) := by decide +kernel
theorem i_141_95 : q_dec 141 95 = some (12, .iload 6, 2) := by decide +kernel
theorem i_141_97 : q_dec 141 97 = some (12, .iaload, 1) := by decide +kernel
theorem i_141_98 : q_dec 141 98 = some (12, .bipush 17, 2) := by decide +kernel
theorem i_141_100 : q_dec 141 100 = some (12, .idiv, 1) := by decide +kernel
theorem i_141_101 : q_dec 141 101 = some (12, .iload_n 2, 1) := by decide +kernel
theorem i_141_102 : q_dec 141 102 = some (12, .if_icmp .ne (19), 3) := by decide +kernel
theorem i_141_105 : q_dec 141 105 = some (12, .aload_n 0, 1) := by decide +kernel
theorem i_141_106 : q_dec 141 106 = some (12, .getfield 69, 3) := by decide +kernel
theorem i_141_109 : q_dec 141 109 = some (12, .iload 6, 2) := by decide +kernel
theorem i_141_111 : q_dec 141 111 = some (12, .iaload, 1) := by decide +kernel
theorem i_141_112 : q_dec 141 112 = some (12, .iload 4, 2) := by decide +kernel
theorem i_141_114 : q_dec 141 114 = some (12, .if_icmp .ne (7), 3) := by decide +kernel
theorem i_141_117 : q_dec 141 117 = some (12, .iconst 1, 1) := by decide +kernel
theorem i_141_118 : q_dec 141 118 = some (12, .goto 4, 3) := by decide +kernel
theorem i_141_121 : q_dec 141 121 = some (12, .iconst 0, 1) := by decide +kernel
theorem i_141_122 : q_dec 141 122 = some (12, .iadd, 1) := by decide +kernel
theorem i_141_123 : q_dec 141 123 = some (12, .istore 5, 2) := by decide +kernel
theorem i_141_125 : q_dec 141 125 = some (12, .iinc 6 (-1), 3) := by decide +kernel
theorem i_141_128 : q_dec 141 128 = some (12, .iload 6, 2) := by decide +kernel
theorem i_141_130 : q_dec 141 130 = some (12, .ifCond .lt (-69), 3) := by decide +kernel
theorem i_141_133 : q_dec 141 133 = some (12, .aload_n 0, 1) := by decide +kernel
theorem i_141_134 : q_dec 141 134 = some (12, .getfield 63, 3) := by decide +kernel
theorem i_141_137 : q_dec 141 137 = some (12, .iload 6, 2) := by decide +kernel
theorem i_141_139 : q_dec 141 139 = some (12, .dup2, 1) := by decide +kernel
theorem i_141_140 : q_dec 141 140 = some (12, .iaload, 1) := by decide +kernel
theorem i_141_141 : q_dec 141 141 = some (12, .iconst 1, 1) := by decide +kernel
theorem i_141_142 : q_dec 141 142 = some (12, .iadd, 1) := by decide +kernel
theorem i_141_143 : q_dec 141 143 = some (12, .iastore, 1) := by decide +kernel
theorem i_141_144 : q_dec 141 144 = some (12, .goto (-83), 3) := by decide +kernel
theorem i_141_147 : q_dec 141 147 = some (12, .aload_n 0, 1) := by decide +kernel
theorem i_141_148 : q_dec 141 148 = some (12, .aload_n 0, 1) := by decide +kernel
theorem i_141_149 : q_dec 141 149 = some (12, .getfield 66, 3) := by decide +kernel
theorem i_141_152 : q_dec 141 152 = some (12, .iload 6, 2) := by decide +kernel
theorem i_141_154 : q_dec 141 154 = some (12, .iaload, 1) := by decide +kernel
theorem i_141_155 : q_dec 141 155 = some (12, .aload_n 0, 1) := by decide +kernel
theorem i_141_156 : q_dec 141 156 = some (12, .getfield 63, 3) := by decide +kernel
theorem i_141_159 : q_dec 141 159 = some (12, .iload 6, 2) := by decide +kernel
theorem i_141_161 : q_dec 141 161 = some (12, .iaload, 1) := by decide +kernel
theorem i_141_162 : q_dec 141 162 = some (12, .invokevirtual 203, 3) := by decide +kernel
theorem i_141_165 : q_dec 141 165 = some (12, .istore 7, 2) := by decide +kernel
theorem i_141_167 : q_dec 141 167 = some (12, .iload 7, 2) := by decide +kernel
theorem i_141_169 : q_dec 141 169 = some (12, .iconst 4, 1) := by decide +kernel
theorem i_141_170 : q_dec 141 170 = some (12, .if_icmp .le (7), 3) := by decide +kernel
theorem i_141_173 : q_dec 141 173 = some (12, .iconst (-1), 1) := by decide +kernel
theorem i_141_174 : q_dec 141 174 = some (12, .goto 25, 3) := by decide +kernel
theorem i_141_177 : q_dec 141 177 = some (12, .aload_n 0, 1) := by decide +kernel
theorem i_141_178 : q_dec 141 178 = some (12, .aload_n 0, 1) := by decide +kernel
theorem i_141_179 : q_dec 141 179 = some (12, .getfield 66, 3) := by decide +kernel
theorem i_141_182 : q_dec 141 182 = some (12, .iload 6, 2) := by decide +kernel
theorem i_141_184 : q_dec 141 184 = some (12, .iaload, 1) := by decide +kernel
theorem i_141_185 : q_dec 141 185 = some (12, .aload_n 0, 1) := by decide +kernel
theorem i_141_186 : q_dec 141 186 = some (12, .getfield 63, 3) := by decide +kernel
theorem i_141_189 : q_dec 141 189 = some (12, .iload 6, 2) := by decide +kernel
theorem i_141_191 : q_dec 141 191 = some (12, .iaload, 1) := by decide +kernel
theorem i_141_192 : q_dec 141 192 = some (12, .aload_n 0, 1) := by decide +kernel
theorem i_141_193 : q_dec 141 193 = some (12, .getfield 167, 3) := by decide +kernel
theorem i_141_196 : q_dec 141 196 = some (12, .invokevirtual 206, 3) := by decide +kernel
theorem i_141_199 : q_dec 141 199 = some (12, .istore 8, 2) := by decide +kernel
theorem i_141_201 : q_dec 141 201 = some (12, .iload 8, 2) := by decide +kernel
theorem i_141_203 : q_dec 141 203 = some (12, .ifCond .ge (17), 3) := by decide +kernel
theorem i_141_206 : q_dec 141 206 = some (12, .aload_n 0, 1) := by decide +kernel
theorem i_141_207 : q_dec 141 207 = some (12, .getfield 63, 3) := by decide +kernel
theorem i_141_210 : q_dec 141 210 = some (12, .iload 6, 2) := by decide +kernel
theorem i_141_212 : q_dec 141 212 = some (12, .dup2, 1) := by decide +kernel
theorem i_141_213 : q_dec 141 213 = some (12, .iaload, 1) := by decide +kernel
theorem i_141_214 : q_dec 141 214 = some (12, .iconst 1, 1) := by decide +kernel
theorem i_141_215 : q_dec 141 215 = some (12, .iadd, 1) := by decide +kernel
theorem i_141_216 : q_dec 141 216 = some (12, .iastore, 1) := by decide +kernel
theorem i_141_217 : q_dec 141 217 = some (12, .goto (-156), 3) := by decide +kernel
theorem i_141_220 : q_dec 141 220 = some (12, .aload_n 0, 1) := by decide +kernel
theorem i_141_221 : q_dec 141 221 = some (12, .getfield 66, 3) := by decide +kernel
theorem i_141_224 : q_dec 141 224 = some (12, .iload 6, 2) := by decide +kernel
theorem i_141_226 : q_dec 141 226 = some (12, .iconst 1, 1) := by decide +kernel
theorem i_141_227 : q_dec 141 227 = some (12, .iadd, 1) := by decide +kernel
theorem i_141_228 : q_dec 141 228 = some (12, .iload 8, 2) := by decide +kernel
theorem i_141_230 : q_dec 141 230 = some (12, .iastore, 1) := by decide +kernel
theorem i_141_231 : q_dec 141 231 = some (12, .aload_n 0, 1) := by decide +kernel
theorem i_141_232 : q_dec 141 232 = some (12, .getfield 69, 3) := by decide +kernel
theorem i_141_235 : q_dec 141 235 = some (12, .iload 6, 2) := by decide +kernel
theorem i_141_237 : q_dec 141 237 = some (12, .iconst 1, 1) := by decide +kernel
theorem i_141_238 : q_dec 141 238 = some (12, .iadd, 1) := by decide +kernel
theorem i_141_239 : q_dec 141 239 = some (12, .aload_n 0, 1) := by decide +kernel
theorem i_141_240 : q_dec 141 240 = some (12, .getfield 69, 3) := by decide +kernel
theorem i_141_243 : q_dec 141 243 = some (12, .iload 6, 2) := by decide +kernel
theorem i_141_245 : q_dec 141 245 = some (12, .iaload, 1) := by decide +kernel
theorem i_141_246 : q_dec 141 246 = some (12, .aload_n 0, 1) := by decide +kernel
theorem i_141_247 : q_dec 141 247 = some (12, .iload 7, 2) := by decide +kernel
theorem i_141_249 : q_dec 141 249 = some (12, .invokevirtual 194, 3) := by decide +kernel
theorem i_141_252 : q_dec 141 252 = some (12, .iadd, 1) := by decide +kernel
theorem i_141_253 : q_dec 141 253 = some (12, .iastore, 1) := by decide +kernel
theorem i_141_254 : q_dec 141 254 = some (12, .iinc 6 1, 3) := by decide +kernel
theorem i_141_257 : q_dec 141 257 = some (12, .aload_n 0, 1) := by decide +kernel
theorem i_141_258 : q_dec 141 258 = some (12, .getfield 63, 3) := by decide +kernel
theorem i_141_261 : q_dec 141 261 = some (12, .iload 6, 2) := by decide +kernel
theorem i_141_263 : q_dec 141 263 = some (12, .iconst 0, 1) := by decide +kernel
theorem i_141_264 : q_dec 141 264 = some (12, .iastore, 1) := by decide +kernel
theorem i_141_265 : q_dec 141 265 = some (12, .goto (-204), 3) := by decide +kernel
theorem i_141_268 : q_dec 141 268 = some (12, .iload 5, 2) := by decide +kernel
theorem i_141_270 : q_dec 141 270 = some (12, .ireturn, 1) := by decide +kernel
theorem i_142_0 : q_dec 142 0 = some (12, .iload_n 1, 1) := by decide +kernel
theorem i_142_1 : q_dec 142 1 = some (12, .tableswitch (204) (0) (5) #[39, 56, 82, 106, 134, 180], 39) := by decide +kernel
theorem i_142_40 : q_dec 142 40 = some (12, .aload_n 0, 1) := by decide +kernel
theorem i_142_41 : q_dec 142 41 = some (12, .dup, 1) := by decide +kernel
theorem i_142_42 : q_dec 142 42 = some (12, .getfield 229, 3) := by decide +kernel
theorem i_142_45 : q_dec 142 45 = some (12, .lconst 1, 1) := by decide +kernel
theorem i_142_46 : q_dec 142 46 = some (12, .ladd, 1) := by decide +kernel
theorem i_142_47 : q_dec 142 47 = some (12, .putfield 229, 3) := by decide +kernel
theorem i_142_50 : q_dec 142 50 = some (12, .aload_n 0, 1) := by decide +kernel
theorem i_142_51 : q_dec 142 51 = some (12, .getfield 29, 3) := by decide +kernel
theorem i_142_54 : q_dec 142 54 = some (12, .iconst 1, 1) := by decide +kernel
theorem i_142_55 : q_dec 142 55 = some (12, .iaload, 1) := by decide +kernel
theorem i_142_56 : q_dec 142 56 = some (12, .ireturn, 1) := by decide +kernel
theorem i_142_57 : q_dec 142 57 = some (12, .aload_n 0, 1) := by decide +kernel
theorem i_142_58 : q_dec 142 58 = some (12, .dup, 1) := by decide +kernel
theorem i_142_59 : q_dec 142 59 = some (12, .getfield 229, 3) := by decide +kernel
theorem i_142_62 : q_dec 142 62 = some (12, .ldc2_w 233, 3) := by decide +kernel
theorem i_142_65 : q_dec 142 65 = some (12, .ladd, 1) := by decide +kernel
theorem i_142_66 : q_dec 142 66 = some (12, .putfield 229, 3) := by decide +kernel
theorem i_142_69 : q_dec 142 69 = some (12, .aload_n 0, 1) := by decide +kernel
theorem i_142_70 : q_dec 142 70 = some (12, .getfield 29, 3) := by decide +kernel
theorem i_142_73 : q_dec 142 73 = some (12, .iconst 1, 1) := by decide +kernel
theorem i_142_74 : q_dec 142 74 = some (12, .iaload, 1) := by decide +kernel
theorem i_142_75 : q_dec 142 75 = some (12, .aload_n 0, 1) := by decide +kernel
theorem i_142_76 : q_dec 142 76 = some (12, .getfield 29, 3) := by decide +kernel
theorem i_142_79 : q_dec 142 79 = some (12, .iconst 3, 1) := by decide +kernel
theorem i_142_80 : q_dec 142 80 = some (12, .iaload, 1) := by decide +kernel
theorem i_142_81 : q_dec 142 81 = some (12, .iadd, 1) := by decide +kernel
theorem i_142_82 : q_dec 142 82 = some (12, .ireturn, 1) := by decide +kernel
theorem i_142_83 : q_dec 142 83 = some (12, .aload_n 0, 1) := by decide +kernel
theorem i_142_84 : q_dec 142 84 = some (12, .dup, 1) := by decide +kernel
theorem i_142_85 : q_dec 142 85 = some (12, .getfield 229, 3) := by decide +kernel
theorem i_142_88 : q_dec 142 88 = some (12, .ldc2_w 235, 3) := by decide +kernel
theorem i_142_91 : q_dec 142 91 = some (12, .ladd, 1) := by decide +kernel
theorem i_142_92 : q_dec 142 92 = some (12, .putfield 229, 3) := by decide +kernel
theorem i_142_95 : q_dec 142 95 = some (12, .aload_n 0, 1) := by decide +kernel
theorem i_142_96 : q_dec 142 96 = some (12, .getfield 29, 3) := by decide +kernel
theorem i_142_99 : q_dec 142 99 = some (12, .iconst 1, 1) := by decide +kernel
theorem i_142_100 : q_dec 142 100 = some (12, .iaload, 1) := by decide +kernel
theorem i_142_101 : q_dec 142 101 = some (12, .aload_n 0, 1) := by decide +kernel
theorem i_142_102 : q_dec 142 102 = some (12, .invokevirtual 190, 3) := by decide +kernel
theorem i_142_105 : q_dec 142 105 = some (12, .isub, 1) := by decide +kernel
theorem i_142_106 : q_dec 142 106 = some (12, .ireturn, 1) := by decide +kernel
theorem i_142_107 : q_dec 142 107 = some (12, .aload_n 0, 1) := by decide +kernel
theorem i_142_108 : q_dec 142 108 = some (12, .dup, 1) := by decide +kernel
theorem i_142_109 : q_dec 142 109 = some (12, .getfield 229, 3) := by decide +kernel
theorem i_142_112 : q_dec 142 112 = some (12, .ldc2_w 237, 3) := by decide +kernel
theorem i_142_115 : q_dec 142 115 = some (12, .ladd, 1) := by decide +kernel
theorem i_142_116 : q_dec 142 116 = some (12, .putfield 229, 3) := by decide +kernel
theorem i_142_119 : q_dec 142 119 = some (12, .iconst 2, 1) := by decide +kernel
theorem i_142_120 : q_dec 142 120 = some (12, .aload_n 0, 1) := by decide +kernel
theorem i_142_121 : q_dec 142 121 = some (12, .getfield 29, 3) := by decide +kernel
theorem i_142_124 : q_dec 142 124 = some (12, .iconst 1, 1) := by decide +kernel
theorem i_142_125 : q_dec 142 125 = some (12, .iaload, 1) := by decide +kernel
theorem i_142_126 : q_dec 142 126 = some (12, .aload_n 0, 1) := by decide +kernel
theorem i_142_127 : q_dec 142 127 = some (12, .getfield 29, 3) := by decide +kernel
theorem i_142_130 : q_dec 142 130 = some (12, .iconst 3, 1) := by decide +kernel
theorem i_142_131 : q_dec 142 131 = some (12, .iaload, 1) := by decide +kernel
theorem i_142_132 : q_dec 142 132 = some (12, .iadd, 1) := by decide +kernel
theorem i_142_133 : q_dec 142 133 = some (12, .imul, 1) := by decide +kernel
theorem i_142_134 : q_dec 142 134 = some (12, .ireturn, 1) := by decide +kernel
theorem i_142_135 : q_dec 142 135 = some (12, .aload_n 0, 1) := by decide +kernel
theorem i_142_136 : q_dec 142 136 = some (12, .dup, 1) := by decide +kernel
theorem i_142_137 : q_dec 142 137 = some (12, .getfield 229, 3) := by decide +kernel
theorem i_142_140 : q_dec 142 140 = some (12, .ldc2_w 239, 3) := by decide +kernel
theorem i_142_143 : q_dec 142 143 = some (12, .ladd, 1) := by decide +kernel
theorem i_142_144 : q_dec 142 144 = some (12, .putfield 229, 3) := by decide +kernel
theorem i_142_147 : q_dec 142 147 = some (12, .aload_n 0, 1) := by decide +kernel
theorem i_142_148 : q_dec 142 148 = some (12, .getfield 29, 3) := by decide +kernel
theorem i_142_151 : q_dec 142 151 = some (12, .iconst 1, 1) := by decide +kernel
theorem i_142_152 : q_dec 142 152 = some (12, .iaload, 1) := by decide +kernel
theorem i_142_153 : q_dec 142 153 = some (12, .aload_n 0, 1) := by decide +kernel
theorem i_142_154 : q_dec 142 154 = some (12, .invokevirtual 190, 3) := by decide +kernel
theorem i_142_157 : q_dec 142 157 = some (12, .isub, 1) := by decide +kernel
theorem i_142_158 : q_dec 142 158 = some (12, .aload_n 0, 1) := by decide +kernel
theorem i_142_159 : q_dec 142 159 = some (12, .getfield 29, 3) := by decide +kernel
theorem i_142_162 : q_dec 142 162 = some (12, .iconst 0, 1) := by decide +kernel
theorem i_142_163 : q_dec 142 163 = some (12, .iaload, 1) := by decide +kernel
theorem i_142_164 : q_dec 142 164 = some (12, .bipush (-9), 2) := by decide +kernel
theorem i_142_166 : q_dec 142 166 = some (12, .if_icmp .ne (7), 3) := by decide +kernel
theorem i_142_169 : q_dec 142 169 = some (12, .iconst 0, 1) := by decide +kernel
theorem i_142_170 : q_dec 142 170 = some (12, .goto 9, 3) := by decide +kernel
theorem i_142_173 : q_dec 142 173 = some (12, .aload_n 0, 1) := by decide +kernel
theorem i_142_174 : q_dec 142 174 = some (12, .getfield 29, 3) := by decide +kernel
theorem i_142_177 : q_dec 142 177 = some (12, .iconst 0, 1) := by decide +kernel
theorem i_142_178 : q_dec 142 178 = some (12, .iaload, 1) := by decide +kernel
theorem i_142_179 : q_dec 142 179 = some (12, .iadd, 1) := by decide +kernel
theorem i_142_180 : q_dec 142 180 = some (12, .ireturn, 1) := by decide +kernel
theorem i_142_181 : q_dec 142 181 = some (12, .aload_n 0, 1) := by decide +kernel
theorem i_142_182 : q_dec 142 182 = some (12, .dup, 1) := by decide +kernel
theorem i_142_183 : q_dec 142 183 = some (12, .getfield 229, 3) := by decide +kernel
theorem i_142_186 : q_dec 142 186 = some (12, .ldc2_w 241, 3) := by decide +kernel
theorem i_142_189 : q_dec 142 189 = some (12, .ladd, 1) := by decide +kernel
theorem i_142_190 : q_dec 142 190 = some (12, .putfield 229, 3) := by decide +kernel
theorem i_142_193 : q_dec 142 193 = some (12, .aload_n 0, 1) := by decide +kernel
theorem i_142_194 : q_dec 142 194 = some (12, .getfield 29, 3) := by decide +kernel
theorem i_142_197 : q_dec 142 197 = some (12, .iconst 1, 1) := by decide +kernel
theorem i_142_198 : q_dec 142 198 = some (12, .iaload, 1) := by decide +kernel
theorem i_142_199 : q_dec 142 199 = some (12, .aload_n 0, 1) := by decide +kernel
theorem i_142_200 : q_dec 142 200 = some (12, .getfield 176, 3) := by decide +kernel
theorem i_142_203 : q_dec 142 203 = some (12, .iadd, 1) := by decide +kernel
theorem i_142_204 : q_dec 142 204 = some (12, .ireturn, 1) := by decide +kernel
theorem i_142_205 : q_dec 142 205 = some (12, .ldc 243, 2) := by decide +kernel
theorem i_142_207 : q_dec 142 207 = some (12, .ireturn, 1) := by decide +kernel
theorem i_143_0 : q_dec 143 0 = some (12, .iload_n 1, 1) := by decide +kernel
theorem i_143_1 : q_dec 143 1 = some (12, .i2l, 1) := by decide +kernel
theorem i_143_2 : q_dec 143 2 = some (12, .lconst 0, 1) := by decide +kernel
theorem i_143_3 : q_dec 143 3 = some (12, .lconst 1, 1) := by decide +kernel
theorem i_143_4 : q_dec 143 4 = some (12, .invokestatic 72, 3) := by decide +kernel
theorem i_143_7 : q_dec 143 7 = some (12, .ifCond .ne (5), 3) := by decide +kernel
theorem i_143_10 : q_dec 143 10 = some (12, .iconst (-1), 1) := by decide +kernel
theorem i_143_11 : q_dec 143 11 = some (12, .ireturn, 1) := by decide +kernel
theorem i_143_12 : q_dec 143 12 = some (12, .aload_n 0, 1) := by decide +kernel
theorem i_143_13 : q_dec 143 13 = some (12, .iconst 0, 1) := by decide +kernel
theorem i_143_14 : q_dec 143 14 = some (12, .sipush 130, 3) := by decide +kernel
theorem i_143_17 : q_dec 143 17 = some (12, .iconst 1, 1) := by decide +kernel
theorem i_143_18 : q_dec 143 18 = some (12, .iload_n 1, 1) := by decide +kernel
theorem i_143_19 : q_dec 143 19 = some (12, .iadd, 1) := by decide +kernel
theorem i_143_20 : q_dec 143 20 = some (12, .imul, 1) := by decide +kernel
theorem i_143_21 : q_dec 143 21 = some (12, .invokevirtual 244, 3) := by decide +kernel
theorem i_143_24 : q_dec 143 24 = some (12, .aload_n 0, 1) := by decide +kernel
theorem i_143_25 : q_dec 143 25 = some (12, .getfield 32, 3) := by decide +kernel
theorem i_143_28 : q_dec 143 28 = some (12, .iload_n 1, 1) := by decide +kernel
theorem i_143_29 : q_dec 143 29 = some (12, .iconst 1, 1) := by decide +kernel
theorem i_143_30 : q_dec 143 30 = some (12, .bastore, 1) := by decide +kernel
theorem i_143_31 : q_dec 143 31 = some (12, .aload_n 0, 1) := by decide +kernel
theorem i_143_32 : q_dec 143 32 = some (12, .getfield 29, 3) := by decide +kernel
theorem i_143_35 : q_dec 143 35 = some (12, .iconst 3, 1) := by decide +kernel
theorem i_143_36 : q_dec 143 36 = some (12, .iaload, 1) := by decide +kernel
theorem i_143_37 : q_dec 143 37 = some (12, .ireturn, 1) := by decide +kernel
theorem i_144_0 : q_dec 144 0 = some (12, .iconst 0, 1) := by decide +kernel
theorem i_144_1 : q_dec 144 1 = some (12, .istore_n 3, 1) := by decide +kernel
theorem i_144_2 : q_dec 144 2 = some (12, .iload_n 3, 1) := by decide +kernel
theorem i_144_3 : q_dec 144 3 = some (12, .sipush 130, 3) := by decide +kernel
theorem i_144_6 : q_dec 144 6 = some (12, .if_icmp .ge (25), 3) := by decide +kernel
theorem i_144_9 : q_dec 144 9 = some (12, .aload_n 0, 1) := by decide +kernel
theorem i_144_10 : q_dec 144 10 = some (12, .getfield 29, 3) := by decide +kernel
theorem i_144_13 : q_dec 144 13 = some (12, .iload_n 2, 1) := by decide +kernel
theorem i_144_14 : q_dec 144 14 = some (12, .iload_n 3, 1) := by decide +kernel
theorem i_144_15 : q_dec 144 15 = some (12, .iadd, 1) := by decide +kernel
theorem i_144_16 : q_dec 144 16 = some (12, .aload_n 0, 1) := by decide +kernel
theorem i_144_17 : q_dec 144 17 = some (12, .getfield 29, 3) := by decide +kernel
theorem i_144_20 : q_dec 144 20 = some (12, .iload_n 1, 1) := by decide +kernel
theorem i_144_21 : q_dec 144 21 = some (12, .iload_n 3, 1) := by decide +kernel
theorem i_144_22 : q_dec 144 22 = some (12, .iadd, 1) := by decide +kernel
theorem i_144_23 : q_dec 144 23 = some (12, .iaload, 1) := by decide +kernel
theorem i_144_24 : q_dec 144 24 = some (12, .iastore, 1) := by decide +kernel
theorem i_144_25 : q_dec 144 25 = some (12, .iinc 3 1, 3) := by decide +kernel
theorem i_144_28 : q_dec 144 28 = some (12, .goto (-26), 3) := by decide +kernel
theorem i_144_31 : q_dec 144 31 = some (12, .return_, 1) := by decide +kernel
theorem i_145_0 : q_dec 145 0 = some (12, .iload_n 1, 1) := by decide +kernel
theorem i_145_1 : q_dec 145 1 = some (12, .i2l, 1) := by decide +kernel
theorem i_145_2 : q_dec 145 2 = some (12, .lconst 0, 1) := by decide +kernel
theorem i_145_3 : q_dec 145 3 = some (12, .lconst 1, 1) := by decide +kernel
theorem i_145_4 : q_dec 145 4 = some (12, .invokestatic 72, 3) := by decide +kernel
theorem i_145_7 : q_dec 145 7 = some (12, .ifCond .ne (5), 3) := by decide +kernel
theorem i_145_10 : q_dec 145 10 = some (12, .iconst (-1), 1) := by decide +kernel
theorem i_145_11 : q_dec 145 11 = some (12, .ireturn, 1) := by decide +kernel
theorem i_145_12 : q_dec 145 12 = some (12, .aload_n 0, 1) := by decide +kernel
theorem i_145_13 : q_dec 145 13 = some (12, .getfield 32, 3) := by decide +kernel
theorem i_145_16 : q_dec 145 16 = some (12, .iload_n 1, 1) := by decide +kernel
theorem i_145_17 : q_dec 145 17 = some (12, .baload, 1) := by decide +kernel
theorem i_145_18 : q_dec 145 18 = some (12, .ifCond .ne (6), 3) := by decide +kernel
theorem i_145_21 : q_dec 145 21 = some (12, .bipush (-2), 2) := by decide +kernel
theorem i_145_23 : q_dec 145 23 = some (12, .ireturn, 1) := by decide +kernel
theorem i_145_24 : q_dec 145 24 = some (12, .aload_n 0, 1) := by decide +kernel
theorem i_145_25 : q_dec 145 25 = some (12, .sipush 130, 3) := by decide +kernel
theorem i_145_28 : q_dec 145 28 = some (12, .iconst 1, 1) := by decide +kernel
theorem i_145_29 : q_dec 145 29 = some (12, .iload_n 1, 1) := by decide +kernel
theorem i_145_30 : q_dec 145 30 = some (12, .iadd, 1) := by decide +kernel
theorem i_145_31 : q_dec 145 31 = some (12, .imul, 1) := by decide +kernel
theorem i_145_32 : q_dec 145 32 = some (12, .iconst 0, 1) := by decide +kernel
theorem i_145_33 : q_dec 145 33 = some (12, .invokevirtual 244, 3) := by decide +kernel
theorem i_145_36 : q_dec 145 36 = some (12, .aload_n 0, 1) := by decide +kernel
theorem i_145_37 : q_dec 145 37 = some (12, .getfield 29, 3) := by decide +kernel
theorem i_145_40 : q_dec 145 40 = some (12, .iconst 3, 1) := by decide +kernel
theorem i_145_41 : q_dec 145 41 = some (12, .iaload, 1) := by decide +kernel
theorem i_145_42 : q_dec 145 42 = some (12, .ireturn, 1) := by decide +kernel
theorem i_146_0 : q_dec 146 0 = some (12, .iload_n 1, 1) := by decide +kernel
theorem i_146_1 : q_dec 146 1 = some (12, .tableswitch (75) (0) (5) #[39, 44, 49, 57, 65, 70], 39) := by decide +kernel
theorem i_146_40 : q_dec 146 40 = some (12, .aload_n 0, 1) := by decide +kernel
theorem i_146_41 : q_dec 146 41 = some (12, .getfield 7, 3) := by decide +kernel
theorem i_146_44 : q_dec 146 44 = some (12, .ireturn, 1) := by decide +kernel
theorem i_146_45 : q_dec 146 45 = some (12, .aload_n 0, 1) := by decide +kernel
theorem i_146_46 : q_dec 146 46 = some (12, .getfield 13, 3) := by decide +kernel
theorem i_146_49 : q_dec 146 49 = some (12, .ireturn, 1) := by decide +kernel
theorem i_146_50 : q_dec 146 50 = some (12, .aload_n 0, 1) := by decide +kernel
theorem i_146_51 : q_dec 146 51 = some (12, .getfield 80, 3) := by decide +kernel
theorem i_146_54 : q_dec 146 54 = some (12, .invokestatic 223, 3) := by decide +kernel
theorem i_146_57 : q_dec 146 57 = some (12, .ireturn, 1) := by decide +kernel
theorem i_146_58 : q_dec 146 58 = some (12, .aload_n 0, 1) := by decide +kernel
theorem i_146_59 : q_dec 146 59 = some (12, .getfield 167, 3) := by decide +kernel
theorem i_146_62 : q_dec 146 62 = some (12, .invokestatic 223, 3) := by decide +kernel
theorem i_146_65 : q_dec 146 65 = some (12, .ireturn, 1) := by decide +kernel
theorem i_146_66 : q_dec 146 66 = some (12, .aload_n 0, 1) := by decide +kernel
theorem i_146_67 : q_dec 146 67 = some (12, .getfield 176, 3) := by decide +kernel
theorem i_146_70 : q_dec 146 70 = some (12, .ireturn, 1) := by decide +kernel
theorem i_146_71 : q_dec 146 71 = some (12, .aload_n 0, 1) := by decide +kernel
theorem i_146_72 : q_dec 146 72 = some (12, .getfield 89, 3) := by decide +kernel
theorem i_146_75 : q_dec 146 75 = some (12, .ireturn, 1) := by decide +kernel
theorem i_146_76 : q_dec 146 76 = some (12, .iconst (-1), 1) := by decide +kernel
theorem i_146_77 : q_dec 146 77 = some (12, .ireturn, 1) := by decide +kernel
theorem i_147_0 : q_dec 147 0 = some (12, .aload_n 0, 1) := by decide +kernel
theorem i_147_1 : q_dec 147 1 = some (12, .getfield 229, 3) := by decide +kernel
theorem i_147_4 : q_dec 147 4 = some (12, .lreturn, 1) := by decide +kernel
theorem i_148_0 : q_dec 148 0 = some (13, .aload_n 0, 1) := by decide +kernel
theorem i_148_1 : q_dec 148 1 = some (13, .getfield 9, 3) := by decide +kernel
theorem i_148_4 : q_dec 148 4 = some (13, .arraylength, 1) := by decide +kernel
theorem i_148_5 : q_dec 148 5 = some (13, .aload_n 0, 1) := by decide +kernel
theorem i_148_6 : q_dec 148 6 = some (13, .invokevirtual 335, 3) := by decide +kernel
theorem i_148_9 : q_dec 148 9 = some (13, .ishr, 1) := by decide +kernel
theorem i_148_10 : q_dec 148 10 = some (13, .ireturn, 1) := by decide +kernel
theorem i_149_0 : q_dec 149 0 = some (13, .getstatic 38, 3) := by decide +kernel
theorem i_149_3 : q_dec 149 3 = some (13, .ifCond .eq (10), 3) := by decide +kernel
theorem i_149_6 : q_dec 149 6 = some (13, .aload_n 0, 1) := by decide +kernel
theorem i_149_7 : q_dec 149 7 = some (13, .getfield 15, 3) := by decide +kernel
theorem i_149_10 : q_dec 149 10 = some (13, .goto 4, 3) := by decide +kernel
theorem i_149_13 : q_dec 149 13 = some (13, .iconst 1, 1) := by decide +kernel
theorem i_149_14 : q_dec 149 14 = some (13, .ireturn, 1) := by decide +kernel
theorem i_150_0 : q_dec 150 0 = some (13, .aload_n 0, 1) := by decide +kernel
theorem i_150_1 : q_dec 150 1 = some (13, .invokevirtual 492, 3) := by decide +kernel
theorem i_150_4 : q_dec 150 4 = some (13, .ifCond .eq (12), 3) := by decide +kernel
theorem i_150_7 : q_dec 150 7 = some (13, .aload_n 0, 1) := by decide +kernel
theorem i_150_8 : q_dec 150 8 = some (13, .getfield 9, 3) := by decide +kernel
theorem i_150_11 : q_dec 150 11 = some (13, .iload_n 1, 1) := by decide +kernel
theorem i_150_12 : q_dec 150 12 = some (13, .invokestatic 495, 3) := by decide +kernel
theorem i_150_15 : q_dec 150 15 = some (13, .ireturn, 1) := by decide +kernel
theorem i_150_16 : q_dec 150 16 = some (13, .aload_n 0, 1) := by decide +kernel
theorem i_150_17 : q_dec 150 17 = some (13, .getfield 9, 3) := by decide +kernel
theorem i_150_20 : q_dec 150 20 = some (13, .iload_n 1, 1) := by decide +kernel
theorem i_150_21 : q_dec 150 21 = some (13, .invokestatic 498, 3) := by decide +kernel
theorem i_150_24 : q_dec 150 24 = some (13, .ireturn, 1) := by decide +kernel
theorem i_151_0 : q_dec 151 0 = some (13, .getstatic 38, 3) := by decide +kernel
theorem i_151_3 : q_dec 151 3 = some (13, .ifCond .eq (14), 3) := by decide +kernel
theorem i_151_6 : q_dec 151 6 = some (13, .aload_n 0, 1) := by decide +kernel
theorem i_151_7 : q_dec 151 7 = some (13, .getfield 15, 3) := by decide +kernel
theorem i_151_10 : q_dec 151 10 = some (13, .ifCond .ne (7), 3) := by decide +kernel
theorem i_151_13 : q_dec 151 13 = some (13, .iconst 1, 1) := by decide +kernel
theorem i_151_14 : q_dec 151 14 = some (13, .goto 4, 3) := by decide +kernel
theorem i_151_17 : q_dec 151 17 = some (13, .iconst 0, 1) := by decide +kernel
theorem i_151_18 : q_dec 151 18 = some (13, .ireturn, 1) := by decide +kernel
theorem i_152_0 : q_dec 152 0 = some (13, .iload_n 0, 1) := by decide +kernel
theorem i_152_1 : q_dec 152 1 = some (13, .iload_n 1, 1) := by decide +kernel
theorem i_152_2 : q_dec 152 2 = some (13, .getstatic 1053, 3) := by decide +kernel
theorem i_152_5 : q_dec 152 5 = some (13, .invokestatic 1059, 3) := by decide +kernel
theorem i_152_8 : q_dec 152 8 = some (13, .pop, 1) := by decide +kernel
theorem i_152_9 : q_dec 152 9 = some (13, .return_, 1) := by decide +kernel
theorem i_153_0 : q_dec 153 0 = some (14, .iload_n 1, 1) := by decide +kernel
theorem i_153_1 : q_dec 153 1 = some (14, .aload_n 0, 1) := by decide +kernel
theorem i_153_2 : q_dec 153 2 = some (14, .arraylength, 1) := by decide +kernel
theorem i_153_3 : q_dec 153 3 = some (14, .invokestatic 9, 3) := by decide +kernel
theorem i_153_6 : q_dec 153 6 = some (14, .aload_n 0, 1) := by decide +kernel
theorem i_153_7 : q_dec 153 7 = some (14, .iload_n 1, 1) := by decide +kernel
theorem i_153_8 : q_dec 153 8 = some (14, .baload, 1) := by decide +kernel
theorem i_153_9 : q_dec 153 9 = some (14, .sipush 255, 3) := by decide +kernel
theorem i_153_12 : q_dec 153 12 = some (14, .iand, 1) := by decide +kernel
theorem i_153_13 : q_dec 153 13 = some (14, .i2c, 1) := by decide +kernel
theorem i_153_14 : q_dec 153 14 = some (14, .ireturn, 1) := by decide +kernel
theorem i_154_0 : q_dec 154 0 = some (15, .iload_n 0, 1) := by decide +kernel
theorem i_154_1 : q_dec 154 1 = some (15, .ifCond .lt (8), 3) := by decide +kernel
theorem i_154_4 : q_dec 154 4 = some (15, .iload_n 0, 1) := by decide +kernel
theorem i_154_5 : q_dec 154 5 = some (15, .iload_n 1, 1) := by decide +kernel
theorem i_154_6 : q_dec 154 6 = some (15, .if_icmp .lt (10), 3) := by decide +kernel
theorem i_154_9 : q_dec 154 9 = some (15, .aload_n 2, 1) := by decide +kernel
theorem i_154_10 : q_dec 154 10 = some (15, .iload_n 0, 1) := by decide +kernel
theorem i_154_11 : q_dec 154 11 = some (15, .iload_n 1, 1) := by decide +kernel
theorem i_154_12 : q_dec 154 12 = some (15, .invokestatic 95, 3) := by decide +kernel
theorem i_154_16 : q_dec 154 16 = some (15, .iload_n 0, 1) := by decide +kernel
theorem i_154_17 : q_dec 154 17 = some (15, .ireturn, 1) := by decide +kernel
theorem i_155_0 : q_dec 155 0 = some (16, .iload_n 0, 1) := by decide +kernel
theorem i_155_1 : q_dec 155 1 = some (16, .iload_n 1, 1) := by decide +kernel
theorem i_155_2 : q_dec 155 2 = some (16, .if_icmp .gt (7), 3) := by decide +kernel
theorem i_155_5 : q_dec 155 5 = some (16, .iload_n 0, 1) := by decide +kernel
theorem i_155_6 : q_dec 155 6 = some (16, .goto 4, 3) := by decide +kernel
theorem i_155_9 : q_dec 155 9 = some (16, .iload_n 1, 1) := by decide +kernel
theorem i_155_10 : q_dec 155 10 = some (16, .ireturn, 1) := by decide +kernel
theorem i_156_0 : q_dec 156 0 = some (16, .iload_n 0, 1) := by decide +kernel
theorem i_156_1 : q_dec 156 1 = some (16, .iload_n 1, 1) := by decide +kernel
theorem i_156_2 : q_dec 156 2 = some (16, .if_icmp .lt (7), 3) := by decide +kernel
theorem i_156_5 : q_dec 156 5 = some (16, .iload_n 0, 1) := by decide +kernel
theorem i_156_6 : q_dec 156 6 = some (16, .goto 4, 3) := by decide +kernel
theorem i_156_9 : q_dec 156 9 = some (16, .iload_n 1, 1) := by decide +kernel
theorem i_156_10 : q_dec 156 10 = some (16, .ireturn, 1) := by decide +kernel
theorem i_157_0 : q_dec 157 0 = some (17, .iload_n 0, 1) := by decide +kernel
theorem i_157_1 : q_dec 157 1 = some (17, .iload_n 0, 1) := by decide +kernel
theorem i_157_2 : q_dec 157 2 = some (17, .iconst 1, 1) := by decide +kernel
theorem i_157_3 : q_dec 157 3 = some (17, .iushr, 1) := by decide +kernel
theorem i_157_4 : q_dec 157 4 = some (17, .ldc_w 265, 3) := by decide +kernel
theorem i_157_7 : q_dec 157 7 = some (17, .iand, 1) := by decide +kernel
theorem i_157_8 : q_dec 157 8 = some (17, .isub, 1) := by decide +kernel
theorem i_157_9 : q_dec 157 9 = some (17, .istore_n 0, 1) := by decide +kernel
theorem i_157_10 : q_dec 157 10 = some (17, .iload_n 0, 1) := by decide +kernel
theorem i_157_11 : q_dec 157 11 = some (17, .ldc_w 266, 3) := by decide +kernel
theorem i_157_14 : q_dec 157 14 = some (17, .iand, 1) := by decide +kernel
theorem i_157_15 : q_dec 157 15 = some (17, .iload_n 0, 1) := by decide +kernel
theorem i_157_16 : q_dec 157 16 = some (17, .iconst 2, 1) := by decide +kernel
theorem i_157_17 : q_dec 157 17 = some (17, .iushr, 1) := by decide +kernel
theorem i_157_18 : q_dec 157 18 = some (17, .ldc_w 266, 3) := by decide +kernel
theorem i_157_21 : q_dec 157 21 = some (17, .iand, 1) := by decide +kernel
theorem i_157_22 : q_dec 157 22 = some (17, .iadd, 1) := by decide +kernel
theorem i_157_23 : q_dec 157 23 = some (17, .istore_n 0, 1) := by decide +kernel
theorem i_157_24 : q_dec 157 24 = some (17, .iload_n 0, 1) := by decide +kernel
theorem i_157_25 : q_dec 157 25 = some (17, .iload_n 0, 1) := by decide +kernel
theorem i_157_26 : q_dec 157 26 = some (17, .iconst 4, 1) := by decide +kernel
theorem i_157_27 : q_dec 157 27 = some (17, .iushr, 1) := by decide +kernel
theorem i_157_28 : q_dec 157 28 = some (17, .iadd, 1) := by decide +kernel
theorem i_157_29 : q_dec 157 29 = some (17, .ldc_w 267, 3) := by decide +kernel
theorem i_157_32 : q_dec 157 32 = some (17, .iand, 1) := by decide +kernel
theorem i_157_33 : q_dec 157 33 = some (17, .istore_n 0, 1) := by decide +kernel
theorem i_157_34 : q_dec 157 34 = some (17, .iload_n 0, 1) := by decide +kernel
theorem i_157_35 : q_dec 157 35 = some (17, .iload_n 0, 1) := by decide +kernel
theorem i_157_36 : q_dec 157 36 = some (17, .bipush 8, 2) := by decide +kernel
theorem i_157_38 : q_dec 157 38 = some (17, .iushr, 1) := by decide +kernel
theorem i_157_39 : q_dec 157 39 = some (17, .iadd, 1) := by decide +kernel
theorem i_157_40 : q_dec 157 40 = some (17, .istore_n 0, 1) := by decide +kernel
theorem i_157_41 : q_dec 157 41 = some (17, .iload_n 0, 1) := by decide +kernel
theorem i_157_42 : q_dec 157 42 = some (17, .iload_n 0, 1) := by decide +kernel
theorem i_157_43 : q_dec 157 43 = some (17, .bipush 16, 2) := by decide +kernel
theorem i_157_45 : q_dec 157 45 = some (17, .iushr, 1) := by decide +kernel
theorem i_157_46 : q_dec 157 46 = some (17, .iadd, 1) := by decide +kernel
theorem i_157_47 : q_dec 157 47 = some (17, .istore_n 0, 1) := by decide +kernel
theorem i_157_48 : q_dec 157 48 = some (17, .iload_n 0, 1) := by decide +kernel
theorem i_157_49 : q_dec 157 49 = some (17, .bipush 63, 2) := by decide +kernel
theorem i_157_51 : q_dec 157 51 = some (17, .iand, 1) := by decide +kernel
theorem i_157_52 : q_dec 157 52 = some (17, .ireturn, 1) := by decide +kernel
theorem i_158_0 : q_dec 158 0 = some (18, .iconst 0, 1) := by decide +kernel
theorem i_158_1 : q_dec 158 1 = some (18, .istore_n 2, 1) := by decide +kernel
theorem i_158_2 : q_dec 158 2 = some (18, .aload_n 0, 1) := by decide +kernel
theorem i_158_3 : q_dec 158 3 = some (18, .arraylength, 1) := by decide +kernel
theorem i_158_4 : q_dec 158 4 = some (18, .istore_n 3, 1) := by decide +kernel
theorem i_158_5 : q_dec 158 5 = some (18, .iload_n 2, 1) := by decide +kernel
theorem i_158_6 : q_dec 158 6 = some (18, .iload_n 3, 1) := by decide +kernel
theorem i_158_7 : q_dec 158 7 = some (18, .if_icmp .ge (13), 3) := by decide +kernel
theorem i_158_10 : q_dec 158 10 = some (18, .aload_n 0, 1) := by decide +kernel
theorem i_158_11 : q_dec 158 11 = some (18, .iload_n 2, 1) := by decide +kernel
theorem i_158_12 : q_dec 158 12 = some (18, .iload_n 1, 1) := by decide +kernel
theorem i_158_13 : q_dec 158 13 = some (18, .iastore, 1) := by decide +kernel
theorem i_158_14 : q_dec 158 14 = some (18, .iinc 2 1, 3) := by decide +kernel
theorem i_158_17 : q_dec 158 17 = some (18, .goto (-12), 3) := by decide +kernel
theorem i_158_20 : q_dec 158 20 = some (18, .return_, 1) := by decide +kernel
