theorem i_0_0 : q_dec 0 0 = some (0, .aload_n 1, 1) := by decide +kernel
theorem i_0_1 : q_dec 0 1 = some (0, .dup, 1) := by decide +kernel
theorem i_0_2 : q_dec 0 2 = some (0, .getfield 7, 3) := by decide +kernel
theorem i_0_5 : q_dec 0 5 = some (0, .ldc2_w 13, 3) := by decide +kernel
theorem i_0_8 : q_dec 0 8 = some (0, .ladd, 1) := by decide +kernel
theorem i_0_9 : q_dec 0 9 = some (0, .putfield 7, 3) := by decide +kernel
theorem i_0_12 : q_dec 0 12 = some (0, .aload_n 0, 1) := by decide +kernel
theorem i_0_13 : q_dec 0 13 = some (0, .aload_n 1, 1) := by decide +kernel
theorem i_0_14 : q_dec 0 14 = some (0, .invokespecial 15, 3) := by decide +kernel
theorem i_0_17 : q_dec 0 17 = some (0, .aload_n 1, 1) := by decide +kernel
theorem i_0_18 : q_dec 0 18 = some (0, .getfield 19, 3) := by decide +kernel
theorem i_0_21 : q_dec 0 21 = some (0, .getfield 23, 3) := by decide +kernel
theorem i_0_24 : q_dec 0 24 = some (0, .iadd, 1) := by decide +kernel
theorem i_0_25 : q_dec 0 25 = some (0, .ireturn, 1) := by decide +kernel
theorem i_1_0 : q_dec 1 0 = some (1, .aload_n 1, 1) := by decide +kernel
theorem i_1_1 : q_dec 1 1 = some (1, .dup, 1) := by decide +kernel
theorem i_1_2 : q_dec 1 2 = some (1, .getfield 7, 3) := by decide +kernel
theorem i_1_5 : q_dec 1 5 = some (1, .ldc2_w 13, 3) := by decide +kernel
theorem i_1_8 : q_dec 1 8 = some (1, .ladd, 1) := by decide +kernel
theorem i_1_9 : q_dec 1 9 = some (1, .putfield 7, 3) := by decide +kernel
theorem i_1_12 : q_dec 1 12 = some (1, .aload_n 0, 1) := by decide +kernel
theorem i_1_13 : q_dec 1 13 = some (1, .aload_n 1, 1) := by decide +kernel
theorem i_1_14 : q_dec 1 14 = some (1, .invokespecial 15, 3) := by decide +kernel
theorem i_1_17 : q_dec 1 17 = some (1, .aload_n 1, 1) := by decide +kernel
theorem i_1_18 : q_dec 1 18 = some (1, .getfield 19, 3) := by decide +kernel
theorem i_1_21 : q_dec 1 21 = some (1, .invokevirtual 23, 3) := by decide +kernel
theorem i_1_24 : q_dec 1 24 = some (1, .isub, 1) := by decide +kernel
theorem i_1_25 : q_dec 1 25 = some (1, .ireturn, 1) := by decide +kernel
theorem i_2_0 : q_dec 2 0 = some (2, .aload_n 1, 1) := by decide +kernel
theorem i_2_1 : q_dec 2 1 = some (2, .dup, 1) := by decide +kernel
theorem i_2_2 : q_dec 2 2 = some (2, .getfield 7, 3) := by decide +kernel
theorem i_2_5 : q_dec 2 5 = some (2, .ldc2_w 13, 3) := by decide +kernel
theorem i_2_8 : q_dec 2 8 = some (2, .ladd, 1) := by decide +kernel
theorem i_2_9 : q_dec 2 9 = some (2, .putfield 7, 3) := by decide +kernel
theorem i_2_12 : q_dec 2 12 = some (2, .iconst 2, 1) := by decide +kernel
theorem i_2_13 : q_dec 2 13 = some (2, .aload_n 0, 1) := by decide +kernel
theorem i_2_14 : q_dec 2 14 = some (2, .aload_n 1, 1) := by decide +kernel
theorem i_2_15 : q_dec 2 15 = some (2, .invokespecial 15, 3) := by decide +kernel
theorem i_2_18 : q_dec 2 18 = some (2, .imul, 1) := by decide +kernel
theorem i_2_19 : q_dec 2 19 = some (2, .ireturn, 1) := by decide +kernel
theorem i_3_0 : q_dec 3 0 = some (3, .aload_n 1, 1) := by decide +kernel
theorem i_3_1 : q_dec 3 1 = some (3, .dup, 1) := by decide +kernel
theorem i_3_2 : q_dec 3 2 = some (3, .getfield 7, 3) := by decide +kernel
theorem i_3_5 : q_dec 3 5 = some (3, .ldc2_w 13, 3) := by decide +kernel
theorem i_3_8 : q_dec 3 8 = some (3, .ladd, 1) := by decide +kernel
theorem i_3_9 : q_dec 3 9 = some (3, .putfield 7, 3) := by decide +kernel
theorem i_3_12 : q_dec 3 12 = some (3, .aload_n 0, 1) := by decide +kernel
theorem i_3_13 : q_dec 3 13 = some (3, .aload_n 1, 1) := by decide +kernel
theorem i_3_14 : q_dec 3 14 = some (3, .invokespecial 15, 3) := by decide +kernel
theorem i_3_17 : q_dec 3 17 = some (3, .aload_n 1, 1) := by decide +kernel
theorem i_3_18 : q_dec 3 18 = some (3, .getfield 19, 3) := by decide +kernel
theorem i_3_21 : q_dec 3 21 = some (3, .getfield 23, 3) := by decide +kernel
theorem i_3_24 : q_dec 3 24 = some (3, .iadd, 1) := by decide +kernel
theorem i_3_25 : q_dec 3 25 = some (3, .ireturn, 1) := by decide +kernel
theorem i_4_0 : q_dec 4 0 = some (4, .aload_n 0, 1) := by decide +kernel
theorem i_4_1 : q_dec 4 1 = some (4, .getfield 9, 3) := by decide +kernel
theorem i_4_4 : q_dec 4 4 = some (4, .ifCond .lt (12), 3) := by decide +kernel
theorem i_4_7 : q_dec 4 7 = some (4, .aload_n 0, 1) := by decide +kernel
theorem i_4_8 : q_dec 4 8 = some (4, .getfield 9, 3) := by decide +kernel
theorem i_4_11 : q_dec 4 11 = some (4, .bipush 6, 2) := by decide +kernel
theorem i_4_13 : q_dec 4 13 = some (4, .if_icmp .lt (5), 3) := by decide +kernel
theorem i_4_16 : q_dec 4 16 = some (4, .iconst 0, 1) := by decide +kernel
theorem i_4_17 : q_dec 4 17 = some (4, .ireturn, 1) := by decide +kernel
theorem i_4_18 : q_dec 4 18 = some (4, .aload_n 0, 1) := by decide +kernel
theorem i_4_19 : q_dec 4 19 = some (4, .getfield 15, 3) := by decide +kernel
theorem i_4_22 : q_dec 4 22 = some (4, .aload_n 0, 1) := by decide +kernel
theorem i_4_23 : q_dec 4 23 = some (4, .getfield 9, 3) := by decide +kernel
theorem i_4_26 : q_dec 4 26 = some (4, .iload_n 1, 1) := by decide +kernel
theorem i_4_27 : q_dec 4 27 = some (4, .iastore, 1) := by decide +kernel
theorem i_4_28 : q_dec 4 28 = some (4, .aload_n 0, 1) := by decide +kernel
theorem i_4_29 : q_dec 4 29 = some (4, .getfield 19, 3) := by decide +kernel
theorem i_4_32 : q_dec 4 32 = some (4, .aload_n 0, 1) := by decide +kernel
theorem i_4_33 : q_dec 4 33 = some (4, .getfield 9, 3) := by decide +kernel
theorem i_4_36 : q_dec 4 36 = some (4, .iload_n 2, 1) := by decide +kernel
theorem i_4_37 : q_dec 4 37 = some (4, .iastore, 1) := by decide +kernel
theorem i_4_38 : q_dec 4 38 = some (4, .aload_n 0, 1) := by decide +kernel
theorem i_4_39 : q_dec 4 39 = some (4, .dup, 1) := by decide +kernel
theorem i_4_40 : q_dec 4 40 = some (4, .getfield 9, 3) := by decide +kernel
theorem i_4_43 : q_dec 4 43 = some (4, .iconst 1, 1) := by decide +kernel
theorem i_4_44 : q_dec 4 44 = some (4, .iadd, 1) := by decide +kernel
theorem i_4_45 : q_dec 4 45 = some (4, .putfield 9, 3) := by decide +kernel
theorem i_4_48 : q_dec 4 48 = some (4, .iconst 1, 1) := by decide +kernel
theorem i_4_49 : q_dec 4 49 = some (4, .ireturn, 1) := by decide +kernel
theorem i_5_0 : q_dec 5 0 = some (4, .iconst 0, 1) := by decide +kernel
theorem i_5_1 : q_dec 5 1 = some (4, .istore_n 2, 1) := by decide +kernel
theorem i_5_2 : q_dec 5 2 = some (4, .iload_n 2, 1) := by decide +kernel
theorem i_5_3 : q_dec 5 3 = some (4, .aload_n 0, 1) := by decide +kernel
theorem i_5_4 : q_dec 5 4 = some (4, .getfield 9, 3) := by decide +kernel
theorem i_5_7 : q_dec 5 7 = some (4, .if_icmp .ge (84), 3) := by decide +kernel
theorem i_5_10 : q_dec 5 10 = some (4, .iload_n 2, 1) := by decide +kernel
theorem i_5_11 : q_dec 5 11 = some (4, .bipush 6, 2) := by decide +kernel
theorem i_5_13 : q_dec 5 13 = some (4, .if_icmp .ge (78), 3) := by decide +kernel
theorem i_5_16 : q_dec 5 16 = some (4, .aload_n 1, 1) := by decide +kernel
theorem i_5_17 : q_dec 5 17 = some (4, .aload_n 0, 1) := by decide +kernel
theorem i_5_18 : q_dec 5 18 = some (4, .getfield 19, 3) := by decide +kernel
theorem i_5_21 : q_dec 5 21 = some (4, .iload_n 2, 1) := by decide +kernel
theorem i_5_22 : q_dec 5 22 = some (4, .iaload, 1) := by decide +kernel
theorem i_5_23 : q_dec 5 23 = some (4, .invokevirtual 28, 3) := by decide +kernel
theorem i_5_26 : q_dec 5 26 = some (4, .aload_n 0, 1) := by decide +kernel
theorem i_5_27 : q_dec 5 27 = some (4, .getfield 22, 3) := by decide +kernel
theorem i_5_30 : q_dec 5 30 = some (4, .iload_n 2, 1) := by decide +kernel
theorem i_5_31 : q_dec 5 31 = some (4, .aload_n 1, 1) := by decide +kernel
theorem i_5_32 : q_dec 5 32 = some (4, .aload_n 0, 1) := by decide +kernel
theorem i_5_33 : q_dec 5 33 = some (4, .getfield 15, 3) := by decide +kernel
theorem i_5_36 : q_dec 5 36 = some (4, .iload_n 2, 1) := by decide +kernel
theorem i_5_37 : q_dec 5 37 = some (4, .iaload, 1) := by decide +kernel
theorem i_5_38 : q_dec 5 38 = some (4, .invokevirtual 34, 3) := by decide +kernel
theorem i_5_41 : q_dec 5 41 = some (4, .iastore, 1) := by decide +kernel
theorem i_5_42 : q_dec 5 42 = some (4, .aload_n 0, 1) := by decide +kernel
theorem i_5_43 : q_dec 5 43 = some (4, .getfield 22, 3) := by decide +kernel
theorem i_5_46 : q_dec 5 46 = some (4, .iload_n 2, 1) := by decide +kernel
theorem i_5_47 : q_dec 5 47 = some (4, .iaload, 1) := by decide +kernel
theorem i_5_48 : q_dec 5 48 = some (4, .ldc 38, 2) := by decide +kernel
theorem i_5_50 : q_dec 5 50 = some (4, .if_icmp .lt (5), 3) := by decide +kernel
theorem i_5_53 : q_dec 5 53 = some (4, .iconst 0, 1) := by decide +kernel
theorem i_5_54 : q_dec 5 54 = some (4, .ireturn, 1) := by decide +kernel
theorem i_5_55 : q_dec 5 55 = some (4, .iconst 0, 1) := by decide +kernel
theorem i_5_56 : q_dec 5 56 = some (4, .istore_n 3, 1) := by decide +kernel
theorem i_5_57 : q_dec 5 57 = some (4, .iload_n 3, 1) := by decide +kernel
theorem i_5_58 : q_dec 5 58 = some (4, .bipush 20, 2) := by decide +kernel
theorem i_5_60 : q_dec 5 60 = some (4, .if_icmp .ge (25), 3) := by decide +kernel
theorem i_5_63 : q_dec 5 63 = some (4, .aload_n 0, 1) := by decide +kernel
theorem i_5_64 : q_dec 5 64 = some (4, .getfield 25, 3) := by decide +kernel
theorem i_5_67 : q_dec 5 67 = some (4, .iload_n 2, 1) := by decide +kernel
theorem i_5_68 : q_dec 5 68 = some (4, .bipush 20, 2) := by decide +kernel
theorem i_5_70 : q_dec 5 70 = some (4, .imul, 1) := by decide +kernel
theorem i_5_71 : q_dec 5 71 = some (4, .iload_n 3, 1) := by decide +kernel
theorem i_5_72 : q_dec 5 72 = some (4, .iadd, 1) := by decide +kernel
theorem i_5_73 : q_dec 5 73 = some (4, .aload_n 1, 1) := by decide +kernel
theorem i_5_74 : q_dec 5 74 = some (4, .iload_n 3, 1) := by decide +kernel
theorem i_5_75 : q_dec 5 75 = some (4, .invokevirtual 34, 3) := by decide +kernel
theorem i_5_78 : q_dec 5 78 = some (4, .iastore, 1) := by decide +kernel
theorem i_5_79 : q_dec 5 79 = some (4, .iinc 3 1, 3) := by decide +kernel
theorem i_5_82 : q_dec 5 82 = some (4, .goto (-25), 3) := by decide +kernel
theorem i_5_85 : q_dec 5 85 = some (4, .iinc 2 1, 3) := by decide +kernel
theorem i_5_88 : q_dec 5 88 = some (4, .goto (-86), 3) := by decide +kernel
theorem i_5_91 : q_dec 5 91 = some (4, .iconst 1, 1) := by decide +kernel
theorem i_5_92 : q_dec 5 92 = some (4, .ireturn, 1) := by decide +kernel
theorem i_6_0 : q_dec 6 0 = some (4, .aload_n 2, 1) := by decide +kernel
theorem i_6_1 : q_dec 6 1 = some (4, .iload_n 1, 1) := by decide +kernel
theorem i_6_2 : q_dec 6 2 = some (4, .invokevirtual 28, 3) := by decide +kernel
theorem i_6_5 : q_dec 6 5 = some (4, .iconst 0, 1) := by decide +kernel
theorem i_6_6 : q_dec 6 6 = some (4, .istore_n 3, 1) := by decide +kernel
theorem i_6_7 : q_dec 6 7 = some (4, .iconst 0, 1) := by decide +kernel
theorem i_6_8 : q_dec 6 8 = some (4, .istore 4, 2) := by decide +kernel
theorem i_6_10 : q_dec 6 10 = some (4, .iload 4, 2) := by decide +kernel
theorem i_6_12 : q_dec 6 12 = some (4, .aload_n 0, 1) := by decide +kernel
theorem i_6_13 : q_dec 6 13 = some (4, .getfield 9, 3) := by decide +kernel
theorem i_6_16 : q_dec 6 16 = some (4, .if_icmp .ge (73), 3) := by decide +kernel
theorem i_6_19 : q_dec 6 19 = some (4, .iload 4, 2) := by decide +kernel
theorem i_6_21 : q_dec 6 21 = some (4, .bipush 6, 2) := by decide +kernel
theorem i_6_23 : q_dec 6 23 = some (4, .if_icmp .ge (66), 3) := by decide +kernel
theorem i_6_26 : q_dec 6 26 = some (4, .aload_n 2, 1) := by decide +kernel
theorem i_6_27 : q_dec 6 27 = some (4, .aload_n 0, 1) := by decide +kernel
theorem i_6_28 : q_dec 6 28 = some (4, .getfield 15, 3) := by decide +kernel
theorem i_6_31 : q_dec 6 31 = some (4, .iload 4, 2) := by decide +kernel
theorem i_6_33 : q_dec 6 33 = some (4, .iaload, 1) := by decide +kernel
theorem i_6_34 : q_dec 6 34 = some (4, .invokevirtual 34, 3) := by decide +kernel
theorem i_6_37 : q_dec 6 37 = some (4, .istore 5, 2) := by decide +kernel
theorem i_6_39 : q_dec 6 39 = some (4, .iload 5, 2) := by decide +kernel
theorem i_6_41 : q_dec 6 41 = some (4, .ldc 38, 2) := by decide +kernel
theorem i_6_43 : q_dec 6 43 = some (4, .if_icmp .ge (21), 3) := by decide +kernel
theorem i_6_46 : q_dec 6 46 = some (4, .iload 5, 2) := by decide +kernel
theorem i_6_48 : q_dec 6 48 = some (4, .aload_n 0, 1) := by decide +kernel
theorem i_6_49 : q_dec 6 49 = some (4, .getfield 25, 3) := by decide +kernel
theorem i_6_52 : q_dec 6 52 = some (4, .iload 4, 2) := by decide +kernel
theorem i_6_54 : q_dec 6 54 = some (4, .bipush 20, 2) := by decide +kernel
theorem i_6_56 : q_dec 6 56 = some (4, .imul, 1) := by decide +kernel
theorem i_6_57 : q_dec 6 57 = some (4, .iload_n 1, 1) := by decide +kernel
theorem i_6_58 : q_dec 6 58 = some (4, .iadd, 1) := by decide +kernel
theorem i_6_59 : q_dec 6 59 = some (4, .iaload, 1) := by decide +kernel
theorem i_6_60 : q_dec 6 60 = some (4, .iadd, 1) := by decide +kernel
theorem i_6_61 : q_dec 6 61 = some (4, .goto 5, 3) := by decide +kernel
theorem i_6_64 : q_dec 6 64 = some (4, .ldc 38, 2) := by decide +kernel
theorem i_6_66 : q_dec 6 66 = some (4, .istore 6, 2) := by decide +kernel
theorem i_6_68 : q_dec 6 68 = some (4, .iload_n 3, 1) := by decide +kernel
theorem i_6_69 : q_dec 6 69 = some (4, .aload_n 0, 1) := by decide +kernel
theorem i_6_70 : q_dec 6 70 = some (4, .getfield 22, 3) := by decide +kernel
theorem i_6_73 : q_dec 6 73 = some (4, .iload 4, 2) := by decide +kernel
theorem i_6_75 : q_dec 6 75 = some (4, .iaload, 1) := by decide +kernel
theorem i_6_76 : q_dec 6 76 = some (4, .iload 6, 2) := by decide +kernel
theorem i_6_78 : q_dec 6 78 = some (4, .invokestatic 39, 3) := by decide +kernel
theorem i_6_81 : q_dec 6 81 = some (4, .iadd, 1) := by decide +kernel
theorem i_6_82 : q_dec 6 82 = some (4, .istore_n 3, 1) := by decide +kernel
theorem i_6_83 : q_dec 6 83 = some (4, .iinc 4 1, 3) := by decide +kernel
theorem i_6_86 : q_dec 6 86 = some (4, .goto (-76), 3) := by decide +kernel
theorem i_6_89 : q_dec 6 89 = some (4, .iload_n 3, 1) := by decide +kernel
theorem i_6_90 : q_dec 6 90 = some (4, .ireturn, 1) := by decide +kernel
theorem i_7_0 : q_dec 7 0 = some (5, .aload_n 1, 1) := by decide +kernel
theorem i_7_1 : q_dec 7 1 = some (5, .dup, 1) := by decide +kernel
theorem i_7_2 : q_dec 7 2 = some (5, .getfield 7, 3) := by decide +kernel
theorem i_7_5 : q_dec 7 5 = some (5, .ldc2_w 13, 3) := by decide +kernel
theorem i_7_8 : q_dec 7 8 = some (5, .ladd, 1) := by decide +kernel
theorem i_7_9 : q_dec 7 9 = some (5, .putfield 7, 3) := by decide +kernel
theorem i_7_12 : q_dec 7 12 = some (5, .aload_n 0, 1) := by decide +kernel
theorem i_7_13 : q_dec 7 13 = some (5, .aload_n 1, 1) := by decide +kernel
theorem i_7_14 : q_dec 7 14 = some (5, .invokespecial 15, 3) := by decide +kernel
theorem i_7_17 : q_dec 7 17 = some (5, .aload_n 1, 1) := by decide +kernel
theorem i_7_18 : q_dec 7 18 = some (5, .getfield 19, 3) := by decide +kernel
theorem i_7_21 : q_dec 7 21 = some (5, .getfield 23, 3) := by decide +kernel
theorem i_7_24 : q_dec 7 24 = some (5, .iconst 0, 1) := by decide +kernel
theorem i_7_25 : q_dec 7 25 = some (5, .invokestatic 29, 3) := by decide +kernel
theorem i_7_28 : q_dec 7 28 = some (5, .iadd, 1) := by decide +kernel
theorem i_7_29 : q_dec 7 29 = some (5, .ireturn, 1) := by decide +kernel
theorem i_8_0 : q_dec 8 0 = some (6, .aload_n 0, 1) := by decide +kernel
theorem i_8_1 : q_dec 8 1 = some (6, .getfield 9, 3) := by decide +kernel
theorem i_8_4 : q_dec 8 4 = some (6, .iload_n 3, 1) := by decide +kernel
theorem i_8_5 : q_dec 8 5 = some (6, .iadd, 1) := by decide +kernel
theorem i_8_6 : q_dec 8 6 = some (6, .sipush 200, 3) := by decide +kernel
theorem i_8_9 : q_dec 8 9 = some (6, .if_icmp .le (6), 3) := by decide +kernel
theorem i_8_12 : q_dec 8 12 = some (6, .bipush (-3), 2) := by decide +kernel
theorem i_8_14 : q_dec 8 14 = some (6, .ireturn, 1) := by decide +kernel
theorem i_8_15 : q_dec 8 15 = some (6, .iload_n 3, 1) := by decide +kernel
theorem i_8_16 : q_dec 8 16 = some (6, .iconst 1, 1) := by decide +kernel
theorem i_8_17 : q_dec 8 17 = some (6, .isub, 1) := by decide +kernel
theorem i_8_18 : q_dec 8 18 = some (6, .istore 4, 2) := by decide +kernel
theorem i_8_20 : q_dec 8 20 = some (6, .iload 4, 2) := by decide +kernel
theorem i_8_22 : q_dec 8 22 = some (6, .ifCond .lt (37), 3) := by decide +kernel
theorem i_8_25 : q_dec 8 25 = some (6, .aload_n 0, 1) := by decide +kernel
theorem i_8_26 : q_dec 8 26 = some (6, .getfield 15, 3) := by decide +kernel
theorem i_8_29 : q_dec 8 29 = some (6, .aload_n 0, 1) := by decide +kernel
theorem i_8_30 : q_dec 8 30 = some (6, .getfield 9, 3) := by decide +kernel
theorem i_8_33 : q_dec 8 33 = some (6, .lload_n 1, 1) := by decide +kernel
theorem i_8_34 : q_dec 8 34 = some (6, .bipush 8, 2) := by decide +kernel
theorem i_8_36 : q_dec 8 36 = some (6, .iload 4, 2) := by decide +kernel
theorem i_8_38 : q_dec 8 38 = some (6, .imul, 1) := by decide +kernel
theorem i_8_39 : q_dec 8 39 = some (6, .lshr, 1) := by decide +kernel
theorem i_8_40 : q_dec 8 40 = some (6, .l2i, 1) := by decide +kernel
theorem i_8_41 : q_dec 8 41 = some (6, .i2b, 1) := by decide +kernel
theorem i_8_42 : q_dec 8 42 = some (6, .bastore, 1) := by decide +kernel
theorem i_8_43 : q_dec 8 43 = some (6, .aload_n 0, 1) := by decide +kernel
theorem i_8_44 : q_dec 8 44 = some (6, .dup, 1) := by decide +kernel
theorem i_8_45 : q_dec 8 45 = some (6, .getfield 9, 3) := by decide +kernel
theorem i_8_48 : q_dec 8 48 = some (6, .iconst 1, 1) := by decide +kernel
theorem i_8_49 : q_dec 8 49 = some (6, .iadd, 1) := by decide +kernel
theorem i_8_50 : q_dec 8 50 = some (6, .putfield 9, 3) := by decide +kernel
theorem i_8_53 : q_dec 8 53 = some (6, .iinc 4 (-1), 3) := by decide +kernel
theorem i_8_56 : q_dec 8 56 = some (6, .goto (-36), 3) := by decide +kernel
theorem i_8_59 : q_dec 8 59 = some (6, .aload_n 0, 1) := by decide +kernel
theorem i_8_60 : q_dec 8 60 = some (6, .getfield 9, 3) := by decide +kernel
theorem i_8_63 : q_dec 8 63 = some (6, .ireturn, 1) := by decide +kernel
theorem i_9_0 : q_dec 9 0 = some (6, .aload_n 1, 1) := by decide +kernel
theorem i_9_1 : q_dec 9 1 = some (6, .invokevirtual 19, 3) := by decide +kernel
theorem i_9_4 : q_dec 9 4 = some (6, .aload_n 0, 1) := by decide +kernel
theorem i_9_5 : q_dec 9 5 = some (6, .iconst 0, 1) := by decide +kernel
theorem i_9_6 : q_dec 9 6 = some (6, .putfield 24, 3) := by decide +kernel
theorem i_9_9 : q_dec 9 9 = some (6, .aload_n 0, 1) := by decide +kernel
theorem i_9_10 : q_dec 9 10 = some (6, .iconst 0, 1) := by decide +kernel
theorem i_9_11 : q_dec 9 11 = some (6, .putfield 27, 3) := by decide +kernel
theorem i_9_14 : q_dec 9 14 = some (6, .aload_n 0, 1) := by decide +kernel
theorem i_9_15 : q_dec 9 15 = some (6, .iconst 0, 1) := by decide +kernel
theorem i_9_16 : q_dec 9 16 = some (6, .putfield 31, 3) := by decide +kernel
theorem i_9_19 : q_dec 9 19 = some (6, .aload_n 0, 1) := by decide +kernel
theorem i_9_20 : q_dec 9 20 = some (6, .iconst 0, 1) := by decide +kernel
theorem i_9_21 : q_dec 9 21 = some (6, .putfield 34, 3) := by decide +kernel
theorem i_9_24 : q_dec 9 24 = some (6, .aload_n 0, 1) := by decide +kernel
theorem i_9_25 : q_dec 9 25 = some (6, .invokevirtual 37, 3) := by decide +kernel
theorem i_9_28 : q_dec 9 28 = some (6, .iconst 0, 1) := by decide +kernel
theorem i_9_29 : q_dec 9 29 = some (6, .istore_n 2, 1) := by decide +kernel
theorem i_9_30 : q_dec 9 30 = some (6, .aload_n 0, 1) := by decide +kernel
theorem i_9_31 : q_dec 9 31 = some (6, .getfield 40, 3) := by decide +kernel
theorem i_9_34 : q_dec 9 34 = some (6, .iconst 1, 1) := by decide +kernel
theorem i_9_35 : q_dec 9 35 = some (6, .if_icmp .eq (150), 3) := by decide +kernel
theorem i_9_38 : q_dec 9 38 = some (6, .iload_n 2, 1) := by decide +kernel
theorem i_9_39 : q_dec 9 39 = some (6, .sipush 200, 3) := by decide +kernel
theorem i_9_42 : q_dec 9 42 = some (6, .if_icmp .ge (143), 3) := by decide +kernel
theorem i_9_45 : q_dec 9 45 = some (6, .iconst 0, 1) := by decide +kernel
theorem i_9_46 : q_dec 9 46 = some (6, .istore_n 3, 1) := by decide +kernel
theorem i_9_47 : q_dec 9 47 = some (6, .aload_n 0, 1) := by decide +kernel
theorem i_9_48 : q_dec 9 48 = some (6, .getfield 40, 3) := by decide +kernel
theorem i_9_51 : q_dec 9 51 = some (6, .tableswitch (105) (4) (9) #[37, 58, 68, 78, 87, 96], 37) := by decide +kernel
theorem i_9_88 : q_dec 9 88 = some (6, .iload_n 2, 1) := by decide +kernel
theorem i_9_89 : q_dec 9 89 = some (6, .ifCond .ne (15), 3) := by decide +kernel
theorem i_9_92 : q_dec 9 92 = some (6, .aload_n 0, 1) := by decide +kernel
theorem i_9_93 : q_dec 9 93 = some (6, .aload_n 1, 1) := by decide +kernel
theorem i_9_94 : q_dec 9 94 = some (6, .invokevirtual 43, 3) := by decide +kernel
theorem i_9_97 : q_dec 9 97 = some (6, .ifCond .eq (7), 3) := by decide +kernel
theorem i_9_100 : q_dec 9 100 = some (6, .iconst 1, 1) := by decide +kernel
theorem i_9_101 : q_dec 9 101 = some (6, .goto 4, 3) := by decide +kernel
theorem i_9_104 : q_dec 9 104 = some (6, .iconst 0, 1) := by decide +kernel
theorem i_9_105 : q_dec 9 105 = some (6, .istore_n 3, 1) := by decide +kernel
theorem i_9_106 : q_dec 9 106 = some (6, .goto 50, 3) := by decide +kernel
theorem i_9_109 : q_dec 9 109 = some (6, .aload_n 0, 1) := by decide +kernel
theorem i_9_110 : q_dec 9 110 = some (6, .aload_n 1, 1) := by decide +kernel
theorem i_9_111 : q_dec 9 111 = some (6, .iconst 1, 1) := by decide +kernel
theorem i_9_112 : q_dec 9 112 = some (6, .invokevirtual 47, 3) := by decide +kernel
theorem i_9_115 : q_dec 9 115 = some (6, .istore_n 3, 1) := by decide +kernel
theorem i_9_116 : q_dec 9 116 = some (6, .goto 40, 3) := by decide +kernel
theorem i_9_119 : q_dec 9 119 = some (6, .aload_n 0, 1) := by decide +kernel
theorem i_9_120 : q_dec 9 120 = some (6, .aload_n 1, 1) := by decide +kernel
theorem i_9_121 : q_dec 9 121 = some (6, .iconst 2, 1) := by decide +kernel
theorem i_9_122 : q_dec 9 122 = some (6, .invokevirtual 47, 3) := by decide +kernel
theorem i_9_125 : q_dec 9 125 = some (6, .istore_n 3, 1) := by decide +kernel
theorem i_9_126 : q_dec 9 126 = some (6, .goto 30, 3) := by decide +kernel
theorem i_9_129 : q_dec 9 129 = some (6, .aload_n 0, 1) := by decide +kernel
theorem i_9_130 : q_dec 9 130 = some (6, .aload_n 1, 1) := by decide +kernel
theorem i_9_131 : q_dec 9 131 = some (6, .invokevirtual 51, 3) := by decide +kernel
theorem i_9_134 : q_dec 9 134 = some (6, .istore_n 3, 1) := by decide +kernel
theorem i_9_135 : q_dec 9 135 = some (6, .goto 21, 3) := by decide +kernel
theorem i_9_138 : q_dec 9 138 = some (6, .aload_n 0, 1) := by decide +kernel
theorem i_9_139 : q_dec 9 139 = some (6, .aload_n 1, 1) := by decide +kernel
theorem i_9_140 : q_dec 9 140 = some (6, .invokevirtual 54, 3) := by decide +kernel
theorem i_9_143 : q_dec 9 143 = some (6, .istore_n 3, 1) := by decide +kernel
theorem i_9_144 : q_dec 9 144 = some (6, .goto 12, 3) := by decide +kernel
theorem i_9_147 : q_dec 9 147 = some (6, .aload_n 0, 1) := by decide +kernel
theorem i_9_148 : q_dec 9 148 = some (6, .aload_n 1, 1) := by decide +kernel
theorem i_9_149 : q_dec 9 149 = some (6, .invokevirtual 57, 3) := by decide +kernel
theorem i_9_152 : q_dec 9 152 = some (6, .istore_n 3, 1) := by decide +kernel
theorem i_9_153 : q_dec 9 153 = some (6, .goto 3, 3) := by decide +kernel
theorem i_9_156 : q_dec 9 156 = some (6, .iload_n 3, 1) := by decide +kernel
theorem i_9_157 : q_dec 9 157 = some (6, .ifCond .eq (10), 3) := by decide +kernel
theorem i_9_160 : q_dec 9 160 = some (6, .aload_n 0, 1) := by decide +kernel
theorem i_9_161 : q_dec 9 161 = some (6, .invokevirtual 60, 3) := by decide +kernel
theorem i_9_164 : q_dec 9 164 = some (6, .ifCond .ne (11), 3) := by decide +kernel
theorem i_9_167 : q_dec 9 167 = some (6, .bipush (-10), 2) := by decide +kernel
theorem i_9_169 : q_dec 9 169 = some (6, .aload_n 0, 1) := by decide +kernel
theorem i_9_170 : q_dec 9 170 = some (6, .getfield 64, 3) := by decide +kernel
theorem i_9_173 : q_dec 9 173 = some (6, .isub, 1) := by decide +kernel
theorem i_9_174 : q_dec 9 174 = some (6, .ireturn, 1) := by decide +kernel
theorem i_9_175 : q_dec 9 175 = some (6, .iinc 2 1, 3) := by decide +kernel
theorem i_9_178 : q_dec 9 178 = some (6, .aload_n 0, 1) := by decide +kernel
theorem i_9_179 : q_dec 9 179 = some (6, .invokevirtual 37, 3) := by decide +kernel
theorem i_9_182 : q_dec 9 182 = some (6, .goto (-152), 3) := by decide +kernel
theorem i_9_185 : q_dec 9 185 = some (6, .iload_n 2, 1) := by decide +kernel
theorem i_9_186 : q_dec 9 186 = some (6, .ireturn, 1) := by decide +kernel
theorem i_10_0 : q_dec 10 0 = some (6, .aload_n 0, 1) := by decide +kernel
theorem i_10_1 : q_dec 10 1 = some (6, .getfield 24, 3) := by decide +kernel
theorem i_10_4 : q_dec 10 4 = some (6, .aload_n 0, 1) := by decide +kernel
theorem i_10_5 : q_dec 10 5 = some (6, .getfield 9, 3) := by decide +kernel
theorem i_10_8 : q_dec 10 8 = some (6, .if_icmp .ge (30), 3) := by decide +kernel
theorem i_10_11 : q_dec 10 11 = some (6, .aload_n 0, 1) := by decide +kernel
theorem i_10_12 : q_dec 10 12 = some (6, .getfield 15, 3) := by decide +kernel
theorem i_10_15 : q_dec 10 15 = some (6, .aload_n 0, 1) := by decide +kernel
theorem i_10_16 : q_dec 10 16 = some (6, .getfield 24, 3) := by decide +kernel
theorem i_10_19 : q_dec 10 19 = some (6, .baload, 1) := by decide +kernel
theorem i_10_20 : q_dec 10 20 = some (6, .bipush 32, 2) := by decide +kernel
theorem i_10_22 : q_dec 10 22 = some (6, .if_icmp .ne (16), 3) := by decide +kernel
theorem i_10_25 : q_dec 10 25 = some (6, .aload_n 0, 1) := by decide +kernel
theorem i_10_26 : q_dec 10 26 = some (6, .dup, 1) := by decide +kernel
theorem i_10_27 : q_dec 10 27 = some (6, .getfield 24, 3) := by decide +kernel
theorem i_10_30 : q_dec 10 30 = some (6, .iconst 1, 1) := by decide +kernel
theorem i_10_31 : q_dec 10 31 = some (6, .iadd, 1) := by decide +kernel
theorem i_10_32 : q_dec 10 32 = some (6, .putfield 24, 3) := by decide +kernel
theorem i_10_35 : q_dec 10 35 = some (6, .goto (-35), 3) := by decide +kernel
theorem i_10_38 : q_dec 10 38 = some (6, .aload_n 0, 1) := by decide +kernel
theorem i_10_39 : q_dec 10 39 = some (6, .aload_n 0, 1) := by decide +kernel
theorem i_10_40 : q_dec 10 40 = some (6, .getfield 24, 3) := by decide +kernel
theorem i_10_43 : q_dec 10 43 = some (6, .putfield 64, 3) := by decide +kernel
theorem i_10_46 : q_dec 10 46 = some (6, .aload_n 0, 1) := by decide +kernel
theorem i_10_47 : q_dec 10 47 = some (6, .getfield 24, 3) := by decide +kernel
theorem i_10_50 : q_dec 10 50 = some (6, .aload_n 0, 1) := by decide +kernel
theorem i_10_51 : q_dec 10 51 = some (6, .getfield 9, 3) := by decide +kernel
theorem i_10_54 : q_dec 10 54 = some (6, .if_icmp .lt (11), 3) := by decide +kernel
theorem i_10_57 : q_dec 10 57 = some (6, .aload_n 0, 1) := by decide +kernel
theorem i_10_58 : q_dec 10 58 = some (6, .iconst 1, 1) := by decide +kernel
theorem i_10_59 : q_dec 10 59 = some (6, .putfield 40, 3) := by decide +kernel
theorem i_10_62 : q_dec 10 62 = some (6, .goto 84, 3) := by decide +kernel
theorem i_10_65 : q_dec 10 65 = some (6, .aload_n 0, 1) := by decide +kernel
theorem i_10_66 : q_dec 10 66 = some (6, .getfield 15, 3) := by decide +kernel
theorem i_10_69 : q_dec 10 69 = some (6, .aload_n 0, 1) := by decide +kernel
theorem i_10_70 : q_dec 10 70 = some (6, .getfield 24, 3) := by decide +kernel
theorem i_10_73 : q_dec 10 73 = some (6, .baload, 1) := by decide +kernel
theorem i_10_74 : q_dec 10 74 = some (6, .bipush 59, 2) := by decide +kernel
theorem i_10_76 : q_dec 10 76 = some (6, .if_icmp .ne (21), 3) := by decide +kernel
theorem i_10_79 : q_dec 10 79 = some (6, .aload_n 0, 1) := by decide +kernel
theorem i_10_80 : q_dec 10 80 = some (6, .iconst 2, 1) := by decide +kernel
theorem i_10_81 : q_dec 10 81 = some (6, .putfield 40, 3) := by decide +kernel
theorem i_10_84 : q_dec 10 84 = some (6, .aload_n 0, 1) := by decide +kernel
theorem i_10_85 : q_dec 10 85 = some (6, .dup, 1) := by decide +kernel
theorem i_10_86 : q_dec 10 86 = some (6, .getfield 24, 3) := by decide +kernel
theorem i_10_89 : q_dec 10 89 = some (6, .iconst 1, 1) := by decide +kernel
theorem i_10_90 : q_dec 10 90 = some (6, .iadd, 1) := by decide +kernel
theorem i_10_91 : q_dec 10 91 = some (6, .putfield 24, 3) := by decide +kernel
theorem i_10_94 : q_dec 10 94 = some (6, .goto 52, 3) := by decide +kernel
theorem i_10_97 : q_dec 10 97 = some (6, .aload_n 0, 1) := by decide +kernel
theorem i_10_98 : q_dec 10 98 = some (6, .getfield 15, 3) := by decide +kernel
theorem i_10_101 : q_dec 10 101 = some (6, .aload_n 0, 1) := by decide +kernel
theorem i_10_102 : q_dec 10 102 = some (6, .getfield 24, 3) := by decide +kernel
theorem i_10_105 : q_dec 10 105 = some (6, .baload, 1) := by decide +kernel
theorem i_10_106 : q_dec 10 106 = some (6, .invokestatic 107, 3) := by decide +kernel
theorem i_10_109 : q_dec 10 109 = some (6, .ifCond .eq (10), 3) := by decide +kernel
theorem i_10_112 : q_dec 10 112 = some (6, .aload_n 0, 1) := by decide +kernel
theorem i_10_113 : q_dec 10 113 = some (6, .invokevirtual 111, 3) := by decide +kernel
theorem i_10_116 : q_dec 10 116 = some (6, .goto 30, 3) := by decide +kernel
theorem i_10_119 : q_dec 10 119 = some (6, .aload_n 0, 1) := by decide +kernel
theorem i_10_120 : q_dec 10 120 = some (6, .getfield 15, 3) := by decide +kernel
theorem i_10_123 : q_dec 10 123 = some (6, .aload_n 0, 1) := by decide +kernel
theorem i_10_124 : q_dec 10 124 = some (6, .getfield 24, 3) := by decide +kernel
theorem i_10_127 : q_dec 10 127 = some (6, .baload, 1) := by decide +kernel
theorem i_10_128 : q_dec 10 128 = some (6, .invokestatic 114, 3) := by decide +kernel
theorem i_10_131 : q_dec 10 131 = some (6, .ifCond .eq (10), 3) := by decide +kernel
theorem i_10_134 : q_dec 10 134 = some (6, .aload_n 0, 1) := by decide +kernel
theorem i_10_135 : q_dec 10 135 = some (6, .invokevirtual 117, 3) := by decide +kernel
theorem i_10_138 : q_dec 10 138 = some (6, .goto 8, 3) := by decide +kernel
theorem i_10_141 : q_dec 10 141 = some (6, .aload_n 0, 1) := by decide +kernel
theorem i_10_142 : q_dec 10 142 = some (6, .iconst 0, 1) := by decide +kernel
theorem i_10_143 : q_dec 10 143 = some (6, .putfield 40, 3) := by decide +kernel
theorem i_10_146 : q_dec 10 146 = some (6, .return_, 1) := by decide +kernel
theorem i_11_0 : q_dec 11 0 = some (6, .iload_n 0, 1) := by decide +kernel
theorem i_11_1 : q_dec 11 1 = some (6, .bipush 97, 2) := by decide +kernel
theorem i_11_3 : q_dec 11 3 = some (6, .if_icmp .lt (13), 3) := by decide +kernel
theorem i_11_6 : q_dec 11 6 = some (6, .iload_n 0, 1) := by decide +kernel
theorem i_11_7 : q_dec 11 7 = some (6, .bipush 122, 2) := by decide +kernel
theorem i_11_9 : q_dec 11 9 = some (6, .if_icmp .gt (7), 3) := by decide +kernel
theorem i_11_12 : q_dec 11 12 = some (6, .iconst 1, 1) := by decide +kernel
theorem i_11_13 : q_dec 11 13 = some (6, .goto 4, 3) := by decide +kernel
theorem i_11_16 : q_dec 11 16 = some (6, .iconst 0, 1) := by decide +kernel
theorem i_11_17 : q_dec 11 17 = some (6, .ireturn, 1) := by decide +kernel
theorem i_12_0 : q_dec 12 0 = some (6, .aload_n 0, 1) := by decide +kernel
theorem i_12_1 : q_dec 12 1 = some (6, .getfield 24, 3) := by decide +kernel
theorem i_12_4 : q_dec 12 4 = some (6, .aload_n 0, 1) := by decide +kernel
theorem i_12_5 : q_dec 12 5 = some (6, .getfield 9, 3) := by decide +kernel
theorem i_12_8 : q_dec 12 8 = some (6, .if_icmp .ge (31), 3) := by decide +kernel
theorem i_12_11 : q_dec 12 11 = some (6, .aload_n 0, 1) := by decide +kernel
theorem i_12_12 : q_dec 12 12 = some (6, .getfield 15, 3) := by decide +kernel
theorem i_12_15 : q_dec 12 15 = some (6, .aload_n 0, 1) := by decide +kernel
theorem i_12_16 : q_dec 12 16 = some (6, .getfield 24, 3) := by decide +kernel
theorem i_12_19 : q_dec 12 19 = some (6, .baload, 1) := by decide +kernel
theorem i_12_20 : q_dec 12 20 = some (6, .invokestatic 107, 3) := by decide +kernel
theorem i_12_23 : q_dec 12 23 = some (6, .ifCond .eq (16), 3) := by decide +kernel
theorem i_12_26 : q_dec 12 26 = some (6, .aload_n 0, 1) := by decide +kernel
theorem i_12_27 : q_dec 12 27 = some (6, .dup, 1) := by decide +kernel
theorem i_12_28 : q_dec 12 28 = some (6, .getfield 24, 3) := by decide +kernel
theorem i_12_31 : q_dec 12 31 = some (6, .iconst 1, 1) := by decide +kernel
theorem i_12_32 : q_dec 12 32 = some (6, .iadd, 1) := by decide +kernel
theorem i_12_33 : q_dec 12 33 = some (6, .putfield 24, 3) := by decide +kernel
theorem i_12_36 : q_dec 12 36 = some (6, .goto (-36), 3) := by decide +kernel
theorem i_12_39 : q_dec 12 39 = some (6, .aload_n 0, 1) := by decide +kernel
theorem i_12_40 : q_dec 12 40 = some (6, .ldc 120, 2) := by decide +kernel
theorem i_12_42 : q_dec 12 42 = some (6, .invokevirtual 122, 3) := by decide +kernel
theorem i_12_45 : q_dec 12 45 = some (6, .ifCond .eq (11), 3) := by decide +kernel
theorem i_12_48 : q_dec 12 48 = some (6, .aload_n 0, 1) := by decide +kernel
theorem i_12_49 : q_dec 12 49 = some (6, .iconst 4, 1) := by decide +kernel
theorem i_12_50 : q_dec 12 50 = some (6, .putfield 40, 3) := by decide +kernel
theorem i_12_53 : q_dec 12 53 = some (6, .goto 97, 3) := by decide +kernel
theorem i_12_56 : q_dec 12 56 = some (6, .aload_n 0, 1) := by decide +kernel
theorem i_12_57 : q_dec 12 57 = some (6, .ldc 126, 2) := by decide +kernel
theorem i_12_59 : q_dec 12 59 = some (6, .invokevirtual 122, 3) := by decide +kernel
theorem i_12_62 : q_dec 12 62 = some (6, .ifCond .eq (11), 3) := by decide +kernel
theorem i_12_65 : q_dec 12 65 = some (6, .aload_n 0, 1) := by decide +kernel
theorem i_12_66 : q_dec 12 66 = some (6, .iconst 5, 1) := by decide +kernel
theorem i_12_67 : q_dec 12 67 = some (6, .putfield 40, 3) := by decide +kernel
theorem i_12_70 : q_dec 12 70 = some (6, .goto 80, 3) := by decide +kernel
theorem i_12_73 : q_dec 12 73 = some (6, .aload_n 0, 1) := by decide +kernel
theorem i_12_74 : q_dec 12 74 = some (6, .ldc 128, 2) := by decide +kernel
theorem i_12_76 : q_dec 12 76 = some (6, .invokevirtual 122, 3) := by decide +kernel
theorem i_12_79 : q_dec 12 79 = some (6, .ifCond .eq (12), 3) := by decide +kernel
theorem i_12_82 : q_dec 12 82 = some (6, .aload_n 0, 1) := by decide +kernel
theorem i_12_83 : q_dec 12 83 = some (6, .bipush 6, 2) := by decide +kernel
theorem i_12_85 : q_dec 12 85 = some (6, .putfield 40, 3) := by decide +kernel
theorem i_12_88 : q_dec 12 88 = some (6, .goto 62, 3) := by decide +kernel
theorem i_12_91 : q_dec 12 91 = some (6, .aload_n 0, 1) := by decide +kernel
theorem i_12_92 : q_dec 12 92 = some (6, .ldc 130, 2) := by decide +kernel
theorem i_12_94 : q_dec 12 94 = some (6, .invokevirtual 122, 3) := by decide +kernel
theorem i_12_97 : q_dec 12 97 = some (6, .ifCond .eq (12), 3) := by decide +kernel
theorem i_12_100 : q_dec 12 100 = some (6, .aload_n 0, 1) := by decide +kernel
theorem i_12_101 : q_dec 12 101 = some (6, .bipush 7, 2) := by decide +kernel
theorem i_12_103 : q_dec 12 103 = some (6, .putfield 40, 3) := by decide +kernel
theorem i_12_106 : q_dec 12 106 = some (6, .goto 44, 3) := by decide +kernel
theorem i_12_109 : q_dec 12 109 = some (6, .aload_n 0, 1) := by decide +kernel
theorem i_12_110 : q_dec 12 110 = some (6, .ldc 132, 2) := by decide +kernel
theorem i_12_112 : q_dec 12 112 = some (6, .invokevirtual 122, 3) := by decide +kernel
theorem i_12_115 : q_dec 12 115 = some (6, .ifCond .eq (12), 3) := by decide +kernel
theorem i_12_118 : q_dec 12 118 = some (6, .aload_n 0, 1) := by decide +kernel
theorem i_12_119 : q_dec 12 119 = some (6, .bipush 8, 2) := by decide +kernel
theorem i_12_121 : q_dec 12 121 = some (6, .putfield 40, 3) := by decide +kernel
theorem i_12_124 : q_dec 12 124 = some (6, .goto 26, 3) := by decide +kernel
theorem i_12_127 : q_dec 12 127 = some (6, .aload_n 0, 1) := by decide +kernel
theorem i_12_128 : q_dec 12 128 = some (6, .ldc 134, 2) := by decide +kernel
theorem i_12_130 : q_dec 12 130 = some (6, .invokevirtual 122, 3) := by decide +kernel
theorem i_12_133 : q_dec 12 133 = some (6, .ifCond .eq (12), 3) := by decide +kernel
theorem i_12_136 : q_dec 12 136 = some (6, .aload_n 0, 1) := by decide +kernel
theorem i_12_137 : q_dec 12 137 = some (6, .bipush 9, 2) := by decide +kernel
theorem i_12_139 : q_dec 12 139 = some (6, .putfield 40, 3) := by decide +kernel
theorem i_12_142 : q_dec 12 142 = some (6, .goto 8, 3) := by decide +kernel
theorem i_12_145 : q_dec 12 145 = some (6, .aload_n 0, 1) := by decide +kernel
theorem i_12_146 : q_dec 12 146 = some (6, .iconst 0, 1) := by decide +kernel
theorem i_12_147 : q_dec 12 147 = some (6, .putfield 40, 3) := by decide +kernel
theorem i_12_150 : q_dec 12 150 = some (6, .return_, 1) := by decide +kernel
theorem i_13_0 : q_dec 13 0 = some (6, .aload_n 0, 1) := by decide +kernel
theorem i_13_1 : q_dec 13 1 = some (6, .getfield 24, 3) := by decide +kernel
theorem i_13_4 : q_dec 13 4 = some (6, .aload_n 0, 1) := by decide +kernel
theorem i_13_5 : q_dec 13 5 = some (6, .getfield 64, 3) := by decide +kernel
theorem i_13_8 : q_dec 13 8 = some (6, .isub, 1) := by decide +kernel
theorem i_13_9 : q_dec 13 9 = some (6, .aload_n 1, 1) := by decide +kernel
theorem i_13_10 : q_dec 13 10 = some (6, .invokevirtual 135, 3) := by decide +kernel
theorem i_13_13 : q_dec 13 13 = some (6, .if_icmp .eq (5), 3) := by decide +kernel
theorem i_13_16 : q_dec 13 16 = some (6, .iconst 0, 1) := by decide +kernel
theorem i_13_17 : q_dec 13 17 = some (6, .ireturn, 1) := by decide +kernel
theorem i_13_18 : q_dec 13 18 = some (6, .iconst 0, 1) := by decide +kernel
theorem i_13_19 : q_dec 13 19 = some (6, .istore_n 2, 1) := by decide +kernel
theorem i_13_20 : q_dec 13 20 = some (6, .iload_n 2, 1) := by decide +kernel
theorem i_13_21 : q_dec 13 21 = some (6, .aload_n 1, 1) := by decide +kernel
theorem i_13_22 : q_dec 13 22 = some (6, .invokevirtual 135, 3) := by decide +kernel
theorem i_13_25 : q_dec 13 25 = some (6, .if_icmp .ge (30), 3) := by decide +kernel
theorem i_13_28 : q_dec 13 28 = some (6, .aload_n 0, 1) := by decide +kernel
theorem i_13_29 : q_dec 13 29 = some (6, .getfield 15, 3) := by decide +kernel
theorem i_13_32 : q_dec 13 32 = some (6, .aload_n 0, 1) := by decide +kernel
theorem i_13_33 : q_dec 13 33 = some (6, .getfield 64, 3) := by decide +kernel
theorem i_13_36 : q_dec 13 36 = some (6, .iload_n 2, 1) := by decide +kernel
theorem i_13_37 : q_dec 13 37 = some (6, .iadd, 1) := by decide +kernel
theorem i_13_38 : q_dec 13 38 = some (6, .baload, 1) := by decide +kernel
theorem i_13_39 : q_dec 13 39 = some (6, .aload_n 1, 1) := by decide +kernel
theorem i_13_40 : q_dec 13 40 = some (6, .iload_n 2, 1) := by decide +kernel
theorem i_13_41 : q_dec 13 41 = some (6, .invokevirtual 140, 3) := by decide +kernel
theorem i_13_44 : q_dec 13 44 = some (6, .if_icmp .eq (5), 3) := by decide +kernel
theorem i_13_47 : q_dec 13 47 = some (6, .iconst 0, 1) := by decide +kernel
theorem i_13_48 : q_dec 13 48 = some (6, .ireturn, 1) := by decide +kernel
theorem i_13_49 : q_dec 13 49 = some (6, .iinc 2 1, 3) := by decide +kernel
theorem i_13_52 : q_dec 13 52 = some (6, .goto (-32), 3) := by decide +kernel
theorem i_13_55 : q_dec 13 55 = some (6, .iconst 1, 1) := by decide +kernel
theorem i_13_56 : q_dec 13 56 = some (6, .ireturn, 1) := by decide +kernel
theorem i_14_0 : q_dec 14 0 = some (6, .iload_n 0, 1) := by decide +kernel
theorem i_14_1 : q_dec 14 1 = some (6, .bipush 48, 2) := by decide +kernel
theorem i_14_3 : q_dec 14 3 = some (6, .if_icmp .lt (13), 3) := by decide +kernel
theorem i_14_6 : q_dec 14 6 = some (6, .iload_n 0, 1) := by decide +kernel
theorem i_14_7 : q_dec 14 7 = some (6, .bipush 57, 2) := by decide +kernel
theorem i_14_9 : q_dec 14 9 = some (6, .if_icmp .gt (7), 3) := by decide +kernel
theorem i_14_12 : q_dec 14 12 = some (6, .iconst 1, 1) := by decide +kernel
theorem i_14_13 : q_dec 14 13 = some (6, .goto 4, 3) := by decide +kernel
theorem i_14_16 : q_dec 14 16 = some (6, .iconst 0, 1) := by decide +kernel
theorem i_14_17 : q_dec 14 17 = some (6, .ireturn, 1) := by decide +kernel
theorem i_15_0 : q_dec 15 0 = some (6, .aload_n 0, 1) := by decide +kernel
theorem i_15_1 : q_dec 15 1 = some (6, .iconst 0, 1) := by decide +kernel
theorem i_15_2 : q_dec 15 2 = some (6, .putfield 71, 3) := by decide +kernel
theorem i_15_5 : q_dec 15 5 = some (6, .aload_n 0, 1) := by decide +kernel
theorem i_15_6 : q_dec 15 6 = some (6, .getfield 24, 3) := by decide +kernel
theorem i_15_9 : q_dec 15 9 = some (6, .aload_n 0, 1) := by decide +kernel
theorem i_15_10 : q_dec 15 10 = some (6, .getfield 9, 3) := by decide +kernel
theorem i_15_13 : q_dec 15 13 = some (6, .if_icmp .ge (60), 3) := by decide +kernel
theorem i_15_16 : q_dec 15 16 = some (6, .aload_n 0, 1) := by decide +kernel
theorem i_15_17 : q_dec 15 17 = some (6, .getfield 15, 3) := by decide +kernel
theorem i_15_20 : q_dec 15 20 = some (6, .aload_n 0, 1) := by decide +kernel
theorem i_15_21 : q_dec 15 21 = some (6, .getfield 24, 3) := by decide +kernel
theorem i_15_24 : q_dec 15 24 = some (6, .baload, 1) := by decide +kernel
theorem i_15_25 : q_dec 15 25 = some (6, .invokestatic 114, 3) := by decide +kernel
theorem i_15_28 : q_dec 15 28 = some (6, .ifCond .eq (45), 3) := by decide +kernel
theorem i_15_31 : q_dec 15 31 = some (6, .aload_n 0, 1) := by decide +kernel
theorem i_15_32 : q_dec 15 32 = some (6, .aload_n 0, 1) := by decide +kernel
theorem i_15_33 : q_dec 15 33 = some (6, .getfield 71, 3) := by decide +kernel
theorem i_15_36 : q_dec 15 36 = some (6, .bipush 10, 2) := by decide +kernel
theorem i_15_38 : q_dec 15 38 = some (6, .imul, 1) := by decide +kernel
theorem i_15_39 : q_dec 15 39 = some (6, .aload_n 0, 1) := by decide +kernel
theorem i_15_40 : q_dec 15 40 = some (6, .getfield 15, 3) := by decide +kernel
theorem i_15_43 : q_dec 15 43 = some (6, .aload_n 0, 1) := by decide +kernel
theorem i_15_44 : q_dec 15 44 = some (6, .getfield 24, 3) := by decide +kernel
theorem i_15_47 : q_dec 15 47 = some (6, .baload, 1) := by decide +kernel
theorem i_15_48 : q_dec 15 48 = some (6, .iadd, 1) := by decide +kernel
theorem i_15_49 : q_dec 15 49 = some (6, .bipush 48, 2) := by decide +kernel
theorem i_15_51 : q_dec 15 51 = some (6, .isub, 1) := by decide +kernel
theorem i_15_52 : q_dec 15 52 = some (6, .bipush 100, 2) := by decide +kernel
theorem i_15_54 : q_dec 15 54 = some (6, .invokestatic 144, 3) := by decide +kernel
theorem i_15_57 : q_dec 15 57 = some (6, .putfield 71, 3) := by decide +kernel
theorem i_15_60 : q_dec 15 60 = some (6, .aload_n 0, 1) := by decide +kernel
theorem i_15_61 : q_dec 15 61 = some (6, .dup, 1) := by decide +kernel
theorem i_15_62 : q_dec 15 62 = some (6, .getfield 24, 3) := by decide +kernel
theorem i_15_65 : q_dec 15 65 = some (6, .iconst 1, 1) := by decide +kernel
theorem i_15_66 : q_dec 15 66 = some (6, .iadd, 1) := by decide +kernel
theorem i_15_67 : q_dec 15 67 = some (6, .putfield 24, 3) := by decide +kernel
theorem i_15_70 : q_dec 15 70 = some (6, .goto (-65), 3) := by decide +kernel
theorem i_15_73 : q_dec 15 73 = some (6, .aload_n 0, 1) := by decide +kernel
theorem i_15_74 : q_dec 15 74 = some (6, .getfield 15, 3) := by decide +kernel
theorem i_15_77 : q_dec 15 77 = some (6, .aload_n 0, 1) := by decide +kernel
theorem i_15_78 : q_dec 15 78 = some (6, .getfield 64, 3) := by decide +kernel
theorem i_15_81 : q_dec 15 81 = some (6, .baload, 1) := by decide +kernel
theorem i_15_82 : q_dec 15 82 = some (6, .bipush 48, 2) := by decide +kernel
theorem i_15_84 : q_dec 15 84 = some (6, .if_icmp .ne (20), 3) := by decide +kernel
theorem i_15_87 : q_dec 15 87 = some (6, .aload_n 0, 1) := by decide +kernel
theorem i_15_88 : q_dec 15 88 = some (6, .getfield 24, 3) := by decide +kernel
theorem i_15_91 : q_dec 15 91 = some (6, .aload_n 0, 1) := by decide +kernel
theorem i_15_92 : q_dec 15 92 = some (6, .getfield 64, 3) := by decide +kernel
theorem i_15_95 : q_dec 15 95 = some (6, .isub, 1) := by decide +kernel
theorem i_15_96 : q_dec 15 96 = some (6, .iconst 1, 1) := by decide +kernel
theorem i_15_97 : q_dec 15 97 = some (6, .if_icmp .le (7), 3) := by decide +kernel
theorem i_15_100 : q_dec 15 100 = some (6, .iconst 1, 1) := by decide +kernel
theorem i_15_101 : q_dec 15 101 = some (6, .goto 4, 3) := by decide +kernel
theorem i_15_104 : q_dec 15 104 = some (6, .iconst 0, 1) := by decide +kernel
theorem i_15_105 : q_dec 15 105 = some (6, .istore_n 1, 1) := by decide +kernel
theorem i_15_106 : q_dec 15 106 = some (6, .aload_n 0, 1) := by decide +kernel
theorem i_15_107 : q_dec 15 107 = some (6, .iload_n 1, 1) := by decide +kernel
theorem i_15_108 : q_dec 15 108 = some (6, .ifCond .ne (12), 3) := by decide +kernel
theorem i_15_111 : q_dec 15 111 = some (6, .aload_n 0, 1) := by decide +kernel
theorem i_15_112 : q_dec 15 112 = some (6, .getfield 71, 3) := by decide +kernel
theorem i_15_115 : q_dec 15 115 = some (6, .bipush 99, 2) := by decide +kernel
theorem i_15_117 : q_dec 15 117 = some (6, .if_icmp .le (7), 3) := by decide +kernel
theorem i_15_120 : q_dec 15 120 = some (6, .iconst 0, 1) := by decide +kernel
theorem i_15_121 : q_dec 15 121 = some (6, .goto 4, 3) := by decide +kernel
theorem i_15_124 : q_dec 15 124 = some (6, .iconst 3, 1) := by decide +kernel
theorem i_15_125 : q_dec 15 125 = some (6, .putfield 40, 3) := by decide +kernel
theorem i_15_128 : q_dec 15 128 = some (6, .return_, 1) := by decide +kernel
theorem i_16_0 : q_dec 16 0 = some (6, .aload_n 0, 1) := by decide +kernel
theorem i_16_1 : q_dec 16 1 = some (6, .iconst 2, 1) := by decide +kernel
theorem i_16_2 : q_dec 16 2 = some (6, .iconst 5, 1) := by decide +kernel
theorem i_16_3 : q_dec 16 3 = some (6, .invokevirtual 67, 3) := by decide +kernel
theorem i_16_6 : q_dec 16 6 = some (6, .ifCond .ne (5), 3) := by decide +kernel
theorem i_16_9 : q_dec 16 9 = some (6, .iconst 0, 1) := by decide +kernel
theorem i_16_10 : q_dec 16 10 = some (6, .ireturn, 1) := by decide +kernel
theorem i_16_11 : q_dec 16 11 = some (6, .aload_n 1, 1) := by decide +kernel
theorem i_16_12 : q_dec 16 12 = some (6, .aload_n 0, 1) := by decide +kernel
theorem i_16_13 : q_dec 16 13 = some (6, .getfield 71, 3) := by decide +kernel
theorem i_16_16 : q_dec 16 16 = some (6, .putfield 74, 3) := by decide +kernel
theorem i_16_19 : q_dec 16 19 = some (6, .aload_n 0, 1) := by decide +kernel
theorem i_16_20 : q_dec 16 20 = some (6, .iconst 1, 1) := by decide +kernel
theorem i_16_21 : q_dec 16 21 = some (6, .iconst 4, 1) := by decide +kernel
theorem i_16_22 : q_dec 16 22 = some (6, .invokevirtual 67, 3) := by decide +kernel
theorem i_16_25 : q_dec 16 25 = some (6, .ifCond .ne (5), 3) := by decide +kernel
theorem i_16_28 : q_dec 16 28 = some (6, .iconst 0, 1) := by decide +kernel
theorem i_16_29 : q_dec 16 29 = some (6, .ireturn, 1) := by decide +kernel
theorem i_16_30 : q_dec 16 30 = some (6, .aload_n 1, 1) := by decide +kernel
theorem i_16_31 : q_dec 16 31 = some (6, .aload_n 0, 1) := by decide +kernel
theorem i_16_32 : q_dec 16 32 = some (6, .getfield 71, 3) := by decide +kernel
theorem i_16_35 : q_dec 16 35 = some (6, .putfield 77, 3) := by decide +kernel
theorem i_16_38 : q_dec 16 38 = some (6, .iconst 1, 1) := by decide +kernel
theorem i_16_39 : q_dec 16 39 = some (6, .ireturn, 1) := by decide +kernel
theorem i_17_0 : q_dec 17 0 = some (6, .aload_n 0, 1) := by decide +kernel
theorem i_17_1 : q_dec 17 1 = some (6, .invokevirtual 37, 3) := by decide +kernel
theorem i_17_4 : q_dec 17 4 = some (6, .aload_n 0, 1) := by decide +kernel
theorem i_17_5 : q_dec 17 5 = some (6, .getfield 40, 3) := by decide +kernel
theorem i_17_8 : q_dec 17 8 = some (6, .iconst 3, 1) := by decide +kernel
theorem i_17_9 : q_dec 17 9 = some (6, .if_icmp .ne (23), 3) := by decide +kernel
theorem i_17_12 : q_dec 17 12 = some (6, .aload_n 0, 1) := by decide +kernel
theorem i_17_13 : q_dec 17 13 = some (6, .getfield 71, 3) := by decide +kernel
theorem i_17_16 : q_dec 17 16 = some (6, .iload_n 1, 1) := by decide +kernel
theorem i_17_17 : q_dec 17 17 = some (6, .if_icmp .lt (15), 3) := by decide +kernel
theorem i_17_20 : q_dec 17 20 = some (6, .aload_n 0, 1) := by decide +kernel
theorem i_17_21 : q_dec 17 21 = some (6, .getfield 71, 3) := by decide +kernel
theorem i_17_24 : q_dec 17 24 = some (6, .iload_n 2, 1) := by decide +kernel
theorem i_17_25 : q_dec 17 25 = some (6, .if_icmp .gt (7), 3) := by decide +kernel
theorem i_17_28 : q_dec 17 28 = some (6, .iconst 1, 1) := by decide +kernel
theorem i_17_29 : q_dec 17 29 = some (6, .goto 4, 3) := by decide +kernel
theorem i_17_32 : q_dec 17 32 = some (6, .iconst 0, 1) := by decide +kernel
theorem i_17_33 : q_dec 17 33 = some (6, .ireturn, 1) := by decide +kernel
theorem i_18_0 : q_dec 18 0 = some (6, .aload_n 0, 1) := by decide +kernel
theorem i_18_1 : q_dec 18 1 = some (6, .iconst 0, 1) := by decide +kernel
theorem i_18_2 : q_dec 18 2 = some (6, .aload_n 1, 1) := by decide +kernel
theorem i_18_3 : q_dec 18 3 = some (6, .getfield 74, 3) := by decide +kernel
theorem i_18_6 : q_dec 18 6 = some (6, .iconst 1, 1) := by decide +kernel
theorem i_18_7 : q_dec 18 7 = some (6, .isub, 1) := by decide +kernel
theorem i_18_8 : q_dec 18 8 = some (6, .invokevirtual 67, 3) := by decide +kernel
theorem i_18_11 : q_dec 18 11 = some (6, .ifCond .ne (5), 3) := by decide +kernel
theorem i_18_14 : q_dec 18 14 = some (6, .iconst 0, 1) := by decide +kernel
theorem i_18_15 : q_dec 18 15 = some (6, .ireturn, 1) := by decide +kernel
theorem i_18_16 : q_dec 18 16 = some (6, .aload_n 0, 1) := by decide +kernel
theorem i_18_17 : q_dec 18 17 = some (6, .getfield 71, 3) := by decide +kernel
theorem i_18_20 : q_dec 18 20 = some (6, .istore_n 3, 1) := by decide +kernel
theorem i_18_21 : q_dec 18 21 = some (6, .aload_n 0, 1) := by decide +kernel
theorem i_18_22 : q_dec 18 22 = some (6, .iconst 0, 1) := by decide +kernel
theorem i_18_23 : q_dec 18 23 = some (6, .aload_n 1, 1) := by decide +kernel
theorem i_18_24 : q_dec 18 24 = some (6, .getfield 77, 3) := by decide +kernel
theorem i_18_27 : q_dec 18 27 = some (6, .iconst 1, 1) := by decide +kernel
theorem i_18_28 : q_dec 18 28 = some (6, .isub, 1) := by decide +kernel
theorem i_18_29 : q_dec 18 29 = some (6, .invokevirtual 67, 3) := by decide +kernel
theorem i_18_32 : q_dec 18 32 = some (6, .ifCond .ne (5), 3) := by decide +kernel
theorem i_18_35 : q_dec 18 35 = some (6, .iconst 0, 1) := by decide +kernel
theorem i_18_36 : q_dec 18 36 = some (6, .ireturn, 1) := by decide +kernel
theorem i_18_37 : q_dec 18 37 = some (6, .aload_n 1, 1) := by decide +kernel
theorem i_18_38 : q_dec 18 38 = some (6, .iload_n 3, 1) := by decide +kernel
theorem i_18_39 : q_dec 18 39 = some (6, .aload_n 0, 1) := by decide +kernel
theorem i_18_40 : q_dec 18 40 = some (6, .getfield 71, 3) := by decide +kernel
theorem i_18_43 : q_dec 18 43 = some (6, .invokevirtual 80, 3) := by decide +kernel
theorem i_18_46 : q_dec 18 46 = some (6, .istore 4, 2) := by decide +kernel
theorem i_18_48 : q_dec 18 48 = some (6, .aload_n 1, 1) := by decide +kernel
theorem i_18_49 : q_dec 18 49 = some (6, .iload 4, 2) := by decide +kernel
theorem i_18_51 : q_dec 18 51 = some (6, .invokevirtual 84, 3) := by decide +kernel
theorem i_18_54 : q_dec 18 54 = some (6, .ifCond .eq (5), 3) := by decide +kernel
theorem i_18_57 : q_dec 18 57 = some (6, .iconst 0, 1) := by decide +kernel
theorem i_18_58 : q_dec 18 58 = some (6, .ireturn, 1) := by decide +kernel
theorem i_18_59 : q_dec 18 59 = some (6, .aload_n 1, 1) := by decide +kernel
theorem i_18_60 : q_dec 18 60 = some (6, .iload 4, 2) := by decide +kernel
theorem i_18_62 : q_dec 18 62 = some (6, .iload_n 2, 1) := by decide +kernel
theorem i_18_63 : q_dec 18 63 = some (6, .invokevirtual 88, 3) := by decide +kernel
theorem i_18_66 : q_dec 18 66 = some (6, .iconst 1, 1) := by decide +kernel
theorem i_18_67 : q_dec 18 67 = some (6, .ireturn, 1) := by decide +kernel
theorem i_19_0 : q_dec 19 0 = some (6, .aload_n 0, 1) := by decide +kernel
theorem i_19_1 : q_dec 19 1 = some (6, .getfield 27, 3) := by decide +kernel
theorem i_19_4 : q_dec 19 4 = some (6, .ifCond .ne (12), 3) := by decide +kernel
theorem i_19_7 : q_dec 19 7 = some (6, .aload_n 0, 1) := by decide +kernel
theorem i_19_8 : q_dec 19 8 = some (6, .iconst 0, 1) := by decide +kernel
theorem i_19_9 : q_dec 19 9 = some (6, .iconst 4, 1) := by decide +kernel
theorem i_19_10 : q_dec 19 10 = some (6, .invokevirtual 67, 3) := by decide +kernel
theorem i_19_13 : q_dec 19 13 = some (6, .ifCond .ne (5), 3) := by decide +kernel
theorem i_19_16 : q_dec 19 16 = some (6, .iconst 0, 1) := by decide +kernel
theorem i_19_17 : q_dec 19 17 = some (6, .ireturn, 1) := by decide +kernel
theorem i_19_18 : q_dec 19 18 = some (6, .aload_n 0, 1) := by decide +kernel
theorem i_19_19 : q_dec 19 19 = some (6, .iconst 1, 1) := by decide +kernel
theorem i_19_20 : q_dec 19 20 = some (6, .putfield 27, 3) := by decide +kernel
theorem i_19_23 : q_dec 19 23 = some (6, .aload_n 1, 1) := by decide +kernel
theorem i_19_24 : q_dec 19 24 = some (6, .aload_n 0, 1) := by decide +kernel
theorem i_19_25 : q_dec 19 25 = some (6, .getfield 71, 3) := by decide +kernel
theorem i_19_28 : q_dec 19 28 = some (6, .putfield 92, 3) := by decide +kernel
theorem i_19_31 : q_dec 19 31 = some (6, .aload_n 0, 1) := by decide +kernel
theorem i_19_32 : q_dec 19 32 = some (6, .iconst 1, 1) := by decide +kernel
theorem i_19_33 : q_dec 19 33 = some (6, .bipush 9, 2) := by decide +kernel
theorem i_19_35 : q_dec 19 35 = some (6, .invokevirtual 67, 3) := by decide +kernel
theorem i_19_38 : q_dec 19 38 = some (6, .ifCond .ne (5), 3) := by decide +kernel
theorem i_19_41 : q_dec 19 41 = some (6, .iconst 0, 1) := by decide +kernel
theorem i_19_42 : q_dec 19 42 = some (6, .ireturn, 1) := by decide +kernel
theorem i_19_43 : q_dec 19 43 = some (6, .aload_n 1, 1) := by decide +kernel
theorem i_19_44 : q_dec 19 44 = some (6, .aload_n 0, 1) := by decide +kernel
theorem i_19_45 : q_dec 19 45 = some (6, .getfield 71, 3) := by decide +kernel
theorem i_19_48 : q_dec 19 48 = some (6, .putfield 95, 3) := by decide +kernel
theorem i_19_51 : q_dec 19 51 = some (6, .aload_n 0, 1) := by decide +kernel
theorem i_19_52 : q_dec 19 52 = some (6, .iconst 0, 1) := by decide +kernel
theorem i_19_53 : q_dec 19 53 = some (6, .iconst 2, 1) := by decide +kernel
theorem i_19_54 : q_dec 19 54 = some (6, .invokevirtual 67, 3) := by decide +kernel
theorem i_19_57 : q_dec 19 57 = some (6, .ifCond .ne (5), 3) := by decide +kernel
theorem i_19_60 : q_dec 19 60 = some (6, .iconst 0, 1) := by decide +kernel
theorem i_19_61 : q_dec 19 61 = some (6, .ireturn, 1) := by decide +kernel
theorem i_19_62 : q_dec 19 62 = some (6, .aload_n 1, 1) := by decide +kernel
theorem i_19_63 : q_dec 19 63 = some (6, .aload_n 0, 1) := by decide +kernel
theorem i_19_64 : q_dec 19 64 = some (6, .getfield 71, 3) := by decide +kernel
theorem i_19_67 : q_dec 19 67 = some (6, .putfield 98, 3) := by decide +kernel
theorem i_19_70 : q_dec 19 70 = some (6, .iconst 1, 1) := by decide +kernel
theorem i_19_71 : q_dec 19 71 = some (6, .ireturn, 1) := by decide +kernel
theorem i_20_0 : q_dec 20 0 = some (6, .aload_n 0, 1) := by decide +kernel
theorem i_20_1 : q_dec 20 1 = some (6, .getfield 31, 3) := by decide +kernel
theorem i_20_4 : q_dec 20 4 = some (6, .ifCond .eq (5), 3) := by decide +kernel
theorem i_20_7 : q_dec 20 7 = some (6, .iconst 0, 1) := by decide +kernel
theorem i_20_8 : q_dec 20 8 = some (6, .ireturn, 1) := by decide +kernel
theorem i_20_9 : q_dec 20 9 = some (6, .aload_n 0, 1) := by decide +kernel
theorem i_20_10 : q_dec 20 10 = some (6, .iconst 1, 1) := by decide +kernel
theorem i_20_11 : q_dec 20 11 = some (6, .putfield 31, 3) := by decide +kernel
theorem i_20_14 : q_dec 20 14 = some (6, .aload_n 1, 1) := by decide +kernel
theorem i_20_15 : q_dec 20 15 = some (6, .iconst 1, 1) := by decide +kernel
theorem i_20_16 : q_dec 20 16 = some (6, .putfield 101, 3) := by decide +kernel
theorem i_20_19 : q_dec 20 19 = some (6, .iconst 1, 1) := by decide +kernel
theorem i_20_20 : q_dec 20 20 = some (6, .ireturn, 1) := by decide +kernel
theorem i_21_0 : q_dec 21 0 = some (6, .aload_n 0, 1) := by decide +kernel
theorem i_21_1 : q_dec 21 1 = some (6, .getfield 34, 3) := by decide +kernel
theorem i_21_4 : q_dec 21 4 = some (6, .ifCond .ne (13), 3) := by decide +kernel
theorem i_21_7 : q_dec 21 7 = some (6, .aload_n 0, 1) := by decide +kernel
theorem i_21_8 : q_dec 21 8 = some (6, .iconst 0, 1) := by decide +kernel
theorem i_21_9 : q_dec 21 9 = some (6, .bipush 9, 2) := by decide +kernel
theorem i_21_11 : q_dec 21 11 = some (6, .invokevirtual 67, 3) := by decide +kernel
theorem i_21_14 : q_dec 21 14 = some (6, .ifCond .ne (5), 3) := by decide +kernel
theorem i_21_17 : q_dec 21 17 = some (6, .iconst 0, 1) := by decide +kernel
theorem i_21_18 : q_dec 21 18 = some (6, .ireturn, 1) := by decide +kernel
theorem i_21_19 : q_dec 21 19 = some (6, .aload_n 0, 1) := by decide +kernel
theorem i_21_20 : q_dec 21 20 = some (6, .iconst 1, 1) := by decide +kernel
theorem i_21_21 : q_dec 21 21 = some (6, .putfield 34, 3) := by decide +kernel
theorem i_21_24 : q_dec 21 24 = some (6, .aload_n 1, 1) := by decide +kernel
theorem i_21_25 : q_dec 21 25 = some (6, .aload_n 0, 1) := by decide +kernel
theorem i_21_26 : q_dec 21 26 = some (6, .getfield 71, 3) := by decide +kernel
theorem i_21_29 : q_dec 21 29 = some (6, .putfield 104, 3) := by decide +kernel
theorem i_21_32 : q_dec 21 32 = some (6, .iconst 1, 1) := by decide +kernel
theorem i_21_33 : q_dec 21 33 = some (6, .ireturn, 1) := by decide +kernel
theorem i_22_0 : q_dec 22 0 = some (6, .aload_n 0, 1) := by decide +kernel
theorem i_22_1 : q_dec 22 1 = some (6, .invokevirtual 37, 3) := by decide +kernel
theorem i_22_4 : q_dec 22 4 = some (6, .aload_n 0, 1) := by decide +kernel
theorem i_22_5 : q_dec 22 5 = some (6, .getfield 40, 3) := by decide +kernel
theorem i_22_8 : q_dec 22 8 = some (6, .iconst 2, 1) := by decide +kernel
theorem i_22_9 : q_dec 22 9 = some (6, .if_icmp .ne (7), 3) := by decide +kernel
theorem i_22_12 : q_dec 22 12 = some (6, .iconst 1, 1) := by decide +kernel
theorem i_22_13 : q_dec 22 13 = some (6, .goto 4, 3) := by decide +kernel
theorem i_22_16 : q_dec 22 16 = some (6, .iconst 0, 1) := by decide +kernel
theorem i_22_17 : q_dec 22 17 = some (6, .ireturn, 1) := by decide +kernel
theorem i_23_0 : q_dec 23 0 = some (7, .aload_n 0, 1) := by decide +kernel
theorem i_23_1 : q_dec 23 1 = some (7, .iconst 4, 1) := by decide +kernel
theorem i_23_2 : q_dec 23 2 = some (7, .putfield 24, 3) := by decide +kernel
theorem i_23_5 : q_dec 23 5 = some (7, .aload_n 0, 1) := by decide +kernel
theorem i_23_6 : q_dec 23 6 = some (7, .iconst 3, 1) := by decide +kernel
theorem i_23_7 : q_dec 23 7 = some (7, .putfield 28, 3) := by decide +kernel
theorem i_23_10 : q_dec 23 10 = some (7, .aload_n 0, 1) := by decide +kernel
theorem i_23_11 : q_dec 23 11 = some (7, .iconst 1, 1) := by decide +kernel
theorem i_23_12 : q_dec 23 12 = some (7, .putfield 31, 3) := by decide +kernel
theorem i_23_15 : q_dec 23 15 = some (7, .aload_n 0, 1) := by decide +kernel
theorem i_23_16 : q_dec 23 16 = some (7, .iconst 1, 1) := by decide +kernel
theorem i_23_17 : q_dec 23 17 = some (7, .putfield 34, 3) := by decide +kernel
theorem i_23_20 : q_dec 23 20 = some (7, .aload_n 0, 1) := by decide +kernel
theorem i_23_21 : q_dec 23 21 = some (7, .iconst 2, 1) := by decide +kernel
theorem i_23_22 : q_dec 23 22 = some (7, .putfield 37, 3) := by decide +kernel
theorem i_23_25 : q_dec 23 25 = some (7, .aload_n 0, 1) := by decide +kernel
theorem i_23_26 : q_dec 23 26 = some (7, .iconst 0, 1) := by decide +kernel
theorem i_23_27 : q_dec 23 27 = some (7, .putfield 40, 3) := by decide +kernel
theorem i_23_30 : q_dec 23 30 = some (7, .aload_n 0, 1) := by decide +kernel
theorem i_23_31 : q_dec 23 31 = some (7, .iconst 0, 1) := by decide +kernel
theorem i_23_32 : q_dec 23 32 = some (7, .putfield 44, 3) := by decide +kernel
theorem i_23_35 : q_dec 23 35 = some (7, .aload_n 0, 1) := by decide +kernel
theorem i_23_36 : q_dec 23 36 = some (7, .getfield 9, 3) := by decide +kernel
theorem i_23_39 : q_dec 23 39 = some (7, .iconst 0, 1) := by decide +kernel
theorem i_23_40 : q_dec 23 40 = some (7, .invokestatic 47, 3) := by decide +kernel
theorem i_23_43 : q_dec 23 43 = some (7, .return_, 1) := by decide +kernel
theorem i_24_0 : q_dec 24 0 = some (7, .aload_n 0, 1) := by decide +kernel
theorem i_24_1 : q_dec 24 1 = some (7, .getfield 15, 3) := by decide +kernel
theorem i_24_4 : q_dec 24 4 = some (7, .iconst (-1), 1) := by decide +kernel
theorem i_24_5 : q_dec 24 5 = some (7, .invokestatic 47, 3) := by decide +kernel
theorem i_24_8 : q_dec 24 8 = some (7, .iconst 0, 1) := by decide +kernel
theorem i_24_9 : q_dec 24 9 = some (7, .istore_n 1, 1) := by decide +kernel
theorem i_24_10 : q_dec 24 10 = some (7, .iload_n 1, 1) := by decide +kernel
theorem i_24_11 : q_dec 24 11 = some (7, .aload_n 0, 1) := by decide +kernel
theorem i_24_12 : q_dec 24 12 = some (7, .getfield 28, 3) := by decide +kernel
theorem i_24_15 : q_dec 24 15 = some (7, .if_icmp .ge (84), 3) := by decide +kernel
theorem i_24_18 : q_dec 24 18 = some (7, .iconst 0, 1) := by decide +kernel
theorem i_24_19 : q_dec 24 19 = some (7, .istore_n 2, 1) := by decide +kernel
theorem i_24_20 : q_dec 24 20 = some (7, .iload_n 2, 1) := by decide +kernel
theorem i_24_21 : q_dec 24 21 = some (7, .aload_n 0, 1) := by decide +kernel
theorem i_24_22 : q_dec 24 22 = some (7, .getfield 24, 3) := by decide +kernel
theorem i_24_25 : q_dec 24 25 = some (7, .if_icmp .ge (68), 3) := by decide +kernel
theorem i_24_28 : q_dec 24 28 = some (7, .iconst 0, 1) := by decide +kernel
theorem i_24_29 : q_dec 24 29 = some (7, .istore_n 3, 1) := by decide +kernel
theorem i_24_30 : q_dec 24 30 = some (7, .iload_n 3, 1) := by decide +kernel
theorem i_24_31 : q_dec 24 31 = some (7, .iconst 4, 1) := by decide +kernel
theorem i_24_32 : q_dec 24 32 = some (7, .if_icmp .ge (55), 3) := by decide +kernel
theorem i_24_35 : q_dec 24 35 = some (7, .aload_n 0, 1) := by decide +kernel
theorem i_24_36 : q_dec 24 36 = some (7, .iload_n 2, 1) := by decide +kernel
theorem i_24_37 : q_dec 24 37 = some (7, .getstatic 53, 3) := by decide +kernel
theorem i_24_40 : q_dec 24 40 = some (7, .iload_n 3, 1) := by decide +kernel
theorem i_24_41 : q_dec 24 41 = some (7, .iaload, 1) := by decide +kernel
theorem i_24_42 : q_dec 24 42 = some (7, .iadd, 1) := by decide +kernel
theorem i_24_43 : q_dec 24 43 = some (7, .iload_n 1, 1) := by decide +kernel
theorem i_24_44 : q_dec 24 44 = some (7, .getstatic 56, 3) := by decide +kernel
theorem i_24_47 : q_dec 24 47 = some (7, .iload_n 3, 1) := by decide +kernel
theorem i_24_48 : q_dec 24 48 = some (7, .iaload, 1) := by decide +kernel
theorem i_24_49 : q_dec 24 49 = some (7, .iadd, 1) := by decide +kernel
theorem i_24_50 : q_dec 24 50 = some (7, .invokevirtual 59, 3) := by decide +kernel
theorem i_24_53 : q_dec 24 53 = some (7, .istore 4, 2) := by decide +kernel
theorem i_24_55 : q_dec 24 55 = some (7, .aload_n 0, 1) := by decide +kernel
theorem i_24_56 : q_dec 24 56 = some (7, .iload 4, 2) := by decide +kernel
theorem i_24_58 : q_dec 24 58 = some (7, .invokevirtual 63, 3) := by decide +kernel
theorem i_24_61 : q_dec 24 61 = some (7, .ifCond .eq (20), 3) := by decide +kernel
theorem i_24_64 : q_dec 24 64 = some (7, .aload_n 0, 1) := by decide +kernel
theorem i_24_65 : q_dec 24 65 = some (7, .getfield 15, 3) := by decide +kernel
theorem i_24_68 : q_dec 24 68 = some (7, .aload_n 0, 1) := by decide +kernel
theorem i_24_69 : q_dec 24 69 = some (7, .iload_n 2, 1) := by decide +kernel
theorem i_24_70 : q_dec 24 70 = some (7, .iload_n 1, 1) := by decide +kernel
theorem i_24_71 : q_dec 24 71 = some (7, .invokevirtual 59, 3) := by decide +kernel
theorem i_24_74 : q_dec 24 74 = some (7, .iconst 4, 1) := by decide +kernel
theorem i_24_75 : q_dec 24 75 = some (7, .imul, 1) := by decide +kernel
theorem i_24_76 : q_dec 24 76 = some (7, .iload_n 3, 1) := by decide +kernel
theorem i_24_77 : q_dec 24 77 = some (7, .iadd, 1) := by decide +kernel
theorem i_24_78 : q_dec 24 78 = some (7, .iload 4, 2) := by decide +kernel
theorem i_24_80 : q_dec 24 80 = some (7, .iastore, 1) := by decide +kernel
theorem i_24_81 : q_dec 24 81 = some (7, .iinc 3 1, 3) := by decide +kernel
theorem i_24_84 : q_dec 24 84 = some (7, .goto (-54), 3) := by decide +kernel
theorem i_24_87 : q_dec 24 87 = some (7, .iinc 2 1, 3) := by decide +kernel
theorem i_24_90 : q_dec 24 90 = some (7, .goto (-70), 3) := by decide +kernel
theorem i_24_93 : q_dec 24 93 = some (7, .iinc 1 1, 3) := by decide +kernel
theorem i_24_96 : q_dec 24 96 = some (7, .goto (-86), 3) := by decide +kernel
theorem i_24_99 : q_dec 24 99 = some (7, .return_, 1) := by decide +kernel
theorem i_25_0 : q_dec 25 0 = some (7, .iload_n 1, 1) := by decide +kernel
theorem i_25_1 : q_dec 25 1 = some (7, .ifCond .lt (34), 3) := by decide +kernel
theorem i_25_4 : q_dec 25 4 = some (7, .iload_n 1, 1) := by decide +kernel
theorem i_25_5 : q_dec 25 5 = some (7, .aload_n 0, 1) := by decide +kernel
theorem i_25_6 : q_dec 25 6 = some (7, .getfield 24, 3) := by decide +kernel
theorem i_25_9 : q_dec 25 9 = some (7, .if_icmp .ge (26), 3) := by decide +kernel
theorem i_25_12 : q_dec 25 12 = some (7, .iload_n 2, 1) := by decide +kernel
theorem i_25_13 : q_dec 25 13 = some (7, .ifCond .lt (22), 3) := by decide +kernel
theorem i_25_16 : q_dec 25 16 = some (7, .iload_n 2, 1) := by decide +kernel
theorem i_25_17 : q_dec 25 17 = some (7, .aload_n 0, 1) := by decide +kernel
theorem i_25_18 : q_dec 25 18 = some (7, .getfield 28, 3) := by decide +kernel
theorem i_25_21 : q_dec 25 21 = some (7, .if_icmp .ge (14), 3) := by decide +kernel
theorem i_25_24 : q_dec 25 24 = some (7, .iload_n 2, 1) := by decide +kernel
theorem i_25_25 : q_dec 25 25 = some (7, .aload_n 0, 1) := by decide +kernel
theorem i_25_26 : q_dec 25 26 = some (7, .getfield 24, 3) := by decide +kernel
theorem i_25_29 : q_dec 25 29 = some (7, .imul, 1) := by decide +kernel
theorem i_25_30 : q_dec 25 30 = some (7, .iload_n 1, 1) := by decide +kernel
theorem i_25_31 : q_dec 25 31 = some (7, .iadd, 1) := by decide +kernel
theorem i_25_32 : q_dec 25 32 = some (7, .goto 4, 3) := by decide +kernel
theorem i_25_35 : q_dec 25 35 = some (7, .iconst (-1), 1) := by decide +kernel
theorem i_25_36 : q_dec 25 36 = some (7, .ireturn, 1) := by decide +kernel
theorem i_26_0 : q_dec 26 0 = some (7, .aload_n 0, 1) := by decide +kernel
theorem i_26_1 : q_dec 26 1 = some (7, .iload_n 1, 1) := by decide +kernel
theorem i_26_2 : q_dec 26 2 = some (7, .invokevirtual 74, 3) := by decide +kernel
theorem i_26_5 : q_dec 26 5 = some (7, .ifCond .eq (16), 3) := by decide +kernel
theorem i_26_8 : q_dec 26 8 = some (7, .aload_n 0, 1) := by decide +kernel
theorem i_26_9 : q_dec 26 9 = some (7, .iload_n 1, 1) := by decide +kernel
theorem i_26_10 : q_dec 26 10 = some (7, .invokevirtual 77, 3) := by decide +kernel
theorem i_26_13 : q_dec 26 13 = some (7, .iconst 1, 1) := by decide +kernel
theorem i_26_14 : q_dec 26 14 = some (7, .if_icmp .eq (7), 3) := by decide +kernel
theorem i_26_17 : q_dec 26 17 = some (7, .iconst 1, 1) := by decide +kernel
theorem i_26_18 : q_dec 26 18 = some (7, .goto 4, 3) := by decide +kernel
theorem i_26_21 : q_dec 26 21 = some (7, .iconst 0, 1) := by decide +kernel
theorem i_26_22 : q_dec 26 22 = some (7, .ireturn, 1) := by decide +kernel
theorem i_27_0 : q_dec 27 0 = some (7, .iload_n 1, 1) := by decide +kernel
theorem i_27_1 : q_dec 27 1 = some (7, .ifCond .lt (15), 3) := by decide +kernel
theorem i_27_4 : q_dec 27 4 = some (7, .iload_n 1, 1) := by decide +kernel
theorem i_27_5 : q_dec 27 5 = some (7, .aload_n 0, 1) := by decide +kernel
theorem i_27_6 : q_dec 27 6 = some (7, .invokevirtual 67, 3) := by decide +kernel
theorem i_27_9 : q_dec 27 9 = some (7, .if_icmp .ge (7), 3) := by decide +kernel
theorem i_27_12 : q_dec 27 12 = some (7, .iconst 1, 1) := by decide +kernel
theorem i_27_13 : q_dec 27 13 = some (7, .goto 4, 3) := by decide +kernel
theorem i_27_16 : q_dec 27 16 = some (7, .iconst 0, 1) := by decide +kernel
theorem i_27_17 : q_dec 27 17 = some (7, .ireturn, 1) := by decide +kernel
theorem i_28_0 : q_dec 28 0 = some (7, .aload_n 0, 1) := by decide +kernel
theorem i_28_1 : q_dec 28 1 = some (7, .getfield 24, 3) := by decide +kernel
theorem i_28_4 : q_dec 28 4 = some (7, .aload_n 0, 1) := by decide +kernel
theorem i_28_5 : q_dec 28 5 = some (7, .getfield 28, 3) := by decide +kernel
theorem i_28_8 : q_dec 28 8 = some (7, .imul, 1) := by decide +kernel
theorem i_28_9 : q_dec 28 9 = some (7, .ireturn, 1) := by decide +kernel
theorem i_29_0 : q_dec 29 0 = some (7, .iload_n 1, 1) := by decide +kernel
theorem i_29_1 : q_dec 29 1 = some (7, .invokestatic 71, 3) := by decide +kernel
theorem i_29_4 : q_dec 29 4 = some (7, .ifCond .eq (12), 3) := by decide +kernel
theorem i_29_7 : q_dec 29 7 = some (7, .aload_n 0, 1) := by decide +kernel
theorem i_29_8 : q_dec 29 8 = some (7, .getfield 9, 3) := by decide +kernel
theorem i_29_11 : q_dec 29 11 = some (7, .iload_n 1, 1) := by decide +kernel
theorem i_29_12 : q_dec 29 12 = some (7, .iaload, 1) := by decide +kernel
theorem i_29_13 : q_dec 29 13 = some (7, .goto 4, 3) := by decide +kernel
theorem i_29_16 : q_dec 29 16 = some (7, .iconst 0, 1) := by decide +kernel
theorem i_29_17 : q_dec 29 17 = some (7, .ireturn, 1) := by decide +kernel
theorem i_30_0 : q_dec 30 0 = some (7, .iload_n 0, 1) := by decide +kernel
theorem i_30_1 : q_dec 30 1 = some (7, .ifCond .lt (13), 3) := by decide +kernel
theorem i_30_4 : q_dec 30 4 = some (7, .iload_n 0, 1) := by decide +kernel
theorem i_30_5 : q_dec 30 5 = some (7, .bipush 20, 2) := by decide +kernel
theorem i_30_7 : q_dec 30 7 = some (7, .if_icmp .ge (7), 3) := by decide +kernel
theorem i_30_10 : q_dec 30 10 = some (7, .iconst 1, 1) := by decide +kernel
theorem i_30_11 : q_dec 30 11 = some (7, .goto 4, 3) := by decide +kernel
theorem i_30_14 : q_dec 30 14 = some (7, .iconst 0, 1) := by decide +kernel
theorem i_30_15 : q_dec 30 15 = some (7, .ireturn, 1) := by decide +kernel
theorem i_31_0 : q_dec 31 0 = some (7, .iload_n 1, 1) := by decide +kernel
theorem i_31_1 : q_dec 31 1 = some (7, .invokestatic 71, 3) := by decide +kernel
theorem i_31_4 : q_dec 31 4 = some (7, .ifCond .eq (10), 3) := by decide +kernel
theorem i_31_7 : q_dec 31 7 = some (7, .aload_n 0, 1) := by decide +kernel
theorem i_31_8 : q_dec 31 8 = some (7, .getfield 9, 3) := by decide +kernel
theorem i_31_11 : q_dec 31 11 = some (7, .iload_n 1, 1) := by decide +kernel
theorem i_31_12 : q_dec 31 12 = some (7, .iload_n 2, 1) := by decide +kernel
theorem i_31_13 : q_dec 31 13 = some (7, .iastore, 1) := by decide +kernel
theorem i_31_14 : q_dec 31 14 = some (7, .return_, 1) := by decide +kernel
theorem i_32_0 : q_dec 32 0 = some (7, .iload_n 1, 1) := by decide +kernel
theorem i_32_1 : q_dec 32 1 = some (7, .invokestatic 71, 3) := by decide +kernel
theorem i_32_4 : q_dec 32 4 = some (7, .ifCond .eq (23), 3) := by decide +kernel
theorem i_32_7 : q_dec 32 7 = some (7, .iload_n 2, 1) := by decide +kernel
theorem i_32_8 : q_dec 32 8 = some (7, .invokestatic 81, 3) := by decide +kernel
theorem i_32_11 : q_dec 32 11 = some (7, .ifCond .eq (16), 3) := by decide +kernel
theorem i_32_14 : q_dec 32 14 = some (7, .aload_n 0, 1) := by decide +kernel
theorem i_32_15 : q_dec 32 15 = some (7, .getfield 15, 3) := by decide +kernel
theorem i_32_18 : q_dec 32 18 = some (7, .iload_n 1, 1) := by decide +kernel
theorem i_32_19 : q_dec 32 19 = some (7, .iconst 4, 1) := by decide +kernel
theorem i_32_20 : q_dec 32 20 = some (7, .imul, 1) := by decide +kernel
theorem i_32_21 : q_dec 32 21 = some (7, .iload_n 2, 1) := by decide +kernel
theorem i_32_22 : q_dec 32 22 = some (7, .iadd, 1) := by decide +kernel
theorem i_32_23 : q_dec 32 23 = some (7, .iaload, 1) := by decide +kernel
theorem i_32_24 : q_dec 32 24 = some (7, .goto 4, 3) := by decide +kernel
theorem i_32_27 : q_dec 32 27 = some (7, .iconst (-1), 1) := by decide +kernel
theorem i_32_28 : q_dec 32 28 = some (7, .ireturn, 1) := by decide +kernel
theorem i_33_0 : q_dec 33 0 = some (7, .iload 4, 2) := by decide +kernel
theorem i_33_2 : q_dec 33 2 = some (7, .iload_n 2, 1) := by decide +kernel
theorem i_33_3 : q_dec 33 3 = some (7, .if_icmp .ne (17), 3) := by decide +kernel
theorem i_33_6 : q_dec 33 6 = some (7, .aload_n 0, 1) := by decide +kernel
theorem i_33_7 : q_dec 33 7 = some (7, .iload_n 1, 1) := by decide +kernel
theorem i_33_8 : q_dec 33 8 = some (7, .invokevirtual 94, 3) := by decide +kernel
theorem i_33_11 : q_dec 33 11 = some (7, .ifCond .ne (9), 3) := by decide +kernel
theorem i_33_14 : q_dec 33 14 = some (7, .iload_n 3, 1) := by decide +kernel
theorem i_33_15 : q_dec 33 15 = some (7, .iconst 1, 1) := by decide +kernel
theorem i_33_16 : q_dec 33 16 = some (7, .iadd, 1) := by decide +kernel
theorem i_33_17 : q_dec 33 17 = some (7, .goto 4, 3) := by decide +kernel
theorem i_33_20 : q_dec 33 20 = some (7, .iconst 1, 1) := by decide +kernel
theorem i_33_21 : q_dec 33 21 = some (7, .ireturn, 1) := by decide +kernel
theorem i_34_0 : q_dec 34 0 = some (7, .iload_n 1, 1) := by decide +kernel
theorem i_34_1 : q_dec 34 1 = some (7, .invokestatic 71, 3) := by decide +kernel
theorem i_34_4 : q_dec 34 4 = some (7, .ifCond .eq (17), 3) := by decide +kernel
theorem i_34_7 : q_dec 34 7 = some (7, .aload_n 0, 1) := by decide +kernel
theorem i_34_8 : q_dec 34 8 = some (7, .getfield 9, 3) := by decide +kernel
theorem i_34_11 : q_dec 34 11 = some (7, .iload_n 1, 1) := by decide +kernel
theorem i_34_12 : q_dec 34 12 = some (7, .iaload, 1) := by decide +kernel
theorem i_34_13 : q_dec 34 13 = some (7, .iconst 2, 1) := by decide +kernel
theorem i_34_14 : q_dec 34 14 = some (7, .if_icmp .ne (7), 3) := by decide +kernel
theorem i_34_17 : q_dec 34 17 = some (7, .iconst 1, 1) := by decide +kernel
theorem i_34_18 : q_dec 34 18 = some (7, .goto 4, 3) := by decide +kernel
theorem i_34_21 : q_dec 34 21 = some (7, .iconst 0, 1) := by decide +kernel
theorem i_34_22 : q_dec 34 22 = some (7, .ireturn, 1) := by decide +kernel
theorem i_35_0 : q_dec 35 0 = some (7, .iload_n 1, 1) := by decide +kernel
theorem i_35_1 : q_dec 35 1 = some (7, .aload_n 0, 1) := by decide +kernel
theorem i_35_2 : q_dec 35 2 = some (7, .getfield 31, 3) := by decide +kernel
theorem i_35_5 : q_dec 35 5 = some (7, .isub, 1) := by decide +kernel
theorem i_35_6 : q_dec 35 6 = some (7, .istore_n 3, 1) := by decide +kernel
theorem i_35_7 : q_dec 35 7 = some (7, .iload_n 3, 1) := by decide +kernel
theorem i_35_8 : q_dec 35 8 = some (7, .ifCond .gt (8), 3) := by decide +kernel
theorem i_35_11 : q_dec 35 11 = some (7, .aload_n 0, 1) := by decide +kernel
theorem i_35_12 : q_dec 35 12 = some (7, .getfield 44, 3) := by decide +kernel
theorem i_35_15 : q_dec 35 15 = some (7, .ireturn, 1) := by decide +kernel
theorem i_35_16 : q_dec 35 16 = some (7, .aload_n 0, 1) := by decide +kernel
theorem i_35_17 : q_dec 35 17 = some (7, .getfield 34, 3) := by decide +kernel
theorem i_35_20 : q_dec 35 20 = some (7, .istore 4, 2) := by decide +kernel
theorem i_35_22 : q_dec 35 22 = some (7, .aload_n 0, 1) := by decide +kernel
theorem i_35_23 : q_dec 35 23 = some (7, .getfield 37, 3) := by decide +kernel
theorem i_35_26 : q_dec 35 26 = some (7, .iconst 1, 1) := by decide +kernel
theorem i_35_27 : q_dec 35 27 = some (7, .if_icmp .ne (14), 3) := by decide +kernel
theorem i_35_30 : q_dec 35 30 = some (7, .aload_n 0, 1) := by decide +kernel
theorem i_35_31 : q_dec 35 31 = some (7, .getfield 34, 3) := by decide +kernel
theorem i_35_34 : q_dec 35 34 = some (7, .iload_n 3, 1) := by decide +kernel
theorem i_35_35 : q_dec 35 35 = some (7, .imul, 1) := by decide +kernel
theorem i_35_36 : q_dec 35 36 = some (7, .istore 4, 2) := by decide +kernel
theorem i_35_38 : q_dec 35 38 = some (7, .goto 21, 3) := by decide +kernel
theorem i_35_41 : q_dec 35 41 = some (7, .aload_n 0, 1) := by decide +kernel
theorem i_35_42 : q_dec 35 42 = some (7, .getfield 37, 3) := by decide +kernel
theorem i_35_45 : q_dec 35 45 = some (7, .iconst 2, 1) := by decide +kernel
theorem i_35_46 : q_dec 35 46 = some (7, .if_icmp .ne (13), 3) := by decide +kernel
theorem i_35_49 : q_dec 35 49 = some (7, .aload_n 0, 1) := by decide +kernel
theorem i_35_50 : q_dec 35 50 = some (7, .getfield 34, 3) := by decide +kernel
theorem i_35_53 : q_dec 35 53 = some (7, .iload_n 3, 1) := by decide +kernel
theorem i_35_54 : q_dec 35 54 = some (7, .imul, 1) := by decide +kernel
theorem i_35_55 : q_dec 35 55 = some (7, .iload_n 3, 1) := by decide +kernel
theorem i_35_56 : q_dec 35 56 = some (7, .imul, 1) := by decide +kernel
theorem i_35_57 : q_dec 35 57 = some (7, .istore 4, 2) := by decide +kernel
theorem i_35_59 : q_dec 35 59 = some (7, .iload_n 2, 1) := by decide +kernel
theorem i_35_60 : q_dec 35 60 = some (7, .ifCond .eq (22), 3) := by decide +kernel
theorem i_35_63 : q_dec 35 63 = some (7, .aload_n 0, 1) := by decide +kernel
theorem i_35_64 : q_dec 35 64 = some (7, .getfield 40, 3) := by decide +kernel
theorem i_35_67 : q_dec 35 67 = some (7, .ifCond .eq (15), 3) := by decide +kernel
theorem i_35_70 : q_dec 35 70 = some (7, .aload_n 0, 1) := by decide +kernel
theorem i_35_71 : q_dec 35 71 = some (7, .getfield 44, 3) := by decide +kernel
theorem i_35_74 : q_dec 35 74 = some (7, .iconst 2, 1) := by decide +kernel
theorem i_35_75 : q_dec 35 75 = some (7, .iload 4, 2) := by decide +kernel
theorem i_35_77 : q_dec 35 77 = some (7, .imul, 1) := by decide +kernel
theorem i_35_78 : q_dec 35 78 = some (7, .iadd, 1) := by decide +kernel
theorem i_35_79 : q_dec 35 79 = some (7, .goto 10, 3) := by decide +kernel
theorem i_35_82 : q_dec 35 82 = some (7, .aload_n 0, 1) := by decide +kernel
theorem i_35_83 : q_dec 35 83 = some (7, .getfield 44, 3) := by decide +kernel
theorem i_35_86 : q_dec 35 86 = some (7, .iload 4, 2) := by decide +kernel
theorem i_35_88 : q_dec 35 88 = some (7, .iadd, 1) := by decide +kernel
theorem i_35_89 : q_dec 35 89 = some (7, .ireturn, 1) := by decide +kernel
theorem i_36_0 : q_dec 36 0 = some (7, .iconst 0, 1) := by decide +kernel
theorem i_36_1 : q_dec 36 1 = some (7, .istore_n 2, 1) := by decide +kernel
theorem i_36_2 : q_dec 36 2 = some (7, .iconst 0, 1) := by decide +kernel
theorem i_36_3 : q_dec 36 3 = some (7, .istore_n 3, 1) := by decide +kernel
theorem i_36_4 : q_dec 36 4 = some (7, .iload_n 3, 1) := by decide +kernel
theorem i_36_5 : q_dec 36 5 = some (7, .iconst 4, 1) := by decide +kernel
theorem i_36_6 : q_dec 36 6 = some (7, .if_icmp .ge (41), 3) := by decide +kernel
theorem i_36_9 : q_dec 36 9 = some (7, .iload_n 1, 1) := by decide +kernel
theorem i_36_10 : q_dec 36 10 = some (7, .istore 4, 2) := by decide +kernel
theorem i_36_12 : q_dec 36 12 = some (7, .iconst 0, 1) := by decide +kernel
theorem i_36_13 : q_dec 36 13 = some (7, .istore 5, 2) := by decide +kernel
theorem i_36_15 : q_dec 36 15 = some (7, .iload 5, 2) := by decide +kernel
theorem i_36_17 : q_dec 36 17 = some (7, .iconst 4, 1) := by decide +kernel
theorem i_36_18 : q_dec 36 18 = some (7, .if_icmp .ge (23), 3) := by decide +kernel
theorem i_36_21 : q_dec 36 21 = some (7, .aload_n 0, 1) := by decide +kernel
theorem i_36_22 : q_dec 36 22 = some (7, .iload 4, 2) := by decide +kernel
theorem i_36_24 : q_dec 36 24 = some (7, .iload_n 3, 1) := by decide +kernel
theorem i_36_25 : q_dec 36 25 = some (7, .invokevirtual 91, 3) := by decide +kernel
theorem i_36_28 : q_dec 36 28 = some (7, .istore 4, 2) := by decide +kernel
theorem i_36_30 : q_dec 36 30 = some (7, .iload_n 2, 1) := by decide +kernel
theorem i_36_31 : q_dec 36 31 = some (7, .iload 4, 2) := by decide +kernel
theorem i_36_33 : q_dec 36 33 = some (7, .ior, 1) := by decide +kernel
theorem i_36_34 : q_dec 36 34 = some (7, .istore_n 2, 1) := by decide +kernel
theorem i_36_35 : q_dec 36 35 = some (7, .iinc 5 1, 3) := by decide +kernel
theorem i_36_38 : q_dec 36 38 = some (7, .goto (-23), 3) := by decide +kernel
theorem i_36_41 : q_dec 36 41 = some (7, .iinc 3 1, 3) := by decide +kernel
theorem i_36_44 : q_dec 36 44 = some (7, .goto (-40), 3) := by decide +kernel
theorem i_36_47 : q_dec 36 47 = some (7, .iload_n 2, 1) := by decide +kernel
theorem i_36_48 : q_dec 36 48 = some (7, .ireturn, 1) := by decide +kernel
theorem i_37_0 : q_dec 37 0 = some (7, .iconst 0, 1) := by decide +kernel
theorem i_37_1 : q_dec 37 1 = some (7, .istore_n 3, 1) := by decide +kernel
theorem i_37_2 : q_dec 37 2 = some (7, .iconst 0, 1) := by decide +kernel
theorem i_37_3 : q_dec 37 3 = some (7, .istore 4, 2) := by decide +kernel
theorem i_37_5 : q_dec 37 5 = some (7, .iload 4, 2) := by decide +kernel
theorem i_37_7 : q_dec 37 7 = some (7, .aload_n 0, 1) := by decide +kernel
theorem i_37_8 : q_dec 37 8 = some (7, .invokevirtual 67, 3) := by decide +kernel
theorem i_37_11 : q_dec 37 11 = some (7, .if_icmp .ge (44), 3) := by decide +kernel
theorem i_37_14 : q_dec 37 14 = some (7, .iload_n 1, 1) := by decide +kernel
theorem i_37_15 : q_dec 37 15 = some (7, .iload 4, 2) := by decide +kernel
theorem i_37_17 : q_dec 37 17 = some (7, .invokestatic 84, 3) := by decide +kernel
theorem i_37_20 : q_dec 37 20 = some (7, .ifCond .eq (13), 3) := by decide +kernel
theorem i_37_23 : q_dec 37 23 = some (7, .aload_n 0, 1) := by decide +kernel
theorem i_37_24 : q_dec 37 24 = some (7, .iload 4, 2) := by decide +kernel
theorem i_37_26 : q_dec 37 26 = some (7, .iload_n 2, 1) := by decide +kernel
theorem i_37_27 : q_dec 37 27 = some (7, .invokevirtual 88, 3) := by decide +kernel
theorem i_37_30 : q_dec 37 30 = some (7, .goto 4, 3) := by decide +kernel
theorem i_37_33 : q_dec 37 33 = some (7, .iconst (-1), 1) := by decide +kernel
theorem i_37_34 : q_dec 37 34 = some (7, .istore 5, 2) := by decide +kernel
theorem i_37_36 : q_dec 37 36 = some (7, .iload 5, 2) := by decide +kernel
theorem i_37_38 : q_dec 37 38 = some (7, .iconst (-1), 1) := by decide +kernel
theorem i_37_39 : q_dec 37 39 = some (7, .if_icmp .eq (10), 3) := by decide +kernel
theorem i_37_42 : q_dec 37 42 = some (7, .iload_n 3, 1) := by decide +kernel
theorem i_37_43 : q_dec 37 43 = some (7, .iconst 1, 1) := by decide +kernel
theorem i_37_44 : q_dec 37 44 = some (7, .iload 5, 2) := by decide +kernel
theorem i_37_46 : q_dec 37 46 = some (7, .ishl, 1) := by decide +kernel
theorem i_37_47 : q_dec 37 47 = some (7, .ior, 1) := by decide +kernel
theorem i_37_48 : q_dec 37 48 = some (7, .istore_n 3, 1) := by decide +kernel
theorem i_37_49 : q_dec 37 49 = some (7, .iinc 4 1, 3) := by decide +kernel
theorem i_37_52 : q_dec 37 52 = some (7, .goto (-47), 3) := by decide +kernel
theorem i_37_55 : q_dec 37 55 = some (7, .iload_n 3, 1) := by decide +kernel
theorem i_37_56 : q_dec 37 56 = some (7, .ireturn, 1) := by decide +kernel
theorem i_38_0 : q_dec 38 0 = some (7, .iconst 0, 1) := by decide +kernel
theorem i_38_1 : q_dec 38 1 = some (7, .istore_n 2, 1) := by decide +kernel
theorem i_38_2 : q_dec 38 2 = some (7, .iconst 0, 1) := by decide +kernel
theorem i_38_3 : q_dec 38 3 = some (7, .istore_n 3, 1) := by decide +kernel
theorem i_38_4 : q_dec 38 4 = some (7, .iload_n 3, 1) := by decide +kernel
theorem i_38_5 : q_dec 38 5 = some (7, .iconst 4, 1) := by decide +kernel
theorem i_38_6 : q_dec 38 6 = some (7, .if_icmp .ge (18), 3) := by decide +kernel
theorem i_38_9 : q_dec 38 9 = some (7, .iload_n 2, 1) := by decide +kernel
theorem i_38_10 : q_dec 38 10 = some (7, .aload_n 0, 1) := by decide +kernel
theorem i_38_11 : q_dec 38 11 = some (7, .iload_n 1, 1) := by decide +kernel
theorem i_38_12 : q_dec 38 12 = some (7, .iload_n 3, 1) := by decide +kernel
theorem i_38_13 : q_dec 38 13 = some (7, .invokevirtual 91, 3) := by decide +kernel
theorem i_38_16 : q_dec 38 16 = some (7, .ior, 1) := by decide +kernel
theorem i_38_17 : q_dec 38 17 = some (7, .istore_n 2, 1) := by decide +kernel
theorem i_38_18 : q_dec 38 18 = some (7, .iinc 3 1, 3) := by decide +kernel
theorem i_38_21 : q_dec 38 21 = some (7, .goto (-17), 3) := by decide +kernel
theorem i_38_24 : q_dec 38 24 = some (7, .iload_n 2, 1) := by decide +kernel
theorem i_38_25 : q_dec 38 25 = some (7, .ireturn, 1) := by decide +kernel
theorem i_39_0 : q_dec 39 0 = some (7, .iconst 0, 1) := by decide +kernel
theorem i_39_1 : q_dec 39 1 = some (7, .istore_n 2, 1) := by decide +kernel
theorem i_39_2 : q_dec 39 2 = some (7, .iconst 0, 1) := by decide +kernel
theorem i_39_3 : q_dec 39 3 = some (7, .istore_n 3, 1) := by decide +kernel
theorem i_39_4 : q_dec 39 4 = some (7, .iload_n 3, 1) := by decide +kernel
theorem i_39_5 : q_dec 39 5 = some (7, .aload_n 0, 1) := by decide +kernel
theorem i_39_6 : q_dec 39 6 = some (7, .invokevirtual 67, 3) := by decide +kernel
theorem i_39_9 : q_dec 39 9 = some (7, .if_icmp .ge (21), 3) := by decide +kernel
theorem i_39_12 : q_dec 39 12 = some (7, .aload_n 0, 1) := by decide +kernel
theorem i_39_13 : q_dec 39 13 = some (7, .iload_n 3, 1) := by decide +kernel
theorem i_39_14 : q_dec 39 14 = some (7, .invokevirtual 77, 3) := by decide +kernel
theorem i_39_17 : q_dec 39 17 = some (7, .iload_n 1, 1) := by decide +kernel
theorem i_39_18 : q_dec 39 18 = some (7, .if_icmp .ne (6), 3) := by decide +kernel
theorem i_39_21 : q_dec 39 21 = some (7, .iinc 2 1, 3) := by decide +kernel
theorem i_39_24 : q_dec 39 24 = some (7, .iinc 3 1, 3) := by decide +kernel
theorem i_39_27 : q_dec 39 27 = some (7, .goto (-23), 3) := by decide +kernel
theorem i_39_30 : q_dec 39 30 = some (7, .iload_n 2, 1) := by decide +kernel
theorem i_39_31 : q_dec 39 31 = some (7, .ireturn, 1) := by decide +kernel
theorem i_40_0 : q_dec 40 0 = some (8, .aload_n 0, 1) := by decide +kernel
theorem i_40_1 : q_dec 40 1 = some (8, .iconst (-1), 1) := by decide +kernel
theorem i_40_2 : q_dec 40 2 = some (8, .putfield 9, 3) := by decide +kernel
theorem i_40_5 : q_dec 40 5 = some (8, .aload_n 0, 1) := by decide +kernel
theorem i_40_6 : q_dec 40 6 = some (8, .iconst 0, 1) := by decide +kernel
theorem i_40_7 : q_dec 40 7 = some (8, .putfield 15, 3) := by decide +kernel
theorem i_40_10 : q_dec 40 10 = some (8, .aload_n 0, 1) := by decide +kernel
theorem i_40_11 : q_dec 40 11 = some (8, .iconst 0, 1) := by decide +kernel
theorem i_40_12 : q_dec 40 12 = some (8, .putfield 18, 3) := by decide +kernel
theorem i_40_15 : q_dec 40 15 = some (8, .return_, 1) := by decide +kernel
theorem i_41_0 : q_dec 41 0 = some (8, .aload_n 0, 1) := by decide +kernel
theorem i_41_1 : q_dec 41 1 = some (8, .getfield 18, 3) := by decide +kernel
theorem i_41_4 : q_dec 41 4 = some (8, .ifCond .le (26), 3) := by decide +kernel
theorem i_41_7 : q_dec 41 7 = some (8, .aload_n 0, 1) := by decide +kernel
theorem i_41_8 : q_dec 41 8 = some (8, .getfield 18, 3) := by decide +kernel
theorem i_41_11 : q_dec 41 11 = some (8, .bipush 60, 2) := by decide +kernel
theorem i_41_13 : q_dec 41 13 = some (8, .if_icmp .gt (17), 3) := by decide +kernel
theorem i_41_16 : q_dec 41 16 = some (8, .aload_n 0, 1) := by decide +kernel
theorem i_41_17 : q_dec 41 17 = some (8, .getfield 29, 3) := by decide +kernel
theorem i_41_20 : q_dec 41 20 = some (8, .aload_n 0, 1) := by decide +kernel
theorem i_41_21 : q_dec 41 21 = some (8, .getfield 18, 3) := by decide +kernel
theorem i_41_24 : q_dec 41 24 = some (8, .iconst 1, 1) := by decide +kernel
theorem i_41_25 : q_dec 41 25 = some (8, .isub, 1) := by decide +kernel
theorem i_41_26 : q_dec 41 26 = some (8, .iaload, 1) := by decide +kernel
theorem i_41_27 : q_dec 41 27 = some (8, .goto 4, 3) := by decide +kernel
theorem i_41_30 : q_dec 41 30 = some (8, .iconst (-1), 1) := by decide +kernel
theorem i_41_31 : q_dec 41 31 = some (8, .ireturn, 1) := by decide +kernel
theorem i_42_0 : q_dec 42 0 = some (8, .aload_n 0, 1) := by decide +kernel
theorem i_42_1 : q_dec 42 1 = some (8, .getfield 18, 3) := by decide +kernel
theorem i_42_4 : q_dec 42 4 = some (8, .ifCond .le (26), 3) := by decide +kernel
theorem i_42_7 : q_dec 42 7 = some (8, .aload_n 0, 1) := by decide +kernel
theorem i_42_8 : q_dec 42 8 = some (8, .getfield 18, 3) := by decide +kernel
theorem i_42_11 : q_dec 42 11 = some (8, .bipush 60, 2) := by decide +kernel
theorem i_42_13 : q_dec 42 13 = some (8, .if_icmp .gt (17), 3) := by decide +kernel
theorem i_42_16 : q_dec 42 16 = some (8, .aload_n 0, 1) := by decide +kernel
theorem i_42_17 : q_dec 42 17 = some (8, .getfield 32, 3) := by decide +kernel
theorem i_42_20 : q_dec 42 20 = some (8, .aload_n 0, 1) := by decide +kernel
theorem i_42_21 : q_dec 42 21 = some (8, .getfield 18, 3) := by decide +kernel
theorem i_42_24 : q_dec 42 24 = some (8, .iconst 1, 1) := by decide +kernel
theorem i_42_25 : q_dec 42 25 = some (8, .isub, 1) := by decide +kernel
theorem i_42_26 : q_dec 42 26 = some (8, .iaload, 1) := by decide +kernel
theorem i_42_27 : q_dec 42 27 = some (8, .goto 4, 3) := by decide +kernel
theorem i_42_30 : q_dec 42 30 = some (8, .iconst 0, 1) := by decide +kernel
theorem i_42_31 : q_dec 42 31 = some (8, .ireturn, 1) := by decide +kernel
theorem i_43_0 : q_dec 43 0 = some (8, .aload_n 0, 1) := by decide +kernel
theorem i_43_1 : q_dec 43 1 = some (8, .getfield 18, 3) := by decide +kernel
theorem i_43_4 : q_dec 43 4 = some (8, .ifCond .lt (81), 3) := by decide +kernel
theorem i_43_7 : q_dec 43 7 = some (8, .aload_n 0, 1) := by decide +kernel
theorem i_43_8 : q_dec 43 8 = some (8, .getfield 18, 3) := by decide +kernel
theorem i_43_11 : q_dec 43 11 = some (8, .bipush 60, 2) := by decide +kernel
theorem i_43_13 : q_dec 43 13 = some (8, .if_icmp .ge (72), 3) := by decide +kernel
theorem i_43_16 : q_dec 43 16 = some (8, .aload_n 0, 1) := by decide +kernel
theorem i_43_17 : q_dec 43 17 = some (8, .getfield 25, 3) := by decide +kernel
theorem i_43_20 : q_dec 43 20 = some (8, .aload_n 0, 1) := by decide +kernel
theorem i_43_21 : q_dec 43 21 = some (8, .getfield 18, 3) := by decide +kernel
theorem i_43_24 : q_dec 43 24 = some (8, .aload_n 0, 1) := by decide +kernel
theorem i_43_25 : q_dec 43 25 = some (8, .getfield 9, 3) := by decide +kernel
theorem i_43_28 : q_dec 43 28 = some (8, .iastore, 1) := by decide +kernel
theorem i_43_29 : q_dec 43 29 = some (8, .aload_n 0, 1) := by decide +kernel
theorem i_43_30 : q_dec 43 30 = some (8, .getfield 29, 3) := by decide +kernel
theorem i_43_33 : q_dec 43 33 = some (8, .aload_n 0, 1) := by decide +kernel
theorem i_43_34 : q_dec 43 34 = some (8, .getfield 18, 3) := by decide +kernel
theorem i_43_37 : q_dec 43 37 = some (8, .iload_n 1, 1) := by decide +kernel
theorem i_43_38 : q_dec 43 38 = some (8, .iastore, 1) := by decide +kernel
theorem i_43_39 : q_dec 43 39 = some (8, .aload_n 0, 1) := by decide +kernel
theorem i_43_40 : q_dec 43 40 = some (8, .getfield 32, 3) := by decide +kernel
theorem i_43_43 : q_dec 43 43 = some (8, .aload_n 0, 1) := by decide +kernel
theorem i_43_44 : q_dec 43 44 = some (8, .getfield 18, 3) := by decide +kernel
theorem i_43_47 : q_dec 43 47 = some (8, .iload_n 2, 1) := by decide +kernel
theorem i_43_48 : q_dec 43 48 = some (8, .iastore, 1) := by decide +kernel
theorem i_43_49 : q_dec 43 49 = some (8, .aload_n 0, 1) := by decide +kernel
theorem i_43_50 : q_dec 43 50 = some (8, .getfield 35, 3) := by decide +kernel
theorem i_43_53 : q_dec 43 53 = some (8, .aload_n 0, 1) := by decide +kernel
theorem i_43_54 : q_dec 43 54 = some (8, .getfield 18, 3) := by decide +kernel
theorem i_43_57 : q_dec 43 57 = some (8, .iload_n 3, 1) := by decide +kernel
theorem i_43_58 : q_dec 43 58 = some (8, .iastore, 1) := by decide +kernel
theorem i_43_59 : q_dec 43 59 = some (8, .aload_n 0, 1) := by decide +kernel
theorem i_43_60 : q_dec 43 60 = some (8, .dup, 1) := by decide +kernel
theorem i_43_61 : q_dec 43 61 = some (8, .getfield 18, 3) := by decide +kernel
theorem i_43_64 : q_dec 43 64 = some (8, .iconst 1, 1) := by decide +kernel
theorem i_43_65 : q_dec 43 65 = some (8, .iadd, 1) := by decide +kernel
theorem i_43_66 : q_dec 43 66 = some (8, .putfield 18, 3) := by decide +kernel
theorem i_43_69 : q_dec 43 69 = some (8, .aload_n 0, 1) := by decide +kernel
theorem i_43_70 : q_dec 43 70 = some (8, .dup, 1) := by decide +kernel
theorem i_43_71 : q_dec 43 71 = some (8, .getfield 15, 3) := by decide +kernel
theorem i_43_74 : q_dec 43 74 = some (8, .iload_n 3, 1) := by decide +kernel
theorem i_43_75 : q_dec 43 75 = some (8, .iadd, 1) := by decide +kernel
theorem i_43_76 : q_dec 43 76 = some (8, .putfield 15, 3) := by decide +kernel
theorem i_43_79 : q_dec 43 79 = some (8, .aload_n 0, 1) := by decide +kernel
theorem i_43_80 : q_dec 43 80 = some (8, .iload 4, 2) := by decide +kernel
theorem i_43_82 : q_dec 43 82 = some (8, .putfield 9, 3) := by decide +kernel
theorem i_43_85 : q_dec 43 85 = some (8, .return_, 1) := by decide +kernel
theorem i_44_0 : q_dec 44 0 = some (8, .aload_n 0, 1) := by decide +kernel
theorem i_44_1 : q_dec 44 1 = some (8, .getfield 18, 3) := by decide +kernel
theorem i_44_4 : q_dec 44 4 = some (8, .ifCond .le (12), 3) := by decide +kernel
theorem i_44_7 : q_dec 44 7 = some (8, .aload_n 0, 1) := by decide +kernel
theorem i_44_8 : q_dec 44 8 = some (8, .getfield 18, 3) := by decide +kernel
theorem i_44_11 : q_dec 44 11 = some (8, .bipush 60, 2) := by decide +kernel
theorem i_44_13 : q_dec 44 13 = some (8, .if_icmp .le (5), 3) := by decide +kernel
theorem i_44_16 : q_dec 44 16 = some (8, .iconst 0, 1) := by decide +kernel
theorem i_44_17 : q_dec 44 17 = some (8, .ireturn, 1) := by decide +kernel
theorem i_44_18 : q_dec 44 18 = some (8, .aload_n 0, 1) := by decide +kernel
theorem i_44_19 : q_dec 44 19 = some (8, .dup, 1) := by decide +kernel
theorem i_44_20 : q_dec 44 20 = some (8, .getfield 18, 3) := by decide +kernel
theorem i_44_23 : q_dec 44 23 = some (8, .iconst 1, 1) := by decide +kernel
theorem i_44_24 : q_dec 44 24 = some (8, .isub, 1) := by decide +kernel
theorem i_44_25 : q_dec 44 25 = some (8, .putfield 18, 3) := by decide +kernel
theorem i_44_28 : q_dec 44 28 = some (8, .aload_n 0, 1) := by decide +kernel
theorem i_44_29 : q_dec 44 29 = some (8, .aload_n 0, 1) := by decide +kernel
theorem i_44_30 : q_dec 44 30 = some (8, .getfield 25, 3) := by decide +kernel
theorem i_44_33 : q_dec 44 33 = some (8, .aload_n 0, 1) := by decide +kernel
theorem i_44_34 : q_dec 44 34 = some (8, .getfield 18, 3) := by decide +kernel
theorem i_44_37 : q_dec 44 37 = some (8, .iaload, 1) := by decide +kernel
theorem i_44_38 : q_dec 44 38 = some (8, .putfield 9, 3) := by decide +kernel
theorem i_44_41 : q_dec 44 41 = some (8, .aload_n 0, 1) := by decide +kernel
theorem i_44_42 : q_dec 44 42 = some (8, .dup, 1) := by decide +kernel
theorem i_44_43 : q_dec 44 43 = some (8, .getfield 15, 3) := by decide +kernel
theorem i_44_46 : q_dec 44 46 = some (8, .aload_n 0, 1) := by decide +kernel
theorem i_44_47 : q_dec 44 47 = some (8, .getfield 35, 3) := by decide +kernel
theorem i_44_50 : q_dec 44 50 = some (8, .aload_n 0, 1) := by decide +kernel
theorem i_44_51 : q_dec 44 51 = some (8, .getfield 18, 3) := by decide +kernel
theorem i_44_54 : q_dec 44 54 = some (8, .iaload, 1) := by decide +kernel
theorem i_44_55 : q_dec 44 55 = some (8, .isub, 1) := by decide +kernel
theorem i_44_56 : q_dec 44 56 = some (8, .putfield 15, 3) := by decide +kernel
theorem i_44_59 : q_dec 44 59 = some (8, .aload_n 0, 1) := by decide +kernel
theorem i_44_60 : q_dec 44 60 = some (8, .getfield 35, 3) := by decide +kernel
theorem i_44_63 : q_dec 44 63 = some (8, .aload_n 0, 1) := by decide +kernel
theorem i_44_64 : q_dec 44 64 = some (8, .getfield 18, 3) := by decide +kernel
theorem i_44_67 : q_dec 44 67 = some (8, .iaload, 1) := by decide +kernel
theorem i_44_68 : q_dec 44 68 = some (8, .ireturn, 1) := by decide +kernel
theorem i_45_0 : q_dec 45 0 = some (8, .aload_n 0, 1) := by decide +kernel
theorem i_45_1 : q_dec 45 1 = some (8, .aload_n 1, 1) := by decide +kernel
theorem i_45_2 : q_dec 45 2 = some (8, .getfield 9, 3) := by decide +kernel
theorem i_45_5 : q_dec 45 5 = some (8, .putfield 9, 3) := by decide +kernel
theorem i_45_8 : q_dec 45 8 = some (8, .aload_n 0, 1) := by decide +kernel
theorem i_45_9 : q_dec 45 9 = some (8, .aload_n 1, 1) := by decide +kernel
theorem i_45_10 : q_dec 45 10 = some (8, .getfield 15, 3) := by decide +kernel
theorem i_45_13 : q_dec 45 13 = some (8, .putfield 15, 3) := by decide +kernel
theorem i_45_16 : q_dec 45 16 = some (8, .aload_n 0, 1) := by decide +kernel
theorem i_45_17 : q_dec 45 17 = some (8, .aload_n 1, 1) := by decide +kernel
theorem i_45_18 : q_dec 45 18 = some (8, .getfield 18, 3) := by decide +kernel
theorem i_45_21 : q_dec 45 21 = some (8, .putfield 18, 3) := by decide +kernel
theorem i_45_24 : q_dec 45 24 = some (8, .aload_n 0, 1) := by decide +kernel
theorem i_45_25 : q_dec 45 25 = some (8, .aload_n 1, 1) := by decide +kernel
theorem i_45_26 : q_dec 45 26 = some (8, .getfield 21, 3) := by decide +kernel
theorem i_45_29 : q_dec 45 29 = some (8, .putfield 21, 3) := by decide +kernel
theorem i_45_32 : q_dec 45 32 = some (8, .aload_n 1, 1) := by decide +kernel
theorem i_45_33 : q_dec 45 33 = some (8, .getfield 25, 3) := by decide +kernel
theorem i_45_36 : q_dec 45 36 = some (8, .iconst 0, 1) := by decide +kernel
theorem i_45_37 : q_dec 45 37 = some (8, .aload_n 0, 1) := by decide +kernel
theorem i_45_38 : q_dec 45 38 = some (8, .getfield 25, 3) := by decide +kernel
theorem i_45_41 : q_dec 45 41 = some (8, .iconst 0, 1) := by decide +kernel
theorem i_45_42 : q_dec 45 42 = some (8, .bipush 60, 2) := by decide +kernel
theorem i_45_44 : q_dec 45 44 = some (8, .invokestatic 38, 3) := by decide +kernel
theorem i_45_47 : q_dec 45 47 = some (8, .aload_n 1, 1) := by decide +kernel
theorem i_45_48 : q_dec 45 48 = some (8, .getfield 29, 3) := by decide +kernel
theorem i_45_51 : q_dec 45 51 = some (8, .iconst 0, 1) := by decide +kernel
theorem i_45_52 : q_dec 45 52 = some (8, .aload_n 0, 1) := by decide +kernel
theorem i_45_53 : q_dec 45 53 = some (8, .getfield 29, 3) := by decide +kernel
theorem i_45_56 : q_dec 45 56 = some (8, .iconst 0, 1) := by decide +kernel
theorem i_45_57 : q_dec 45 57 = some (8, .bipush 60, 2) := by decide +kernel
theorem i_45_59 : q_dec 45 59 = some (8, .invokestatic 38, 3) := by decide +kernel
theorem i_45_62 : q_dec 45 62 = some (8, .aload_n 1, 1) := by decide +kernel
theorem i_45_63 : q_dec 45 63 = some (8, .getfield 32, 3) := by decide +kernel
theorem i_45_66 : q_dec 45 66 = some (8, .iconst 0, 1) := by decide +kernel
theorem i_45_67 : q_dec 45 67 = some (8, .aload_n 0, 1) := by decide +kernel
theorem i_45_68 : q_dec 45 68 = some (8, .getfield 32, 3) := by decide +kernel
theorem i_45_71 : q_dec 45 71 = some (8, .iconst 0, 1) := by decide +kernel
theorem i_45_72 : q_dec 45 72 = some (8, .bipush 60, 2) := by decide +kernel
theorem i_45_74 : q_dec 45 74 = some (8, .invokestatic 38, 3) := by decide +kernel
theorem i_45_77 : q_dec 45 77 = some (8, .aload_n 1, 1) := by decide +kernel
theorem i_45_78 : q_dec 45 78 = some (8, .getfield 35, 3) := by decide +kernel
theorem i_45_81 : q_dec 45 81 = some (8, .iconst 0, 1) := by decide +kernel
theorem i_45_82 : q_dec 45 82 = some (8, .aload_n 0, 1) := by decide +kernel
theorem i_45_83 : q_dec 45 83 = some (8, .getfield 35, 3) := by decide +kernel
theorem i_45_86 : q_dec 45 86 = some (8, .iconst 0, 1) := by decide +kernel
theorem i_45_87 : q_dec 45 87 = some (8, .bipush 60, 2) := by decide +kernel
theorem i_45_89 : q_dec 45 89 = some (8, .invokestatic 38, 3) := by decide +kernel
theorem i_45_92 : q_dec 45 92 = some (8, .return_, 1) := by decide +kernel
theorem i_46_0 : q_dec 46 0 = some (9, .aload_n 1, 1) := by decide +kernel
theorem i_46_1 : q_dec 46 1 = some (9, .dup, 1) := by decide +kernel
theorem i_46_2 : q_dec 46 2 = some (9, .getfield 7, 3) := by decide +kernel
theorem i_46_5 : q_dec 46 5 = some (9, .lconst 1, 1) := by decide +kernel
theorem i_46_6 : q_dec 46 6 = some (9, .ladd, 1) := by decide +kernel
theorem i_46_7 : q_dec 46 7 = some (9, .putfield 7, 3) := by decide +kernel
theorem i_46_10 : q_dec 46 10 = some (9, .aload_n 1, 1) := by decide +kernel
theorem i_46_11 : q_dec 46 11 = some (9, .getfield 13, 3) := by decide +kernel
theorem i_46_14 : q_dec 46 14 = some (9, .getfield 17, 3) := by decide +kernel
theorem i_46_17 : q_dec 46 17 = some (9, .ireturn, 1) := by decide +kernel
theorem i_47_0 : q_dec 47 0 = some (10, .aload_n 0, 1) := by decide +kernel
theorem i_47_1 : q_dec 47 1 = some (10, .aload_n 1, 1) := by decide +kernel
theorem i_47_2 : q_dec 47 2 = some (10, .putfield 12, 3) := by decide +kernel
theorem i_47_5 : q_dec 47 5 = some (10, .aload_n 0, 1) := by decide +kernel
theorem i_47_6 : q_dec 47 6 = some (10, .iload_n 2, 1) := by decide +kernel
theorem i_47_7 : q_dec 47 7 = some (10, .putfield 18, 3) := by decide +kernel
theorem i_47_10 : q_dec 47 10 = some (10, .iconst 1, 1) := by decide +kernel
theorem i_47_11 : q_dec 47 11 = some (10, .istore_n 3, 1) := by decide +kernel
theorem i_47_12 : q_dec 47 12 = some (10, .iload_n 3, 1) := by decide +kernel
theorem i_47_13 : q_dec 47 13 = some (10, .iconst 4, 1) := by decide +kernel
theorem i_47_14 : q_dec 47 14 = some (10, .if_icmp .gt (54), 3) := by decide +kernel
theorem i_47_17 : q_dec 47 17 = some (10, .aload_n 0, 1) := by decide +kernel
theorem i_47_18 : q_dec 47 18 = some (10, .getfield 26, 3) := by decide +kernel
theorem i_47_21 : q_dec 47 21 = some (10, .iload_n 3, 1) := by decide +kernel
theorem i_47_22 : q_dec 47 22 = some (10, .aload_n 0, 1) := by decide +kernel
theorem i_47_23 : q_dec 47 23 = some (10, .getfield 26, 3) := by decide +kernel
theorem i_47_26 : q_dec 47 26 = some (10, .iload_n 3, 1) := by decide +kernel
theorem i_47_27 : q_dec 47 27 = some (10, .iconst 1, 1) := by decide +kernel
theorem i_47_28 : q_dec 47 28 = some (10, .isub, 1) := by decide +kernel
theorem i_47_29 : q_dec 47 29 = some (10, .iaload, 1) := by decide +kernel
theorem i_47_30 : q_dec 47 30 = some (10, .aload_n 0, 1) := by decide +kernel
theorem i_47_31 : q_dec 47 31 = some (10, .getfield 12, 3) := by decide +kernel
theorem i_47_34 : q_dec 47 34 = some (10, .iload_n 3, 1) := by decide +kernel
theorem i_47_35 : q_dec 47 35 = some (10, .aload_n 0, 1) := by decide +kernel
theorem i_47_36 : q_dec 47 36 = some (10, .getfield 18, 3) := by decide +kernel
theorem i_47_39 : q_dec 47 39 = some (10, .invokevirtual 51, 3) := by decide +kernel
theorem i_47_42 : q_dec 47 42 = some (10, .iadd, 1) := by decide +kernel
theorem i_47_43 : q_dec 47 43 = some (10, .iastore, 1) := by decide +kernel
theorem i_47_44 : q_dec 47 44 = some (10, .aload_n 0, 1) := by decide +kernel
theorem i_47_45 : q_dec 47 45 = some (10, .getfield 30, 3) := by decide +kernel
theorem i_47_48 : q_dec 47 48 = some (10, .iload_n 3, 1) := by decide +kernel
theorem i_47_49 : q_dec 47 49 = some (10, .aload_n 0, 1) := by decide +kernel
theorem i_47_50 : q_dec 47 50 = some (10, .getfield 26, 3) := by decide +kernel
theorem i_47_53 : q_dec 47 53 = some (10, .iload_n 3, 1) := by decide +kernel
theorem i_47_54 : q_dec 47 54 = some (10, .iaload, 1) := by decide +kernel
theorem i_47_55 : q_dec 47 55 = some (10, .sipush 1024, 3) := by decide +kernel
theorem i_47_58 : q_dec 47 58 = some (10, .imul, 1) := by decide +kernel
theorem i_47_59 : q_dec 47 59 = some (10, .iload_n 3, 1) := by decide +kernel
theorem i_47_60 : q_dec 47 60 = some (10, .iadd, 1) := by decide +kernel
theorem i_47_61 : q_dec 47 61 = some (10, .iastore, 1) := by decide +kernel
theorem i_47_62 : q_dec 47 62 = some (10, .iinc 3 1, 3) := by decide +kernel
theorem i_47_65 : q_dec 47 65 = some (10, .goto (-53), 3) := by decide +kernel
theorem i_47_68 : q_dec 47 68 = some (10, .return_, 1) := by decide +kernel
theorem i_48_0 : q_dec 48 0 = some (10, .iconst 1, 1) := by decide +kernel
theorem i_48_1 : q_dec 48 1 = some (10, .istore_n 3, 1) := by decide +kernel
theorem i_48_2 : q_dec 48 2 = some (10, .iload_n 3, 1) := by decide +kernel
theorem i_48_3 : q_dec 48 3 = some (10, .iload_n 2, 1) := by decide +kernel
theorem i_48_4 : q_dec 48 4 = some (10, .bipush 10, 2) := by decide +kernel
theorem i_48_6 : q_dec 48 6 = some (10, .idiv, 1) := by decide +kernel
theorem i_48_7 : q_dec 48 7 = some (10, .if_icmp .gt (17), 3) := by decide +kernel
theorem i_48_10 : q_dec 48 10 = some (10, .iload_n 3, 1) := by decide +kernel
theorem i_48_11 : q_dec 48 11 = some (10, .ldc 55, 2) := by decide +kernel
theorem i_48_13 : q_dec 48 13 = some (10, .if_icmp .gt (11), 3) := by decide +kernel
theorem i_48_16 : q_dec 48 16 = some (10, .iload_n 3, 1) := by decide +kernel
theorem i_48_17 : q_dec 48 17 = some (10, .bipush 10, 2) := by decide +kernel
theorem i_48_19 : q_dec 48 19 = some (10, .imul, 1) := by decide +kernel
theorem i_48_20 : q_dec 48 20 = some (10, .istore_n 3, 1) := by decide +kernel
theorem i_48_21 : q_dec 48 21 = some (10, .goto (-19), 3) := by decide +kernel
theorem i_48_24 : q_dec 48 24 = some (10, .iload_n 1, 1) := by decide +kernel
theorem i_48_25 : q_dec 48 25 = some (10, .istore 4, 2) := by decide +kernel
theorem i_48_27 : q_dec 48 27 = some (10, .iconst (-1), 1) := by decide +kernel
theorem i_48_28 : q_dec 48 28 = some (10, .istore 5, 2) := by decide +kernel
theorem i_48_30 : q_dec 48 30 = some (10, .iconst 0, 1) := by decide +kernel
theorem i_48_31 : q_dec 48 31 = some (10, .istore 6, 2) := by decide +kernel
theorem i_48_33 : q_dec 48 33 = some (10, .iconst 0, 1) := by decide +kernel
theorem i_48_34 : q_dec 48 34 = some (10, .istore 7, 2) := by decide +kernel
theorem i_48_36 : q_dec 48 36 = some (10, .iload_n 2, 1) := by decide +kernel
theorem i_48_37 : q_dec 48 37 = some (10, .istore 8, 2) := by decide +kernel
theorem i_48_39 : q_dec 48 39 = some (10, .iconst 0, 1) := by decide +kernel
theorem i_48_40 : q_dec 48 40 = some (10, .istore 9, 2) := by decide +kernel
theorem i_48_42 : q_dec 48 42 = some (10, .iload 8, 2) := by decide +kernel
theorem i_48_44 : q_dec 48 44 = some (10, .ifCond .le (100), 3) := by decide +kernel
theorem i_48_47 : q_dec 48 47 = some (10, .iload_n 3, 1) := by decide +kernel
theorem i_48_48 : q_dec 48 48 = some (10, .ifCond .le (96), 3) := by decide +kernel
theorem i_48_51 : q_dec 48 51 = some (10, .iload 8, 2) := by decide +kernel
theorem i_48_53 : q_dec 48 53 = some (10, .iload_n 3, 1) := by decide +kernel
theorem i_48_54 : q_dec 48 54 = some (10, .idiv, 1) := by decide +kernel
theorem i_48_55 : q_dec 48 55 = some (10, .iconst 1, 1) := by decide +kernel
theorem i_48_56 : q_dec 48 56 = some (10, .isub, 1) := by decide +kernel
theorem i_48_57 : q_dec 48 57 = some (10, .istore 10, 2) := by decide +kernel
theorem i_48_59 : q_dec 48 59 = some (10, .aload_n 0, 1) := by decide +kernel
theorem i_48_60 : q_dec 48 60 = some (10, .getfield 12, 3) := by decide +kernel
theorem i_48_63 : q_dec 48 63 = some (10, .iload 4, 2) := by decide +kernel
theorem i_48_65 : q_dec 48 65 = some (10, .iload 10, 2) := by decide +kernel
theorem i_48_67 : q_dec 48 67 = some (10, .invokevirtual 56, 3) := by decide +kernel
theorem i_48_70 : q_dec 48 70 = some (10, .istore 11, 2) := by decide +kernel
theorem i_48_72 : q_dec 48 72 = some (10, .iload 11, 2) := by decide +kernel
theorem i_48_74 : q_dec 48 74 = some (10, .iconst (-1), 1) := by decide +kernel
theorem i_48_75 : q_dec 48 75 = some (10, .if_icmp .ne (9), 3) := by decide +kernel
theorem i_48_78 : q_dec 48 78 = some (10, .bipush (-10), 2) := by decide +kernel
theorem i_48_80 : q_dec 48 80 = some (10, .iload 9, 2) := by decide +kernel
theorem i_48_82 : q_dec 48 82 = some (10, .isub, 1) := by decide +kernel
theorem i_48_83 : q_dec 48 83 = some (10, .ireturn, 1) := by decide +kernel
theorem i_48_84 : q_dec 48 84 = some (10, .aload_n 0, 1) := by decide +kernel
theorem i_48_85 : q_dec 48 85 = some (10, .getfield 12, 3) := by decide +kernel
theorem i_48_88 : q_dec 48 88 = some (10, .iload 4, 2) := by decide +kernel
theorem i_48_90 : q_dec 48 90 = some (10, .iload 5, 2) := by decide +kernel
theorem i_48_92 : q_dec 48 92 = some (10, .iload 6, 2) := by decide +kernel
theorem i_48_94 : q_dec 48 94 = some (10, .iload 10, 2) := by decide +kernel
theorem i_48_96 : q_dec 48 96 = some (10, .invokevirtual 60, 3) := by decide +kernel
theorem i_48_99 : q_dec 48 99 = some (10, .istore 6, 2) := by decide +kernel
theorem i_48_101 : q_dec 48 101 = some (10, .iload 7, 2) := by decide +kernel
theorem i_48_103 : q_dec 48 103 = some (10, .aload_n 0, 1) := by decide +kernel
theorem i_48_104 : q_dec 48 104 = some (10, .getfield 12, 3) := by decide +kernel
theorem i_48_107 : q_dec 48 107 = some (10, .iload 6, 2) := by decide +kernel
theorem i_48_109 : q_dec 48 109 = some (10, .aload_n 0, 1) := by decide +kernel
theorem i_48_110 : q_dec 48 110 = some (10, .getfield 18, 3) := by decide +kernel
theorem i_48_113 : q_dec 48 113 = some (10, .invokevirtual 51, 3) := by decide +kernel
theorem i_48_116 : q_dec 48 116 = some (10, .iadd, 1) := by decide +kernel
theorem i_48_117 : q_dec 48 117 = some (10, .istore 7, 2) := by decide +kernel
theorem i_48_119 : q_dec 48 119 = some (10, .iload 10, 2) := by decide +kernel
theorem i_48_121 : q_dec 48 121 = some (10, .istore 5, 2) := by decide +kernel
theorem i_48_123 : q_dec 48 123 = some (10, .iload 11, 2) := by decide +kernel
theorem i_48_125 : q_dec 48 125 = some (10, .istore 4, 2) := by decide +kernel
theorem i_48_127 : q_dec 48 127 = some (10, .iload 8, 2) := by decide +kernel
theorem i_48_129 : q_dec 48 129 = some (10, .iload_n 3, 1) := by decide +kernel
theorem i_48_130 : q_dec 48 130 = some (10, .irem, 1) := by decide +kernel
theorem i_48_131 : q_dec 48 131 = some (10, .istore 8, 2) := by decide +kernel
theorem i_48_133 : q_dec 48 133 = some (10, .iload_n 3, 1) := by decide +kernel
theorem i_48_134 : q_dec 48 134 = some (10, .bipush 10, 2) := by decide +kernel
theorem i_48_136 : q_dec 48 136 = some (10, .idiv, 1) := by decide +kernel
theorem i_48_137 : q_dec 48 137 = some (10, .istore_n 3, 1) := by decide +kernel
theorem i_48_138 : q_dec 48 138 = some (10, .iinc 9 1, 3) := by decide +kernel
theorem i_48_141 : q_dec 48 141 = some (10, .goto (-99), 3) := by decide +kernel
theorem i_48_144 : q_dec 48 144 = some (10, .iload 7, 2) := by decide +kernel
theorem i_48_146 : q_dec 48 146 = some (10, .ireturn, 1) := by decide +kernel
theorem i_49_0 : q_dec 49 0 = some (10, .aload_n 0, 1) := by decide +kernel
theorem i_49_1 : q_dec 49 1 = some (10, .iload_n 1, 1) := by decide +kernel
theorem i_49_2 : q_dec 49 2 = some (10, .putfield 22, 3) := by decide +kernel
theorem i_49_5 : q_dec 49 5 = some (10, .aload_n 0, 1) := by decide +kernel
theorem i_49_6 : q_dec 49 6 = some (10, .getfield 33, 3) := by decide +kernel
theorem i_49_9 : q_dec 49 9 = some (10, .ldc 64, 2) := by decide +kernel
theorem i_49_11 : q_dec 49 11 = some (10, .invokestatic 65, 3) := by decide +kernel
theorem i_49_14 : q_dec 49 14 = some (10, .aload_n 0, 1) := by decide +kernel
theorem i_49_15 : q_dec 49 15 = some (10, .getfield 36, 3) := by decide +kernel
theorem i_49_18 : q_dec 49 18 = some (10, .ldc 64, 2) := by decide +kernel
theorem i_49_20 : q_dec 49 20 = some (10, .invokestatic 65, 3) := by decide +kernel
theorem i_49_23 : q_dec 49 23 = some (10, .iconst 0, 1) := by decide +kernel
theorem i_49_24 : q_dec 49 24 = some (10, .istore_n 2, 1) := by decide +kernel
theorem i_49_25 : q_dec 49 25 = some (10, .iload_n 2, 1) := by decide +kernel
theorem i_49_26 : q_dec 49 26 = some (10, .iconst 4, 1) := by decide +kernel
theorem i_49_27 : q_dec 49 27 = some (10, .if_icmp .ge (23), 3) := by decide +kernel
theorem i_49_30 : q_dec 49 30 = some (10, .aload_n 0, 1) := by decide +kernel
theorem i_49_31 : q_dec 49 31 = some (10, .getfield 36, 3) := by decide +kernel
theorem i_49_34 : q_dec 49 34 = some (10, .aload_n 0, 1) := by decide +kernel
theorem i_49_35 : q_dec 49 35 = some (10, .getfield 22, 3) := by decide +kernel
theorem i_49_38 : q_dec 49 38 = some (10, .iconst 4, 1) := by decide +kernel
theorem i_49_39 : q_dec 49 39 = some (10, .imul, 1) := by decide +kernel
theorem i_49_40 : q_dec 49 40 = some (10, .iload_n 2, 1) := by decide +kernel
theorem i_49_41 : q_dec 49 41 = some (10, .iadd, 1) := by decide +kernel
theorem i_49_42 : q_dec 49 42 = some (10, .iconst 0, 1) := by decide +kernel
theorem i_49_43 : q_dec 49 43 = some (10, .iastore, 1) := by decide +kernel
theorem i_49_44 : q_dec 49 44 = some (10, .iinc 2 1, 3) := by decide +kernel
theorem i_49_47 : q_dec 49 47 = some (10, .goto (-22), 3) := by decide +kernel
theorem i_49_50 : q_dec 49 50 = some (10, .iconst 1, 1) := by decide +kernel
theorem i_49_51 : q_dec 49 51 = some (10, .istore_n 2, 1) := by decide +kernel
theorem i_49_52 : q_dec 49 52 = some (10, .iconst 0, 1) := by decide +kernel
theorem i_49_53 : q_dec 49 53 = some (10, .istore_n 3, 1) := by decide +kernel
theorem i_49_54 : q_dec 49 54 = some (10, .iload_n 2, 1) := by decide +kernel
theorem i_49_55 : q_dec 49 55 = some (10, .ifCond .eq (74), 3) := by decide +kernel
theorem i_49_58 : q_dec 49 58 = some (10, .iload_n 3, 1) := by decide +kernel
theorem i_49_59 : q_dec 49 59 = some (10, .bipush 80, 2) := by decide +kernel
theorem i_49_61 : q_dec 49 61 = some (10, .if_icmp .gt (68), 3) := by decide +kernel
theorem i_49_64 : q_dec 49 64 = some (10, .iconst 0, 1) := by decide +kernel
theorem i_49_65 : q_dec 49 65 = some (10, .istore_n 2, 1) := by decide +kernel
theorem i_49_66 : q_dec 49 66 = some (10, .iconst 0, 1) := by decide +kernel
theorem i_49_67 : q_dec 49 67 = some (10, .istore 4, 2) := by decide +kernel
theorem i_49_69 : q_dec 49 69 = some (10, .iload 4, 2) := by decide +kernel
theorem i_49_71 : q_dec 49 71 = some (10, .aload_n 0, 1) := by decide +kernel
theorem i_49_72 : q_dec 49 72 = some (10, .getfield 12, 3) := by decide +kernel
theorem i_49_75 : q_dec 49 75 = some (10, .invokevirtual 71, 3) := by decide +kernel
theorem i_49_78 : q_dec 49 78 = some (10, .if_icmp .ge (45), 3) := by decide +kernel
theorem i_49_81 : q_dec 49 81 = some (10, .iload_n 3, 1) := by decide +kernel
theorem i_49_82 : q_dec 49 82 = some (10, .iconst 2, 1) := by decide +kernel
theorem i_49_83 : q_dec 49 83 = some (10, .irem, 1) := by decide +kernel
theorem i_49_84 : q_dec 49 84 = some (10, .ifCond .ne (8), 3) := by decide +kernel
theorem i_49_87 : q_dec 49 87 = some (10, .iload 4, 2) := by decide +kernel
theorem i_49_89 : q_dec 49 89 = some (10, .goto 15, 3) := by decide +kernel
theorem i_49_92 : q_dec 49 92 = some (10, .aload_n 0, 1) := by decide +kernel
theorem i_49_93 : q_dec 49 93 = some (10, .getfield 12, 3) := by decide +kernel
theorem i_49_96 : q_dec 49 96 = some (10, .invokevirtual 71, 3) := by decide +kernel
theorem i_49_99 : q_dec 49 99 = some (10, .iconst 1, 1) := by decide +kernel
theorem i_49_100 : q_dec 49 100 = some (10, .isub, 1) := by decide +kernel
theorem i_49_101 : q_dec 49 101 = some (10, .iload 4, 2) := by decide +kernel
theorem i_49_103 : q_dec 49 103 = some (10, .isub, 1) := by decide +kernel
theorem i_49_104 : q_dec 49 104 = some (10, .istore 5, 2) := by decide +kernel
theorem i_49_106 : q_dec 49 106 = some (10, .aload_n 0, 1) := by decide +kernel
theorem i_49_107 : q_dec 49 107 = some (10, .iload 5, 2) := by decide +kernel
theorem i_49_109 : q_dec 49 109 = some (10, .invokevirtual 75, 3) := by decide +kernel
theorem i_49_112 : q_dec 49 112 = some (10, .ifCond .eq (5), 3) := by decide +kernel
theorem i_49_115 : q_dec 49 115 = some (10, .iconst 1, 1) := by decide +kernel
theorem i_49_116 : q_dec 49 116 = some (10, .istore_n 2, 1) := by decide +kernel
theorem i_49_117 : q_dec 49 117 = some (10, .iinc 4 1, 3) := by decide +kernel
theorem i_49_120 : q_dec 49 120 = some (10, .goto (-51), 3) := by decide +kernel
theorem i_49_123 : q_dec 49 123 = some (10, .iinc 3 1, 3) := by decide +kernel
theorem i_49_126 : q_dec 49 126 = some (10, .goto (-72), 3) := by decide +kernel
theorem i_49_129 : q_dec 49 129 = some (10, .return_, 1) := by decide +kernel
theorem i_50_0 : q_dec 50 0 = some (10, .iload_n 1, 1) := by decide +kernel
theorem i_50_1 : q_dec 50 1 = some (10, .aload_n 0, 1) := by decide +kernel
theorem i_50_2 : q_dec 50 2 = some (10, .getfield 22, 3) := by decide +kernel
theorem i_50_5 : q_dec 50 5 = some (10, .if_icmp .eq (14), 3) := by decide +kernel
theorem i_50_8 : q_dec 50 8 = some (10, .aload_n 0, 1) := by decide +kernel
theorem i_50_9 : q_dec 50 9 = some (10, .getfield 12, 3) := by decide +kernel
