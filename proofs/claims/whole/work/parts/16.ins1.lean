theorem i_50_12 : q_dec 50 12 = some (10, .iload_n 1, 1) := by decide +kernel
theorem i_50_13 : q_dec 50 13 = some (10, .invokevirtual 79, 3) := by decide +kernel
theorem i_50_16 : q_dec 50 16 = some (10, .ifCond .ne (5), 3) := by decide +kernel
theorem i_50_19 : q_dec 50 19 = some (10, .iconst 0, 1) := by decide +kernel
theorem i_50_20 : q_dec 50 20 = some (10, .ireturn, 1) := by decide +kernel
theorem i_50_21 : q_dec 50 21 = some (10, .iconst 0, 1) := by decide +kernel
theorem i_50_22 : q_dec 50 22 = some (10, .istore_n 2, 1) := by decide +kernel
theorem i_50_23 : q_dec 50 23 = some (10, .iconst 0, 1) := by decide +kernel
theorem i_50_24 : q_dec 50 24 = some (10, .istore_n 3, 1) := by decide +kernel
theorem i_50_25 : q_dec 50 25 = some (10, .iload_n 3, 1) := by decide +kernel
theorem i_50_26 : q_dec 50 26 = some (10, .iconst 4, 1) := by decide +kernel
theorem i_50_27 : q_dec 50 27 = some (10, .if_icmp .ge (47), 3) := by decide +kernel
theorem i_50_30 : q_dec 50 30 = some (10, .aload_n 0, 1) := by decide +kernel
theorem i_50_31 : q_dec 50 31 = some (10, .iload_n 1, 1) := by decide +kernel
theorem i_50_32 : q_dec 50 32 = some (10, .iload_n 3, 1) := by decide +kernel
theorem i_50_33 : q_dec 50 33 = some (10, .iconst 0, 1) := by decide +kernel
theorem i_50_34 : q_dec 50 34 = some (10, .invokevirtual 82, 3) := by decide +kernel
theorem i_50_37 : q_dec 50 37 = some (10, .istore 4, 2) := by decide +kernel
theorem i_50_39 : q_dec 50 39 = some (10, .iload 4, 2) := by decide +kernel
theorem i_50_41 : q_dec 50 41 = some (10, .aload_n 0, 1) := by decide +kernel
theorem i_50_42 : q_dec 50 42 = some (10, .getfield 33, 3) := by decide +kernel
theorem i_50_45 : q_dec 50 45 = some (10, .iload_n 1, 1) := by decide +kernel
theorem i_50_46 : q_dec 50 46 = some (10, .iconst 4, 1) := by decide +kernel
theorem i_50_47 : q_dec 50 47 = some (10, .imul, 1) := by decide +kernel
theorem i_50_48 : q_dec 50 48 = some (10, .iload_n 3, 1) := by decide +kernel
theorem i_50_49 : q_dec 50 49 = some (10, .iadd, 1) := by decide +kernel
theorem i_50_50 : q_dec 50 50 = some (10, .iaload, 1) := by decide +kernel
theorem i_50_51 : q_dec 50 51 = some (10, .if_icmp .ge (17), 3) := by decide +kernel
theorem i_50_54 : q_dec 50 54 = some (10, .aload_n 0, 1) := by decide +kernel
theorem i_50_55 : q_dec 50 55 = some (10, .getfield 33, 3) := by decide +kernel
theorem i_50_58 : q_dec 50 58 = some (10, .iload_n 1, 1) := by decide +kernel
theorem i_50_59 : q_dec 50 59 = some (10, .iconst 4, 1) := by decide +kernel
theorem i_50_60 : q_dec 50 60 = some (10, .imul, 1) := by decide +kernel
theorem i_50_61 : q_dec 50 61 = some (10, .iload_n 3, 1) := by decide +kernel
theorem i_50_62 : q_dec 50 62 = some (10, .iadd, 1) := by decide +kernel
theorem i_50_63 : q_dec 50 63 = some (10, .iload 4, 2) := by decide +kernel
theorem i_50_65 : q_dec 50 65 = some (10, .iastore, 1) := by decide +kernel
theorem i_50_66 : q_dec 50 66 = some (10, .iconst 1, 1) := by decide +kernel
theorem i_50_67 : q_dec 50 67 = some (10, .istore_n 2, 1) := by decide +kernel
theorem i_50_68 : q_dec 50 68 = some (10, .iinc 3 1, 3) := by decide +kernel
theorem i_50_71 : q_dec 50 71 = some (10, .goto (-46), 3) := by decide +kernel
theorem i_50_74 : q_dec 50 74 = some (10, .iconst 0, 1) := by decide +kernel
theorem i_50_75 : q_dec 50 75 = some (10, .istore_n 3, 1) := by decide +kernel
theorem i_50_76 : q_dec 50 76 = some (10, .iload_n 2, 1) := by decide +kernel
theorem i_50_77 : q_dec 50 77 = some (10, .ifCond .eq (45), 3) := by decide +kernel
theorem i_50_80 : q_dec 50 80 = some (10, .iload_n 3, 1) := by decide +kernel
theorem i_50_81 : q_dec 50 81 = some (10, .iconst 4, 1) := by decide +kernel
theorem i_50_82 : q_dec 50 82 = some (10, .if_icmp .ge (40), 3) := by decide +kernel
theorem i_50_85 : q_dec 50 85 = some (10, .aload_n 0, 1) := by decide +kernel
theorem i_50_86 : q_dec 50 86 = some (10, .getfield 36, 3) := by decide +kernel
theorem i_50_89 : q_dec 50 89 = some (10, .iload_n 1, 1) := by decide +kernel
theorem i_50_90 : q_dec 50 90 = some (10, .iconst 4, 1) := by decide +kernel
theorem i_50_91 : q_dec 50 91 = some (10, .imul, 1) := by decide +kernel
theorem i_50_92 : q_dec 50 92 = some (10, .iload_n 3, 1) := by decide +kernel
theorem i_50_93 : q_dec 50 93 = some (10, .iadd, 1) := by decide +kernel
theorem i_50_94 : q_dec 50 94 = some (10, .aload_n 0, 1) := by decide +kernel
theorem i_50_95 : q_dec 50 95 = some (10, .iload_n 1, 1) := by decide +kernel
theorem i_50_96 : q_dec 50 96 = some (10, .aload_n 0, 1) := by decide +kernel
theorem i_50_97 : q_dec 50 97 = some (10, .getfield 12, 3) := by decide +kernel
theorem i_50_100 : q_dec 50 100 = some (10, .iload_n 1, 1) := by decide +kernel
theorem i_50_101 : q_dec 50 101 = some (10, .invokevirtual 86, 3) := by decide +kernel
theorem i_50_104 : q_dec 50 104 = some (10, .ifCond .eq (7), 3) := by decide +kernel
theorem i_50_107 : q_dec 50 107 = some (10, .iconst (-1), 1) := by decide +kernel
theorem i_50_108 : q_dec 50 108 = some (10, .goto 4, 3) := by decide +kernel
theorem i_50_111 : q_dec 50 111 = some (10, .iload_n 3, 1) := by decide +kernel
theorem i_50_112 : q_dec 50 112 = some (10, .invokevirtual 89, 3) := by decide +kernel
theorem i_50_115 : q_dec 50 115 = some (10, .iastore, 1) := by decide +kernel
theorem i_50_116 : q_dec 50 116 = some (10, .iinc 3 1, 3) := by decide +kernel
theorem i_50_119 : q_dec 50 119 = some (10, .goto (-43), 3) := by decide +kernel
theorem i_50_122 : q_dec 50 122 = some (10, .iload_n 2, 1) := by decide +kernel
theorem i_50_123 : q_dec 50 123 = some (10, .ireturn, 1) := by decide +kernel
theorem i_51_0 : q_dec 51 0 = some (10, .ldc 64, 2) := by decide +kernel
theorem i_51_2 : q_dec 51 2 = some (10, .istore 4, 2) := by decide +kernel
theorem i_51_4 : q_dec 51 4 = some (10, .iload_n 1, 1) := by decide +kernel
theorem i_51_5 : q_dec 51 5 = some (10, .istore 5, 2) := by decide +kernel
theorem i_51_7 : q_dec 51 7 = some (10, .iload_n 3, 1) := by decide +kernel
theorem i_51_8 : q_dec 51 8 = some (10, .iconst 1, 1) := by decide +kernel
theorem i_51_9 : q_dec 51 9 = some (10, .iadd, 1) := by decide +kernel
theorem i_51_10 : q_dec 51 10 = some (10, .istore 6, 2) := by decide +kernel
theorem i_51_12 : q_dec 51 12 = some (10, .iload 6, 2) := by decide +kernel
theorem i_51_14 : q_dec 51 14 = some (10, .iconst 4, 1) := by decide +kernel
theorem i_51_15 : q_dec 51 15 = some (10, .if_icmp .gt (78), 3) := by decide +kernel
theorem i_51_18 : q_dec 51 18 = some (10, .aload_n 0, 1) := by decide +kernel
theorem i_51_19 : q_dec 51 19 = some (10, .getfield 12, 3) := by decide +kernel
theorem i_51_22 : q_dec 51 22 = some (10, .iload 5, 2) := by decide +kernel
theorem i_51_24 : q_dec 51 24 = some (10, .iload_n 2, 1) := by decide +kernel
theorem i_51_25 : q_dec 51 25 = some (10, .invokevirtual 56, 3) := by decide +kernel
theorem i_51_28 : q_dec 51 28 = some (10, .istore 5, 2) := by decide +kernel
theorem i_51_30 : q_dec 51 30 = some (10, .iload 5, 2) := by decide +kernel
theorem i_51_32 : q_dec 51 32 = some (10, .iconst (-1), 1) := by decide +kernel
theorem i_51_33 : q_dec 51 33 = some (10, .if_icmp .ne (6), 3) := by decide +kernel
theorem i_51_36 : q_dec 51 36 = some (10, .goto 57, 3) := by decide +kernel
theorem i_51_39 : q_dec 51 39 = some (10, .iload 4, 2) := by decide +kernel
theorem i_51_41 : q_dec 51 41 = some (10, .aload_n 0, 1) := by decide +kernel
theorem i_51_42 : q_dec 51 42 = some (10, .getfield 30, 3) := by decide +kernel
theorem i_51_45 : q_dec 51 45 = some (10, .iload 6, 2) := by decide +kernel
theorem i_51_47 : q_dec 51 47 = some (10, .iaload, 1) := by decide +kernel
theorem i_51_48 : q_dec 51 48 = some (10, .aload_n 0, 1) := by decide +kernel
theorem i_51_49 : q_dec 51 49 = some (10, .getfield 30, 3) := by decide +kernel
theorem i_51_52 : q_dec 51 52 = some (10, .iload_n 3, 1) := by decide +kernel
theorem i_51_53 : q_dec 51 53 = some (10, .iaload, 1) := by decide +kernel
theorem i_51_54 : q_dec 51 54 = some (10, .isub, 1) := by decide +kernel
theorem i_51_55 : q_dec 51 55 = some (10, .aload_n 0, 1) := by decide +kernel
theorem i_51_56 : q_dec 51 56 = some (10, .getfield 36, 3) := by decide +kernel
theorem i_51_59 : q_dec 51 59 = some (10, .iload 5, 2) := by decide +kernel
theorem i_51_61 : q_dec 51 61 = some (10, .iconst 4, 1) := by decide +kernel
theorem i_51_62 : q_dec 51 62 = some (10, .imul, 1) := by decide +kernel
theorem i_51_63 : q_dec 51 63 = some (10, .iload_n 2, 1) := by decide +kernel
theorem i_51_64 : q_dec 51 64 = some (10, .iadd, 1) := by decide +kernel
theorem i_51_65 : q_dec 51 65 = some (10, .iaload, 1) := by decide +kernel
theorem i_51_66 : q_dec 51 66 = some (10, .iadd, 1) := by decide +kernel
theorem i_51_67 : q_dec 51 67 = some (10, .invokestatic 92, 3) := by decide +kernel
theorem i_51_70 : q_dec 51 70 = some (10, .istore 4, 2) := by decide +kernel
theorem i_51_72 : q_dec 51 72 = some (10, .aload_n 0, 1) := by decide +kernel
theorem i_51_73 : q_dec 51 73 = some (10, .getfield 12, 3) := by decide +kernel
theorem i_51_76 : q_dec 51 76 = some (10, .iload 5, 2) := by decide +kernel
theorem i_51_78 : q_dec 51 78 = some (10, .invokevirtual 86, 3) := by decide +kernel
theorem i_51_81 : q_dec 51 81 = some (10, .ifCond .eq (6), 3) := by decide +kernel
theorem i_51_84 : q_dec 51 84 = some (10, .goto 9, 3) := by decide +kernel
theorem i_51_87 : q_dec 51 87 = some (10, .iinc 6 1, 3) := by decide +kernel
theorem i_51_90 : q_dec 51 90 = some (10, .goto (-78), 3) := by decide +kernel
theorem i_51_93 : q_dec 51 93 = some (10, .iload 4, 2) := by decide +kernel
theorem i_51_95 : q_dec 51 95 = some (10, .ireturn, 1) := by decide +kernel
theorem i_52_0 : q_dec 52 0 = some (10, .ldc 64, 2) := by decide +kernel
theorem i_52_2 : q_dec 52 2 = some (10, .istore_n 3, 1) := by decide +kernel
theorem i_52_3 : q_dec 52 3 = some (10, .iconst 0, 1) := by decide +kernel
theorem i_52_4 : q_dec 52 4 = some (10, .istore 4, 2) := by decide +kernel
theorem i_52_6 : q_dec 52 6 = some (10, .iload 4, 2) := by decide +kernel
theorem i_52_8 : q_dec 52 8 = some (10, .iconst 4, 1) := by decide +kernel
theorem i_52_9 : q_dec 52 9 = some (10, .if_icmp .ge (31), 3) := by decide +kernel
theorem i_52_12 : q_dec 52 12 = some (10, .iload 4, 2) := by decide +kernel
theorem i_52_14 : q_dec 52 14 = some (10, .iload_n 2, 1) := by decide +kernel
theorem i_52_15 : q_dec 52 15 = some (10, .if_icmp .eq (19), 3) := by decide +kernel
theorem i_52_18 : q_dec 52 18 = some (10, .iload_n 3, 1) := by decide +kernel
theorem i_52_19 : q_dec 52 19 = some (10, .aload_n 0, 1) := by decide +kernel
theorem i_52_20 : q_dec 52 20 = some (10, .getfield 33, 3) := by decide +kernel
theorem i_52_23 : q_dec 52 23 = some (10, .iload_n 1, 1) := by decide +kernel
theorem i_52_24 : q_dec 52 24 = some (10, .iconst 4, 1) := by decide +kernel
theorem i_52_25 : q_dec 52 25 = some (10, .imul, 1) := by decide +kernel
theorem i_52_26 : q_dec 52 26 = some (10, .iload 4, 2) := by decide +kernel
theorem i_52_28 : q_dec 52 28 = some (10, .iadd, 1) := by decide +kernel
theorem i_52_29 : q_dec 52 29 = some (10, .iaload, 1) := by decide +kernel
theorem i_52_30 : q_dec 52 30 = some (10, .invokestatic 92, 3) := by decide +kernel
theorem i_52_33 : q_dec 52 33 = some (10, .istore_n 3, 1) := by decide +kernel
theorem i_52_34 : q_dec 52 34 = some (10, .iinc 4 1, 3) := by decide +kernel
theorem i_52_37 : q_dec 52 37 = some (10, .goto (-31), 3) := by decide +kernel
theorem i_52_40 : q_dec 52 40 = some (10, .iload_n 3, 1) := by decide +kernel
theorem i_52_41 : q_dec 52 41 = some (10, .ireturn, 1) := by decide +kernel
theorem i_53_0 : q_dec 53 0 = some (10, .iload_n 1, 1) := by decide +kernel
theorem i_53_1 : q_dec 53 1 = some (10, .aload_n 0, 1) := by decide +kernel
theorem i_53_2 : q_dec 53 2 = some (10, .getfield 22, 3) := by decide +kernel
theorem i_53_5 : q_dec 53 5 = some (10, .if_icmp .ne (7), 3) := by decide +kernel
theorem i_53_8 : q_dec 53 8 = some (10, .iconst 0, 1) := by decide +kernel
theorem i_53_9 : q_dec 53 9 = some (10, .goto 9, 3) := by decide +kernel
theorem i_53_12 : q_dec 53 12 = some (10, .aload_n 0, 1) := by decide +kernel
theorem i_53_13 : q_dec 53 13 = some (10, .iload_n 1, 1) := by decide +kernel
theorem i_53_14 : q_dec 53 14 = some (10, .iconst (-1), 1) := by decide +kernel
theorem i_53_15 : q_dec 53 15 = some (10, .invokevirtual 89, 3) := by decide +kernel
theorem i_53_18 : q_dec 53 18 = some (10, .ireturn, 1) := by decide +kernel
theorem i_54_0 : q_dec 54 0 = some (10, .iload_n 0, 1) := by decide +kernel
theorem i_54_1 : q_dec 54 1 = some (10, .sipush 1024, 3) := by decide +kernel
theorem i_54_4 : q_dec 54 4 = some (10, .idiv, 1) := by decide +kernel
theorem i_54_5 : q_dec 54 5 = some (10, .ireturn, 1) := by decide +kernel
theorem i_55_0 : q_dec 55 0 = some (10, .iload_n 0, 1) := by decide +kernel
theorem i_55_1 : q_dec 55 1 = some (10, .sipush 1024, 3) := by decide +kernel
theorem i_55_4 : q_dec 55 4 = some (10, .irem, 1) := by decide +kernel
theorem i_55_5 : q_dec 55 5 = some (10, .ireturn, 1) := by decide +kernel
theorem i_56_0 : q_dec 56 0 = some (10, .iload_n 1, 1) := by decide +kernel
theorem i_56_1 : q_dec 56 1 = some (10, .istore_n 3, 1) := by decide +kernel
theorem i_56_2 : q_dec 56 2 = some (10, .iconst (-1), 1) := by decide +kernel
theorem i_56_3 : q_dec 56 3 = some (10, .istore 4, 2) := by decide +kernel
theorem i_56_5 : q_dec 56 5 = some (10, .iconst 0, 1) := by decide +kernel
theorem i_56_6 : q_dec 56 6 = some (10, .istore 5, 2) := by decide +kernel
theorem i_56_8 : q_dec 56 8 = some (10, .aload_n 0, 1) := by decide +kernel
theorem i_56_9 : q_dec 56 9 = some (10, .iload_n 1, 1) := by decide +kernel
theorem i_56_10 : q_dec 56 10 = some (10, .invokevirtual 97, 3) := by decide +kernel
theorem i_56_13 : q_dec 56 13 = some (10, .istore 6, 2) := by decide +kernel
theorem i_56_15 : q_dec 56 15 = some (10, .iconst 0, 1) := by decide +kernel
theorem i_56_16 : q_dec 56 16 = some (10, .istore 7, 2) := by decide +kernel
theorem i_56_18 : q_dec 56 18 = some (10, .iload 7, 2) := by decide +kernel
theorem i_56_20 : q_dec 56 20 = some (10, .iload_n 2, 1) := by decide +kernel
theorem i_56_21 : q_dec 56 21 = some (10, .if_icmp .gt (85), 3) := by decide +kernel
theorem i_56_24 : q_dec 56 24 = some (10, .iload 7, 2) := by decide +kernel
theorem i_56_26 : q_dec 56 26 = some (10, .sipush 1024, 3) := by decide +kernel
theorem i_56_29 : q_dec 56 29 = some (10, .if_icmp .ge (77), 3) := by decide +kernel
theorem i_56_32 : q_dec 56 32 = some (10, .aload_n 0, 1) := by decide +kernel
theorem i_56_33 : q_dec 56 33 = some (10, .iload_n 3, 1) := by decide +kernel
theorem i_56_34 : q_dec 56 34 = some (10, .iload 4, 2) := by decide +kernel
theorem i_56_36 : q_dec 56 36 = some (10, .iload 5, 2) := by decide +kernel
theorem i_56_38 : q_dec 56 38 = some (10, .iload 6, 2) := by decide +kernel
theorem i_56_40 : q_dec 56 40 = some (10, .invokevirtual 111, 3) := by decide +kernel
theorem i_56_43 : q_dec 56 43 = some (10, .istore 8, 2) := by decide +kernel
theorem i_56_45 : q_dec 56 45 = some (10, .aload_n 0, 1) := by decide +kernel
theorem i_56_46 : q_dec 56 46 = some (10, .getfield 12, 3) := by decide +kernel
theorem i_56_49 : q_dec 56 49 = some (10, .iload_n 3, 1) := by decide +kernel
theorem i_56_50 : q_dec 56 50 = some (10, .iload 4, 2) := by decide +kernel
theorem i_56_52 : q_dec 56 52 = some (10, .iload 5, 2) := by decide +kernel
theorem i_56_54 : q_dec 56 54 = some (10, .iload 8, 2) := by decide +kernel
theorem i_56_56 : q_dec 56 56 = some (10, .invokevirtual 60, 3) := by decide +kernel
theorem i_56_59 : q_dec 56 59 = some (10, .istore 5, 2) := by decide +kernel
theorem i_56_61 : q_dec 56 61 = some (10, .iload 6, 2) := by decide +kernel
theorem i_56_63 : q_dec 56 63 = some (10, .aload_n 0, 1) := by decide +kernel
theorem i_56_64 : q_dec 56 64 = some (10, .getfield 12, 3) := by decide +kernel
theorem i_56_67 : q_dec 56 67 = some (10, .iload 5, 2) := by decide +kernel
theorem i_56_69 : q_dec 56 69 = some (10, .aload_n 0, 1) := by decide +kernel
theorem i_56_70 : q_dec 56 70 = some (10, .getfield 18, 3) := by decide +kernel
theorem i_56_73 : q_dec 56 73 = some (10, .invokevirtual 51, 3) := by decide +kernel
theorem i_56_76 : q_dec 56 76 = some (10, .sipush 1024, 3) := by decide +kernel
theorem i_56_79 : q_dec 56 79 = some (10, .imul, 1) := by decide +kernel
theorem i_56_80 : q_dec 56 80 = some (10, .iconst 1, 1) := by decide +kernel
theorem i_56_81 : q_dec 56 81 = some (10, .iadd, 1) := by decide +kernel
theorem i_56_82 : q_dec 56 82 = some (10, .isub, 1) := by decide +kernel
theorem i_56_83 : q_dec 56 83 = some (10, .istore 6, 2) := by decide +kernel
theorem i_56_85 : q_dec 56 85 = some (10, .iload 8, 2) := by decide +kernel
theorem i_56_87 : q_dec 56 87 = some (10, .istore 4, 2) := by decide +kernel
theorem i_56_89 : q_dec 56 89 = some (10, .aload_n 0, 1) := by decide +kernel
theorem i_56_90 : q_dec 56 90 = some (10, .getfield 12, 3) := by decide +kernel
theorem i_56_93 : q_dec 56 93 = some (10, .iload_n 3, 1) := by decide +kernel
theorem i_56_94 : q_dec 56 94 = some (10, .iload 8, 2) := by decide +kernel
theorem i_56_96 : q_dec 56 96 = some (10, .invokevirtual 56, 3) := by decide +kernel
theorem i_56_99 : q_dec 56 99 = some (10, .istore_n 3, 1) := by decide +kernel
theorem i_56_100 : q_dec 56 100 = some (10, .iinc 7 1, 3) := by decide +kernel
theorem i_56_103 : q_dec 56 103 = some (10, .goto (-85), 3) := by decide +kernel
theorem i_56_106 : q_dec 56 106 = some (10, .iload 4, 2) := by decide +kernel
theorem i_56_108 : q_dec 56 108 = some (10, .ireturn, 1) := by decide +kernel
theorem i_57_0 : q_dec 57 0 = some (10, .iconst 0, 1) := by decide +kernel
theorem i_57_1 : q_dec 57 1 = some (10, .istore 5, 2) := by decide +kernel
theorem i_57_3 : q_dec 57 3 = some (10, .iload 5, 2) := by decide +kernel
theorem i_57_5 : q_dec 57 5 = some (10, .iconst 4, 1) := by decide +kernel
theorem i_57_6 : q_dec 57 6 = some (10, .if_icmp .ge (38), 3) := by decide +kernel
theorem i_57_9 : q_dec 57 9 = some (10, .aload_n 0, 1) := by decide +kernel
theorem i_57_10 : q_dec 57 10 = some (10, .iload_n 1, 1) := by decide +kernel
theorem i_57_11 : q_dec 57 11 = some (10, .iload 5, 2) := by decide +kernel
theorem i_57_13 : q_dec 57 13 = some (10, .aload_n 0, 1) := by decide +kernel
theorem i_57_14 : q_dec 57 14 = some (10, .getfield 12, 3) := by decide +kernel
theorem i_57_17 : q_dec 57 17 = some (10, .iload_n 1, 1) := by decide +kernel
theorem i_57_18 : q_dec 57 18 = some (10, .iload_n 2, 1) := by decide +kernel
theorem i_57_19 : q_dec 57 19 = some (10, .iload_n 3, 1) := by decide +kernel
theorem i_57_20 : q_dec 57 20 = some (10, .iload 5, 2) := by decide +kernel
theorem i_57_22 : q_dec 57 22 = some (10, .invokevirtual 60, 3) := by decide +kernel
theorem i_57_25 : q_dec 57 25 = some (10, .iconst 1, 1) := by decide +kernel
theorem i_57_26 : q_dec 57 26 = some (10, .isub, 1) := by decide +kernel
theorem i_57_27 : q_dec 57 27 = some (10, .invokevirtual 82, 3) := by decide +kernel
theorem i_57_30 : q_dec 57 30 = some (10, .iload 4, 2) := by decide +kernel
theorem i_57_32 : q_dec 57 32 = some (10, .if_icmp .ne (6), 3) := by decide +kernel
theorem i_57_35 : q_dec 57 35 = some (10, .iload 5, 2) := by decide +kernel
theorem i_57_37 : q_dec 57 37 = some (10, .ireturn, 1) := by decide +kernel
theorem i_57_38 : q_dec 57 38 = some (10, .iinc 5 1, 3) := by decide +kernel
theorem i_57_41 : q_dec 57 41 = some (10, .goto (-38), 3) := by decide +kernel
theorem i_57_44 : q_dec 57 44 = some (10, .bipush (-9), 2) := by decide +kernel
theorem i_57_46 : q_dec 57 46 = some (10, .ireturn, 1) := by decide +kernel
theorem i_58_0 : q_dec 58 0 = some (10, .aload_n 0, 1) := by decide +kernel
theorem i_58_1 : q_dec 58 1 = some (10, .iload_n 2, 1) := by decide +kernel
theorem i_58_2 : q_dec 58 2 = some (10, .invokevirtual 104, 3) := by decide +kernel
theorem i_58_5 : q_dec 58 5 = some (10, .aload_n 0, 1) := by decide +kernel
theorem i_58_6 : q_dec 58 6 = some (10, .iload_n 1, 1) := by decide +kernel
theorem i_58_7 : q_dec 58 7 = some (10, .invokevirtual 108, 3) := by decide +kernel
theorem i_58_10 : q_dec 58 10 = some (10, .ireturn, 1) := by decide +kernel
theorem i_59_0 : q_dec 59 0 = some (10, .aload_n 0, 1) := by decide +kernel
theorem i_59_1 : q_dec 59 1 = some (10, .iload_n 1, 1) := by decide +kernel
theorem i_59_2 : q_dec 59 2 = some (10, .invokevirtual 97, 3) := by decide +kernel
theorem i_59_5 : q_dec 59 5 = some (10, .istore_n 2, 1) := by decide +kernel
theorem i_59_6 : q_dec 59 6 = some (10, .iload_n 2, 1) := by decide +kernel
theorem i_59_7 : q_dec 59 7 = some (10, .ldc 64, 2) := by decide +kernel
theorem i_59_9 : q_dec 59 9 = some (10, .if_icmp .ge (10), 3) := by decide +kernel
theorem i_59_12 : q_dec 59 12 = some (10, .iload_n 2, 1) := by decide +kernel
theorem i_59_13 : q_dec 59 13 = some (10, .invokestatic 101, 3) := by decide +kernel
theorem i_59_16 : q_dec 59 16 = some (10, .goto 5, 3) := by decide +kernel
theorem i_59_19 : q_dec 59 19 = some (10, .ldc 64, 2) := by decide +kernel
theorem i_59_21 : q_dec 59 21 = some (10, .ireturn, 1) := by decide +kernel
theorem i_60_0 : q_dec 60 0 = some (10, .iload_n 1, 1) := by decide +kernel
theorem i_60_1 : q_dec 60 1 = some (10, .iconst 5, 1) := by decide +kernel
theorem i_60_2 : q_dec 60 2 = some (10, .irem, 1) := by decide +kernel
theorem i_60_3 : q_dec 60 3 = some (10, .bipush 80, 2) := by decide +kernel
theorem i_60_5 : q_dec 60 5 = some (10, .imul, 1) := by decide +kernel
theorem i_60_6 : q_dec 60 6 = some (10, .istore 4, 2) := by decide +kernel
theorem i_60_8 : q_dec 60 8 = some (10, .iload_n 1, 1) := by decide +kernel
theorem i_60_9 : q_dec 60 9 = some (10, .ifCond .ne (42), 3) := by decide +kernel
theorem i_60_12 : q_dec 60 12 = some (10, .aload_n 0, 1) := by decide +kernel
theorem i_60_13 : q_dec 60 13 = some (10, .getfield 39, 3) := by decide +kernel
theorem i_60_16 : q_dec 60 16 = some (10, .ldc 64, 2) := by decide +kernel
theorem i_60_18 : q_dec 60 18 = some (10, .invokestatic 65, 3) := by decide +kernel
theorem i_60_21 : q_dec 60 21 = some (10, .iconst 0, 1) := by decide +kernel
theorem i_60_22 : q_dec 60 22 = some (10, .istore 5, 2) := by decide +kernel
theorem i_60_24 : q_dec 60 24 = some (10, .iload 5, 2) := by decide +kernel
theorem i_60_26 : q_dec 60 26 = some (10, .iconst 4, 1) := by decide +kernel
theorem i_60_27 : q_dec 60 27 = some (10, .if_icmp .ge (21), 3) := by decide +kernel
theorem i_60_30 : q_dec 60 30 = some (10, .aload_n 0, 1) := by decide +kernel
theorem i_60_31 : q_dec 60 31 = some (10, .getfield 39, 3) := by decide +kernel
theorem i_60_34 : q_dec 60 34 = some (10, .iload_n 2, 1) := by decide +kernel
theorem i_60_35 : q_dec 60 35 = some (10, .iconst 4, 1) := by decide +kernel
theorem i_60_36 : q_dec 60 36 = some (10, .imul, 1) := by decide +kernel
theorem i_60_37 : q_dec 60 37 = some (10, .iload 5, 2) := by decide +kernel
theorem i_60_39 : q_dec 60 39 = some (10, .iadd, 1) := by decide +kernel
theorem i_60_40 : q_dec 60 40 = some (10, .iconst 0, 1) := by decide +kernel
theorem i_60_41 : q_dec 60 41 = some (10, .iastore, 1) := by decide +kernel
theorem i_60_42 : q_dec 60 42 = some (10, .iinc 5 1, 3) := by decide +kernel
theorem i_60_45 : q_dec 60 45 = some (10, .goto (-21), 3) := by decide +kernel
theorem i_60_48 : q_dec 60 48 = some (10, .goto 49, 3) := by decide +kernel
theorem i_60_51 : q_dec 60 51 = some (10, .iconst 0, 1) := by decide +kernel
theorem i_60_52 : q_dec 60 52 = some (10, .istore 5, 2) := by decide +kernel
theorem i_60_54 : q_dec 60 54 = some (10, .iload 5, 2) := by decide +kernel
theorem i_60_56 : q_dec 60 56 = some (10, .aload_n 0, 1) := by decide +kernel
theorem i_60_57 : q_dec 60 57 = some (10, .getfield 12, 3) := by decide +kernel
theorem i_60_60 : q_dec 60 60 = some (10, .invokevirtual 71, 3) := by decide +kernel
theorem i_60_63 : q_dec 60 63 = some (10, .iconst 4, 1) := by decide +kernel
theorem i_60_64 : q_dec 60 64 = some (10, .imul, 1) := by decide +kernel
theorem i_60_65 : q_dec 60 65 = some (10, .if_icmp .ge (32), 3) := by decide +kernel
theorem i_60_68 : q_dec 60 68 = some (10, .aload_n 0, 1) := by decide +kernel
theorem i_60_69 : q_dec 60 69 = some (10, .getfield 39, 3) := by decide +kernel
theorem i_60_72 : q_dec 60 72 = some (10, .iload 4, 2) := by decide +kernel
theorem i_60_74 : q_dec 60 74 = some (10, .iload 5, 2) := by decide +kernel
theorem i_60_76 : q_dec 60 76 = some (10, .iadd, 1) := by decide +kernel
theorem i_60_77 : q_dec 60 77 = some (10, .aload_n 0, 1) := by decide +kernel
theorem i_60_78 : q_dec 60 78 = some (10, .iload_n 1, 1) := by decide +kernel
theorem i_60_79 : q_dec 60 79 = some (10, .iload 5, 2) := by decide +kernel
theorem i_60_81 : q_dec 60 81 = some (10, .iconst 4, 1) := by decide +kernel
theorem i_60_82 : q_dec 60 82 = some (10, .idiv, 1) := by decide +kernel
theorem i_60_83 : q_dec 60 83 = some (10, .iload 5, 2) := by decide +kernel
theorem i_60_85 : q_dec 60 85 = some (10, .iconst 4, 1) := by decide +kernel
theorem i_60_86 : q_dec 60 86 = some (10, .irem, 1) := by decide +kernel
theorem i_60_87 : q_dec 60 87 = some (10, .invokevirtual 114, 3) := by decide +kernel
theorem i_60_90 : q_dec 60 90 = some (10, .iastore, 1) := by decide +kernel
theorem i_60_91 : q_dec 60 91 = some (10, .iinc 5 1, 3) := by decide +kernel
theorem i_60_94 : q_dec 60 94 = some (10, .goto (-40), 3) := by decide +kernel
theorem i_60_97 : q_dec 60 97 = some (10, .aload_n 0, 1) := by decide +kernel
theorem i_60_98 : q_dec 60 98 = some (10, .iload_n 1, 1) := by decide +kernel
theorem i_60_99 : q_dec 60 99 = some (10, .iload_n 3, 1) := by decide +kernel
theorem i_60_100 : q_dec 60 100 = some (10, .iconst (-1), 1) := by decide +kernel
theorem i_60_101 : q_dec 60 101 = some (10, .invokevirtual 117, 3) := by decide +kernel
theorem i_60_104 : q_dec 60 104 = some (10, .ireturn, 1) := by decide +kernel
theorem i_61_0 : q_dec 61 0 = some (10, .ldc 64, 2) := by decide +kernel
theorem i_61_2 : q_dec 61 2 = some (10, .istore 4, 2) := by decide +kernel
theorem i_61_4 : q_dec 61 4 = some (10, .iload_n 2, 1) := by decide +kernel
theorem i_61_5 : q_dec 61 5 = some (10, .istore 5, 2) := by decide +kernel
theorem i_61_7 : q_dec 61 7 = some (10, .iconst 1, 1) := by decide +kernel
theorem i_61_8 : q_dec 61 8 = some (10, .istore 6, 2) := by decide +kernel
theorem i_61_10 : q_dec 61 10 = some (10, .iload 6, 2) := by decide +kernel
theorem i_61_12 : q_dec 61 12 = some (10, .iconst 4, 1) := by decide +kernel
theorem i_61_13 : q_dec 61 13 = some (10, .if_icmp .gt (81), 3) := by decide +kernel
theorem i_61_16 : q_dec 61 16 = some (10, .iload 6, 2) := by decide +kernel
theorem i_61_18 : q_dec 61 18 = some (10, .iload_n 1, 1) := by decide +kernel
theorem i_61_19 : q_dec 61 19 = some (10, .if_icmp .gt (75), 3) := by decide +kernel
theorem i_61_22 : q_dec 61 22 = some (10, .aload_n 0, 1) := by decide +kernel
theorem i_61_23 : q_dec 61 23 = some (10, .getfield 12, 3) := by decide +kernel
theorem i_61_26 : q_dec 61 26 = some (10, .iload 5, 2) := by decide +kernel
theorem i_61_28 : q_dec 61 28 = some (10, .iload_n 3, 1) := by decide +kernel
theorem i_61_29 : q_dec 61 29 = some (10, .iconst 2, 1) := by decide +kernel
theorem i_61_30 : q_dec 61 30 = some (10, .iadd, 1) := by decide +kernel
theorem i_61_31 : q_dec 61 31 = some (10, .iconst 4, 1) := by decide +kernel
theorem i_61_32 : q_dec 61 32 = some (10, .irem, 1) := by decide +kernel
theorem i_61_33 : q_dec 61 33 = some (10, .invokevirtual 56, 3) := by decide +kernel
theorem i_61_36 : q_dec 61 36 = some (10, .istore 5, 2) := by decide +kernel
theorem i_61_38 : q_dec 61 38 = some (10, .iload 5, 2) := by decide +kernel
theorem i_61_40 : q_dec 61 40 = some (10, .iconst (-1), 1) := by decide +kernel
theorem i_61_41 : q_dec 61 41 = some (10, .if_icmp .ne (6), 3) := by decide +kernel
theorem i_61_44 : q_dec 61 44 = some (10, .goto 50, 3) := by decide +kernel
theorem i_61_47 : q_dec 61 47 = some (10, .iload 4, 2) := by decide +kernel
theorem i_61_49 : q_dec 61 49 = some (10, .aload_n 0, 1) := by decide +kernel
theorem i_61_50 : q_dec 61 50 = some (10, .iload_n 1, 1) := by decide +kernel
theorem i_61_51 : q_dec 61 51 = some (10, .iload 6, 2) := by decide +kernel
theorem i_61_53 : q_dec 61 53 = some (10, .isub, 1) := by decide +kernel
theorem i_61_54 : q_dec 61 54 = some (10, .iload 5, 2) := by decide +kernel
theorem i_61_56 : q_dec 61 56 = some (10, .iload_n 3, 1) := by decide +kernel
theorem i_61_57 : q_dec 61 57 = some (10, .invokevirtual 117, 3) := by decide +kernel
theorem i_61_60 : q_dec 61 60 = some (10, .aload_n 0, 1) := by decide +kernel
theorem i_61_61 : q_dec 61 61 = some (10, .getfield 26, 3) := by decide +kernel
theorem i_61_64 : q_dec 61 64 = some (10, .iload 6, 2) := by decide +kernel
theorem i_61_66 : q_dec 61 66 = some (10, .iaload, 1) := by decide +kernel
theorem i_61_67 : q_dec 61 67 = some (10, .iadd, 1) := by decide +kernel
theorem i_61_68 : q_dec 61 68 = some (10, .invokestatic 92, 3) := by decide +kernel
theorem i_61_71 : q_dec 61 71 = some (10, .istore 4, 2) := by decide +kernel
theorem i_61_73 : q_dec 61 73 = some (10, .aload_n 0, 1) := by decide +kernel
theorem i_61_74 : q_dec 61 74 = some (10, .getfield 12, 3) := by decide +kernel
theorem i_61_77 : q_dec 61 77 = some (10, .iload 5, 2) := by decide +kernel
theorem i_61_79 : q_dec 61 79 = some (10, .invokevirtual 86, 3) := by decide +kernel
theorem i_61_82 : q_dec 61 82 = some (10, .ifCond .eq (6), 3) := by decide +kernel
theorem i_61_85 : q_dec 61 85 = some (10, .goto 9, 3) := by decide +kernel
theorem i_61_88 : q_dec 61 88 = some (10, .iinc 6 1, 3) := by decide +kernel
theorem i_61_91 : q_dec 61 91 = some (10, .goto (-81), 3) := by decide +kernel
theorem i_61_94 : q_dec 61 94 = some (10, .iload 4, 2) := by decide +kernel
theorem i_61_96 : q_dec 61 96 = some (10, .ireturn, 1) := by decide +kernel
theorem i_62_0 : q_dec 62 0 = some (10, .iload_n 1, 1) := by decide +kernel
theorem i_62_1 : q_dec 62 1 = some (10, .iconst 5, 1) := by decide +kernel
theorem i_62_2 : q_dec 62 2 = some (10, .irem, 1) := by decide +kernel
theorem i_62_3 : q_dec 62 3 = some (10, .bipush 80, 2) := by decide +kernel
theorem i_62_5 : q_dec 62 5 = some (10, .imul, 1) := by decide +kernel
theorem i_62_6 : q_dec 62 6 = some (10, .iload_n 2, 1) := by decide +kernel
theorem i_62_7 : q_dec 62 7 = some (10, .iconst 4, 1) := by decide +kernel
theorem i_62_8 : q_dec 62 8 = some (10, .imul, 1) := by decide +kernel
theorem i_62_9 : q_dec 62 9 = some (10, .iadd, 1) := by decide +kernel
theorem i_62_10 : q_dec 62 10 = some (10, .istore 4, 2) := by decide +kernel
theorem i_62_12 : q_dec 62 12 = some (10, .ldc 64, 2) := by decide +kernel
theorem i_62_14 : q_dec 62 14 = some (10, .istore 5, 2) := by decide +kernel
theorem i_62_16 : q_dec 62 16 = some (10, .iconst 0, 1) := by decide +kernel
theorem i_62_17 : q_dec 62 17 = some (10, .istore 6, 2) := by decide +kernel
theorem i_62_19 : q_dec 62 19 = some (10, .iload 6, 2) := by decide +kernel
theorem i_62_21 : q_dec 62 21 = some (10, .iconst 4, 1) := by decide +kernel
theorem i_62_22 : q_dec 62 22 = some (10, .if_icmp .ge (43), 3) := by decide +kernel
theorem i_62_25 : q_dec 62 25 = some (10, .iload 6, 2) := by decide +kernel
theorem i_62_27 : q_dec 62 27 = some (10, .iload_n 3, 1) := by decide +kernel
theorem i_62_28 : q_dec 62 28 = some (10, .if_icmp .ne (14), 3) := by decide +kernel
theorem i_62_31 : q_dec 62 31 = some (10, .aload_n 0, 1) := by decide +kernel
theorem i_62_32 : q_dec 62 32 = some (10, .getfield 12, 3) := by decide +kernel
theorem i_62_35 : q_dec 62 35 = some (10, .iload_n 2, 1) := by decide +kernel
theorem i_62_36 : q_dec 62 36 = some (10, .invokevirtual 86, 3) := by decide +kernel
theorem i_62_39 : q_dec 62 39 = some (10, .ifCond .eq (20), 3) := by decide +kernel
theorem i_62_42 : q_dec 62 42 = some (10, .iload 5, 2) := by decide +kernel
theorem i_62_44 : q_dec 62 44 = some (10, .aload_n 0, 1) := by decide +kernel
theorem i_62_45 : q_dec 62 45 = some (10, .getfield 39, 3) := by decide +kernel
theorem i_62_48 : q_dec 62 48 = some (10, .iload 4, 2) := by decide +kernel
theorem i_62_50 : q_dec 62 50 = some (10, .iload 6, 2) := by decide +kernel
theorem i_62_52 : q_dec 62 52 = some (10, .iadd, 1) := by decide +kernel
theorem i_62_53 : q_dec 62 53 = some (10, .iaload, 1) := by decide +kernel
theorem i_62_54 : q_dec 62 54 = some (10, .invokestatic 92, 3) := by decide +kernel
theorem i_62_57 : q_dec 62 57 = some (10, .istore 5, 2) := by decide +kernel
theorem i_62_59 : q_dec 62 59 = some (10, .iinc 6 1, 3) := by decide +kernel
theorem i_62_62 : q_dec 62 62 = some (10, .goto (-43), 3) := by decide +kernel
theorem i_62_65 : q_dec 62 65 = some (10, .iload 5, 2) := by decide +kernel
theorem i_62_67 : q_dec 62 67 = some (10, .ireturn, 1) := by decide +kernel
theorem i_63_0 : q_dec 63 0 = some (10, .iconst 0, 1) := by decide +kernel
theorem i_63_1 : q_dec 63 1 = some (10, .istore_n 3, 1) := by decide +kernel
theorem i_63_2 : q_dec 63 2 = some (10, .aload_n 0, 1) := by decide +kernel
theorem i_63_3 : q_dec 63 3 = some (10, .getfield 45, 3) := by decide +kernel
theorem i_63_6 : q_dec 63 6 = some (10, .iconst 0, 1) := by decide +kernel
theorem i_63_7 : q_dec 63 7 = some (10, .iload_n 1, 1) := by decide +kernel
theorem i_63_8 : q_dec 63 8 = some (10, .iastore, 1) := by decide +kernel
theorem i_63_9 : q_dec 63 9 = some (10, .iconst 0, 1) := by decide +kernel
theorem i_63_10 : q_dec 63 10 = some (10, .istore 4, 2) := by decide +kernel
theorem i_63_12 : q_dec 63 12 = some (10, .iload 4, 2) := by decide +kernel
theorem i_63_14 : q_dec 63 14 = some (10, .aload_n 0, 1) := by decide +kernel
theorem i_63_15 : q_dec 63 15 = some (10, .getfield 12, 3) := by decide +kernel
theorem i_63_18 : q_dec 63 18 = some (10, .invokevirtual 71, 3) := by decide +kernel
theorem i_63_21 : q_dec 63 21 = some (10, .if_icmp .ge (34), 3) := by decide +kernel
theorem i_63_24 : q_dec 63 24 = some (10, .iload_n 3, 1) := by decide +kernel
theorem i_63_25 : q_dec 63 25 = some (10, .iconst 4, 1) := by decide +kernel
theorem i_63_26 : q_dec 63 26 = some (10, .if_icmp .ge (29), 3) := by decide +kernel
theorem i_63_29 : q_dec 63 29 = some (10, .iload_n 2, 1) := by decide +kernel
theorem i_63_30 : q_dec 63 30 = some (10, .iload 4, 2) := by decide +kernel
theorem i_63_32 : q_dec 63 32 = some (10, .invokestatic 120, 3) := by decide +kernel
theorem i_63_35 : q_dec 63 35 = some (10, .ifCond .eq (14), 3) := by decide +kernel
theorem i_63_38 : q_dec 63 38 = some (10, .iinc 3 1, 3) := by decide +kernel
theorem i_63_41 : q_dec 63 41 = some (10, .aload_n 0, 1) := by decide +kernel
theorem i_63_42 : q_dec 63 42 = some (10, .getfield 45, 3) := by decide +kernel
theorem i_63_45 : q_dec 63 45 = some (10, .iload_n 3, 1) := by decide +kernel
theorem i_63_46 : q_dec 63 46 = some (10, .iload 4, 2) := by decide +kernel
theorem i_63_48 : q_dec 63 48 = some (10, .iastore, 1) := by decide +kernel
theorem i_63_49 : q_dec 63 49 = some (10, .iinc 4 1, 3) := by decide +kernel
theorem i_63_52 : q_dec 63 52 = some (10, .goto (-40), 3) := by decide +kernel
theorem i_63_55 : q_dec 63 55 = some (10, .iconst 0, 1) := by decide +kernel
theorem i_63_56 : q_dec 63 56 = some (10, .istore 4, 2) := by decide +kernel
theorem i_63_58 : q_dec 63 58 = some (10, .iload 4, 2) := by decide +kernel
theorem i_63_60 : q_dec 63 60 = some (10, .iload_n 3, 1) := by decide +kernel
theorem i_63_61 : q_dec 63 61 = some (10, .if_icmp .gt (72), 3) := by decide +kernel
theorem i_63_64 : q_dec 63 64 = some (10, .aload_n 0, 1) := by decide +kernel
theorem i_63_65 : q_dec 63 65 = some (10, .aload_n 0, 1) := by decide +kernel
theorem i_63_66 : q_dec 63 66 = some (10, .getfield 45, 3) := by decide +kernel
theorem i_63_69 : q_dec 63 69 = some (10, .iload 4, 2) := by decide +kernel
theorem i_63_71 : q_dec 63 71 = some (10, .iaload, 1) := by decide +kernel
theorem i_63_72 : q_dec 63 72 = some (10, .invokevirtual 104, 3) := by decide +kernel
theorem i_63_75 : q_dec 63 75 = some (10, .iconst 0, 1) := by decide +kernel
theorem i_63_76 : q_dec 63 76 = some (10, .istore 5, 2) := by decide +kernel
theorem i_63_78 : q_dec 63 78 = some (10, .iload 5, 2) := by decide +kernel
theorem i_63_80 : q_dec 63 80 = some (10, .iload_n 3, 1) := by decide +kernel
theorem i_63_81 : q_dec 63 81 = some (10, .if_icmp .gt (46), 3) := by decide +kernel
theorem i_63_84 : q_dec 63 84 = some (10, .aload_n 0, 1) := by decide +kernel
theorem i_63_85 : q_dec 63 85 = some (10, .aload_n 0, 1) := by decide +kernel
theorem i_63_86 : q_dec 63 86 = some (10, .getfield 45, 3) := by decide +kernel
theorem i_63_89 : q_dec 63 89 = some (10, .iload 5, 2) := by decide +kernel
theorem i_63_91 : q_dec 63 91 = some (10, .iaload, 1) := by decide +kernel
theorem i_63_92 : q_dec 63 92 = some (10, .invokevirtual 108, 3) := by decide +kernel
theorem i_63_95 : q_dec 63 95 = some (10, .istore 6, 2) := by decide +kernel
theorem i_63_97 : q_dec 63 97 = some (10, .iload 6, 2) := by decide +kernel
theorem i_63_99 : q_dec 63 99 = some (10, .ldc 64, 2) := by decide +kernel
theorem i_63_101 : q_dec 63 101 = some (10, .if_icmp .lt (6), 3) := by decide +kernel
theorem i_63_104 : q_dec 63 104 = some (10, .bipush (-9), 2) := by decide +kernel
theorem i_63_106 : q_dec 63 106 = some (10, .ireturn, 1) := by decide +kernel
theorem i_63_107 : q_dec 63 107 = some (10, .aload_n 0, 1) := by decide +kernel
theorem i_63_108 : q_dec 63 108 = some (10, .getfield 48, 3) := by decide +kernel
theorem i_63_111 : q_dec 63 111 = some (10, .iload 5, 2) := by decide +kernel
theorem i_63_113 : q_dec 63 113 = some (10, .iconst 5, 1) := by decide +kernel
theorem i_63_114 : q_dec 63 114 = some (10, .imul, 1) := by decide +kernel
theorem i_63_115 : q_dec 63 115 = some (10, .iload 4, 2) := by decide +kernel
theorem i_63_117 : q_dec 63 117 = some (10, .iadd, 1) := by decide +kernel
theorem i_63_118 : q_dec 63 118 = some (10, .iload 6, 2) := by decide +kernel
theorem i_63_120 : q_dec 63 120 = some (10, .iastore, 1) := by decide +kernel
theorem i_63_121 : q_dec 63 121 = some (10, .iinc 5 1, 3) := by decide +kernel
theorem i_63_124 : q_dec 63 124 = some (10, .goto (-46), 3) := by decide +kernel
theorem i_63_127 : q_dec 63 127 = some (10, .iinc 4 1, 3) := by decide +kernel
theorem i_63_130 : q_dec 63 130 = some (10, .goto (-72), 3) := by decide +kernel
theorem i_63_133 : q_dec 63 133 = some (10, .aload_n 0, 1) := by decide +kernel
theorem i_63_134 : q_dec 63 134 = some (10, .iconst 0, 1) := by decide +kernel
theorem i_63_135 : q_dec 63 135 = some (10, .iconst 1, 1) := by decide +kernel
theorem i_63_136 : q_dec 63 136 = some (10, .iload_n 3, 1) := by decide +kernel
theorem i_63_137 : q_dec 63 137 = some (10, .ishl, 1) := by decide +kernel
theorem i_63_138 : q_dec 63 138 = some (10, .iconst 1, 1) := by decide +kernel
theorem i_63_139 : q_dec 63 139 = some (10, .isub, 1) := by decide +kernel
theorem i_63_140 : q_dec 63 140 = some (10, .invokevirtual 124, 3) := by decide +kernel
theorem i_63_143 : q_dec 63 143 = some (10, .ireturn, 1) := by decide +kernel
theorem i_64_0 : q_dec 64 0 = some (10, .iload_n 2, 1) := by decide +kernel
theorem i_64_1 : q_dec 64 1 = some (10, .ifCond .ne (12), 3) := by decide +kernel
theorem i_64_4 : q_dec 64 4 = some (10, .aload_n 0, 1) := by decide +kernel
theorem i_64_5 : q_dec 64 5 = some (10, .getfield 48, 3) := by decide +kernel
theorem i_64_8 : q_dec 64 8 = some (10, .iload_n 1, 1) := by decide +kernel
theorem i_64_9 : q_dec 64 9 = some (10, .iconst 5, 1) := by decide +kernel
theorem i_64_10 : q_dec 64 10 = some (10, .imul, 1) := by decide +kernel
theorem i_64_11 : q_dec 64 11 = some (10, .iaload, 1) := by decide +kernel
theorem i_64_12 : q_dec 64 12 = some (10, .ireturn, 1) := by decide +kernel
theorem i_64_13 : q_dec 64 13 = some (10, .ldc 64, 2) := by decide +kernel
theorem i_64_15 : q_dec 64 15 = some (10, .istore_n 3, 1) := by decide +kernel
theorem i_64_16 : q_dec 64 16 = some (10, .iconst 1, 1) := by decide +kernel
theorem i_64_17 : q_dec 64 17 = some (10, .istore 4, 2) := by decide +kernel
theorem i_64_19 : q_dec 64 19 = some (10, .iload 4, 2) := by decide +kernel
theorem i_64_21 : q_dec 64 21 = some (10, .iconst 5, 1) := by decide +kernel
theorem i_64_22 : q_dec 64 22 = some (10, .if_icmp .ge (51), 3) := by decide +kernel
theorem i_64_25 : q_dec 64 25 = some (10, .iconst 1, 1) := by decide +kernel
theorem i_64_26 : q_dec 64 26 = some (10, .iload 4, 2) := by decide +kernel
theorem i_64_28 : q_dec 64 28 = some (10, .iconst 1, 1) := by decide +kernel
theorem i_64_29 : q_dec 64 29 = some (10, .isub, 1) := by decide +kernel
theorem i_64_30 : q_dec 64 30 = some (10, .ishl, 1) := by decide +kernel
theorem i_64_31 : q_dec 64 31 = some (10, .istore 5, 2) := by decide +kernel
theorem i_64_33 : q_dec 64 33 = some (10, .iload_n 2, 1) := by decide +kernel
theorem i_64_34 : q_dec 64 34 = some (10, .iload 5, 2) := by decide +kernel
theorem i_64_36 : q_dec 64 36 = some (10, .iand, 1) := by decide +kernel
theorem i_64_37 : q_dec 64 37 = some (10, .ifCond .eq (30), 3) := by decide +kernel
theorem i_64_40 : q_dec 64 40 = some (10, .iload_n 3, 1) := by decide +kernel
theorem i_64_41 : q_dec 64 41 = some (10, .aload_n 0, 1) := by decide +kernel
theorem i_64_42 : q_dec 64 42 = some (10, .getfield 48, 3) := by decide +kernel
theorem i_64_45 : q_dec 64 45 = some (10, .iload_n 1, 1) := by decide +kernel
theorem i_64_46 : q_dec 64 46 = some (10, .iconst 5, 1) := by decide +kernel
theorem i_64_47 : q_dec 64 47 = some (10, .imul, 1) := by decide +kernel
theorem i_64_48 : q_dec 64 48 = some (10, .iload 4, 2) := by decide +kernel
theorem i_64_50 : q_dec 64 50 = some (10, .iadd, 1) := by decide +kernel
theorem i_64_51 : q_dec 64 51 = some (10, .iaload, 1) := by decide +kernel
theorem i_64_52 : q_dec 64 52 = some (10, .aload_n 0, 1) := by decide +kernel
theorem i_64_53 : q_dec 64 53 = some (10, .iload 4, 2) := by decide +kernel
theorem i_64_55 : q_dec 64 55 = some (10, .iload_n 2, 1) := by decide +kernel
theorem i_64_56 : q_dec 64 56 = some (10, .iload 5, 2) := by decide +kernel
theorem i_64_58 : q_dec 64 58 = some (10, .isub, 1) := by decide +kernel
theorem i_64_59 : q_dec 64 59 = some (10, .invokevirtual 124, 3) := by decide +kernel
theorem i_64_62 : q_dec 64 62 = some (10, .iadd, 1) := by decide +kernel
theorem i_64_63 : q_dec 64 63 = some (10, .invokestatic 92, 3) := by decide +kernel
theorem i_64_66 : q_dec 64 66 = some (10, .istore_n 3, 1) := by decide +kernel
theorem i_64_67 : q_dec 64 67 = some (10, .iinc 4 1, 3) := by decide +kernel
theorem i_64_70 : q_dec 64 70 = some (10, .goto (-51), 3) := by decide +kernel
theorem i_64_73 : q_dec 64 73 = some (10, .iload_n 3, 1) := by decide +kernel
theorem i_64_74 : q_dec 64 74 = some (10, .ireturn, 1) := by decide +kernel
theorem i_65_0 : q_dec 65 0 = some (10, .aload_n 0, 1) := by decide +kernel
theorem i_65_1 : q_dec 65 1 = some (10, .getfield 42, 3) := by decide +kernel
theorem i_65_4 : q_dec 65 4 = some (10, .iconst 0, 1) := by decide +kernel
theorem i_65_5 : q_dec 65 5 = some (10, .iconst 1, 1) := by decide +kernel
theorem i_65_6 : q_dec 65 6 = some (10, .iload_n 2, 1) := by decide +kernel
theorem i_65_7 : q_dec 65 7 = some (10, .ishl, 1) := by decide +kernel
theorem i_65_8 : q_dec 65 8 = some (10, .iastore, 1) := by decide +kernel
theorem i_65_9 : q_dec 65 9 = some (10, .iconst 1, 1) := by decide +kernel
theorem i_65_10 : q_dec 65 10 = some (10, .istore 5, 2) := by decide +kernel
theorem i_65_12 : q_dec 65 12 = some (10, .iload 5, 2) := by decide +kernel
theorem i_65_14 : q_dec 65 14 = some (10, .iload_n 3, 1) := by decide +kernel
theorem i_65_15 : q_dec 65 15 = some (10, .if_icmp .gt (39), 3) := by decide +kernel
theorem i_65_18 : q_dec 65 18 = some (10, .iload 5, 2) := by decide +kernel
theorem i_65_20 : q_dec 65 20 = some (10, .bipush 8, 2) := by decide +kernel
theorem i_65_22 : q_dec 65 22 = some (10, .if_icmp .gt (32), 3) := by decide +kernel
theorem i_65_25 : q_dec 65 25 = some (10, .aload_n 0, 1) := by decide +kernel
theorem i_65_26 : q_dec 65 26 = some (10, .getfield 42, 3) := by decide +kernel
theorem i_65_29 : q_dec 65 29 = some (10, .iload 5, 2) := by decide +kernel
theorem i_65_31 : q_dec 65 31 = some (10, .aload_n 0, 1) := by decide +kernel
theorem i_65_32 : q_dec 65 32 = some (10, .getfield 12, 3) := by decide +kernel
theorem i_65_35 : q_dec 65 35 = some (10, .aload_n 0, 1) := by decide +kernel
theorem i_65_36 : q_dec 65 36 = some (10, .getfield 42, 3) := by decide +kernel
theorem i_65_39 : q_dec 65 39 = some (10, .iload 5, 2) := by decide +kernel
theorem i_65_41 : q_dec 65 41 = some (10, .iconst 1, 1) := by decide +kernel
theorem i_65_42 : q_dec 65 42 = some (10, .isub, 1) := by decide +kernel
theorem i_65_43 : q_dec 65 43 = some (10, .iaload, 1) := by decide +kernel
theorem i_65_44 : q_dec 65 44 = some (10, .invokevirtual 127, 3) := by decide +kernel
theorem i_65_47 : q_dec 65 47 = some (10, .iastore, 1) := by decide +kernel
theorem i_65_48 : q_dec 65 48 = some (10, .iinc 5 1, 3) := by decide +kernel
theorem i_65_51 : q_dec 65 51 = some (10, .goto (-39), 3) := by decide +kernel
theorem i_65_54 : q_dec 65 54 = some (10, .aload_n 0, 1) := by decide +kernel
theorem i_65_55 : q_dec 65 55 = some (10, .iload_n 1, 1) := by decide +kernel
theorem i_65_56 : q_dec 65 56 = some (10, .iconst (-1), 1) := by decide +kernel
theorem i_65_57 : q_dec 65 57 = some (10, .iconst 0, 1) := by decide +kernel
theorem i_65_58 : q_dec 65 58 = some (10, .iload_n 3, 1) := by decide +kernel
theorem i_65_59 : q_dec 65 59 = some (10, .iload 4, 2) := by decide +kernel
theorem i_65_61 : q_dec 65 61 = some (10, .invokevirtual 130, 3) := by decide +kernel
theorem i_65_64 : q_dec 65 64 = some (10, .ireturn, 1) := by decide +kernel
theorem i_66_0 : q_dec 66 0 = some (10, .iload 4, 2) := by decide +kernel
theorem i_66_2 : q_dec 66 2 = some (10, .ifCond .lt (29), 3) := by decide +kernel
theorem i_66_5 : q_dec 66 5 = some (10, .iload 4, 2) := by decide +kernel
theorem i_66_7 : q_dec 66 7 = some (10, .bipush 8, 2) := by decide +kernel
theorem i_66_9 : q_dec 66 9 = some (10, .if_icmp .gt (22), 3) := by decide +kernel
theorem i_66_12 : q_dec 66 12 = some (10, .iload 5, 2) := by decide +kernel
theorem i_66_14 : q_dec 66 14 = some (10, .ifCond .lt (17), 3) := by decide +kernel
theorem i_66_17 : q_dec 66 17 = some (10, .aload_n 0, 1) := by decide +kernel
theorem i_66_18 : q_dec 66 18 = some (10, .getfield 42, 3) := by decide +kernel
theorem i_66_21 : q_dec 66 21 = some (10, .iload 4, 2) := by decide +kernel
theorem i_66_23 : q_dec 66 23 = some (10, .iaload, 1) := by decide +kernel
theorem i_66_24 : q_dec 66 24 = some (10, .iload_n 1, 1) := by decide +kernel
theorem i_66_25 : q_dec 66 25 = some (10, .invokestatic 120, 3) := by decide +kernel
theorem i_66_28 : q_dec 66 28 = some (10, .ifCond .ne (5), 3) := by decide +kernel
theorem i_66_31 : q_dec 66 31 = some (10, .iconst 0, 1) := by decide +kernel
theorem i_66_32 : q_dec 66 32 = some (10, .ireturn, 1) := by decide +kernel
theorem i_66_33 : q_dec 66 33 = some (10, .iload 4, 2) := by decide +kernel
theorem i_66_35 : q_dec 66 35 = some (10, .ifCond .ne (14), 3) := by decide +kernel
theorem i_66_38 : q_dec 66 38 = some (10, .iload 5, 2) := by decide +kernel
theorem i_66_40 : q_dec 66 40 = some (10, .ifCond .ne (7), 3) := by decide +kernel
theorem i_66_43 : q_dec 66 43 = some (10, .iconst 1, 1) := by decide +kernel
theorem i_66_44 : q_dec 66 44 = some (10, .goto 4, 3) := by decide +kernel
theorem i_66_47 : q_dec 66 47 = some (10, .iconst 0, 1) := by decide +kernel
theorem i_66_48 : q_dec 66 48 = some (10, .ireturn, 1) := by decide +kernel
theorem i_66_49 : q_dec 66 49 = some (10, .iconst 0, 1) := by decide +kernel
theorem i_66_50 : q_dec 66 50 = some (10, .istore 6, 2) := by decide +kernel
theorem i_66_52 : q_dec 66 52 = some (10, .iconst 0, 1) := by decide +kernel
theorem i_66_53 : q_dec 66 53 = some (10, .istore 7, 2) := by decide +kernel
theorem i_66_55 : q_dec 66 55 = some (10, .iload 7, 2) := by decide +kernel
theorem i_66_57 : q_dec 66 57 = some (10, .iconst 4, 1) := by decide +kernel
theorem i_66_58 : q_dec 66 58 = some (10, .if_icmp .ge (76), 3) := by decide +kernel
theorem i_66_61 : q_dec 66 61 = some (10, .aload_n 0, 1) := by decide +kernel
theorem i_66_62 : q_dec 66 62 = some (10, .getfield 12, 3) := by decide +kernel
theorem i_66_65 : q_dec 66 65 = some (10, .iload_n 1, 1) := by decide +kernel
theorem i_66_66 : q_dec 66 66 = some (10, .iload 7, 2) := by decide +kernel
theorem i_66_68 : q_dec 66 68 = some (10, .invokevirtual 56, 3) := by decide +kernel
theorem i_66_71 : q_dec 66 71 = some (10, .istore 8, 2) := by decide +kernel
theorem i_66_73 : q_dec 66 73 = some (10, .iload 8, 2) := by decide +kernel
theorem i_66_75 : q_dec 66 75 = some (10, .iconst (-1), 1) := by decide +kernel
theorem i_66_76 : q_dec 66 76 = some (10, .if_icmp .eq (52), 3) := by decide +kernel
theorem i_66_79 : q_dec 66 79 = some (10, .aload_n 0, 1) := by decide +kernel
theorem i_66_80 : q_dec 66 80 = some (10, .getfield 12, 3) := by decide +kernel
theorem i_66_83 : q_dec 66 83 = some (10, .iload_n 1, 1) := by decide +kernel
theorem i_66_84 : q_dec 66 84 = some (10, .iload_n 2, 1) := by decide +kernel
theorem i_66_85 : q_dec 66 85 = some (10, .iload_n 3, 1) := by decide +kernel
theorem i_66_86 : q_dec 66 86 = some (10, .iload 7, 2) := by decide +kernel
theorem i_66_88 : q_dec 66 88 = some (10, .invokevirtual 60, 3) := by decide +kernel
theorem i_66_91 : q_dec 66 91 = some (10, .istore 9, 2) := by decide +kernel
theorem i_66_93 : q_dec 66 93 = some (10, .iload 6, 2) := by decide +kernel
theorem i_66_95 : q_dec 66 95 = some (10, .aload_n 0, 1) := by decide +kernel
theorem i_66_96 : q_dec 66 96 = some (10, .iload 8, 2) := by decide +kernel
theorem i_66_98 : q_dec 66 98 = some (10, .iload 7, 2) := by decide +kernel
theorem i_66_100 : q_dec 66 100 = some (10, .iload 9, 2) := by decide +kernel
theorem i_66_102 : q_dec 66 102 = some (10, .iload 4, 2) := by decide +kernel
theorem i_66_104 : q_dec 66 104 = some (10, .iconst 1, 1) := by decide +kernel
theorem i_66_105 : q_dec 66 105 = some (10, .isub, 1) := by decide +kernel
theorem i_66_106 : q_dec 66 106 = some (10, .iload 5, 2) := by decide +kernel
theorem i_66_108 : q_dec 66 108 = some (10, .aload_n 0, 1) := by decide +kernel
theorem i_66_109 : q_dec 66 109 = some (10, .getfield 12, 3) := by decide +kernel
theorem i_66_112 : q_dec 66 112 = some (10, .iload 9, 2) := by decide +kernel
theorem i_66_114 : q_dec 66 114 = some (10, .aload_n 0, 1) := by decide +kernel
theorem i_66_115 : q_dec 66 115 = some (10, .getfield 18, 3) := by decide +kernel
theorem i_66_118 : q_dec 66 118 = some (10, .invokevirtual 51, 3) := by decide +kernel
theorem i_66_121 : q_dec 66 121 = some (10, .isub, 1) := by decide +kernel
theorem i_66_122 : q_dec 66 122 = some (10, .invokevirtual 130, 3) := by decide +kernel
theorem i_66_125 : q_dec 66 125 = some (10, .iadd, 1) := by decide +kernel
theorem i_66_126 : q_dec 66 126 = some (10, .istore 6, 2) := by decide +kernel
theorem i_66_128 : q_dec 66 128 = some (10, .iinc 7 1, 3) := by decide +kernel
theorem i_66_131 : q_dec 66 131 = some (10, .goto (-76), 3) := by decide +kernel
theorem i_66_134 : q_dec 66 134 = some (10, .iload 6, 2) := by decide +kernel
theorem i_66_136 : q_dec 66 136 = some (10, .ireturn, 1) := by decide +kernel
theorem i_67_0 : q_dec 67 0 = some (11, .iload_n 3, 1) := by decide +kernel
theorem i_67_1 : q_dec 67 1 = some (11, .iconst 1, 1) := by decide +kernel
theorem i_67_2 : q_dec 67 2 = some (11, .if_icmp .lt (9), 3) := by decide +kernel
theorem i_67_5 : q_dec 67 5 = some (11, .iload_n 3, 1) := by decide +kernel
theorem i_67_6 : q_dec 67 6 = some (11, .bipush 8, 2) := by decide +kernel
theorem i_67_8 : q_dec 67 8 = some (11, .if_icmp .le (5), 3) := by decide +kernel
theorem i_67_11 : q_dec 67 11 = some (11, .iconst (-1), 1) := by decide +kernel
theorem i_67_12 : q_dec 67 12 = some (11, .ireturn, 1) := by decide +kernel
theorem i_67_13 : q_dec 67 13 = some (11, .aload_n 0, 1) := by decide +kernel
theorem i_67_14 : q_dec 67 14 = some (11, .getfield 12, 3) := by decide +kernel
theorem i_67_17 : q_dec 67 17 = some (11, .lload_n 1, 1) := by decide +kernel
theorem i_67_18 : q_dec 67 18 = some (11, .iload_n 3, 1) := by decide +kernel
theorem i_67_19 : q_dec 67 19 = some (11, .invokevirtual 81, 3) := by decide +kernel
theorem i_67_22 : q_dec 67 22 = some (11, .ireturn, 1) := by decide +kernel
theorem i_68_0 : q_dec 68 0 = some (11, .aload_n 0, 1) := by decide +kernel
theorem i_68_1 : q_dec 68 1 = some (11, .getfield 12, 3) := by decide +kernel
theorem i_68_4 : q_dec 68 4 = some (11, .getfield 85, 3) := by decide +kernel
theorem i_68_7 : q_dec 68 7 = some (11, .istore_n 1, 1) := by decide +kernel
theorem i_68_8 : q_dec 68 8 = some (11, .aload_n 0, 1) := by decide +kernel
theorem i_68_9 : q_dec 68 9 = some (11, .getfield 12, 3) := by decide +kernel
theorem i_68_12 : q_dec 68 12 = some (11, .iconst 0, 1) := by decide +kernel
theorem i_68_13 : q_dec 68 13 = some (11, .putfield 85, 3) := by decide +kernel
theorem i_68_16 : q_dec 68 16 = some (11, .iload_n 1, 1) := by decide +kernel
theorem i_68_17 : q_dec 68 17 = some (11, .ireturn, 1) := by decide +kernel
theorem i_69_0 : q_dec 69 0 = some (11, .aload_n 0, 1) := by decide +kernel
theorem i_69_1 : q_dec 69 1 = some (11, .getfield 12, 3) := by decide +kernel
theorem i_69_4 : q_dec 69 4 = some (11, .aload_n 0, 1) := by decide +kernel
theorem i_69_5 : q_dec 69 5 = some (11, .getfield 58, 3) := by decide +kernel
theorem i_69_8 : q_dec 69 8 = some (11, .invokevirtual 89, 3) := by decide +kernel
theorem i_69_11 : q_dec 69 11 = some (11, .istore_n 1, 1) := by decide +kernel
theorem i_69_12 : q_dec 69 12 = some (11, .iload_n 1, 1) := by decide +kernel
theorem i_69_13 : q_dec 69 13 = some (11, .ifCond .ge (5), 3) := by decide +kernel
theorem i_69_16 : q_dec 69 16 = some (11, .iload_n 1, 1) := by decide +kernel
theorem i_69_17 : q_dec 69 17 = some (11, .ireturn, 1) := by decide +kernel
theorem i_69_18 : q_dec 69 18 = some (11, .aload_n 0, 1) := by decide +kernel
theorem i_69_19 : q_dec 69 19 = some (11, .getfield 54, 3) := by decide +kernel
theorem i_69_22 : q_dec 69 22 = some (11, .astore_n 2, 1) := by decide +kernel
theorem i_69_23 : q_dec 69 23 = some (11, .aload_n 0, 1) := by decide +kernel
theorem i_69_24 : q_dec 69 24 = some (11, .aload_n 0, 1) := by decide +kernel
theorem i_69_25 : q_dec 69 25 = some (11, .getfield 58, 3) := by decide +kernel
theorem i_69_28 : q_dec 69 28 = some (11, .putfield 54, 3) := by decide +kernel
theorem i_69_31 : q_dec 69 31 = some (11, .aload_n 0, 1) := by decide +kernel
theorem i_69_32 : q_dec 69 32 = some (11, .aload_n 2, 1) := by decide +kernel
theorem i_69_33 : q_dec 69 33 = some (11, .putfield 58, 3) := by decide +kernel
theorem i_69_36 : q_dec 69 36 = some (11, .aload_n 0, 1) := by decide +kernel
theorem i_69_37 : q_dec 69 37 = some (11, .getfield 54, 3) := by decide +kernel
theorem i_69_40 : q_dec 69 40 = some (11, .invokevirtual 93, 3) := by decide +kernel
theorem i_69_43 : q_dec 69 43 = some (11, .aload_n 0, 1) := by decide +kernel
theorem i_69_44 : q_dec 69 44 = some (11, .getfield 12, 3) := by decide +kernel
theorem i_69_47 : q_dec 69 47 = some (11, .iconst 0, 1) := by decide +kernel
theorem i_69_48 : q_dec 69 48 = some (11, .putfield 85, 3) := by decide +kernel
theorem i_69_51 : q_dec 69 51 = some (11, .aload_n 0, 1) := by decide +kernel
theorem i_69_52 : q_dec 69 52 = some (11, .getfield 19, 3) := by decide +kernel
theorem i_69_55 : q_dec 69 55 = some (11, .invokevirtual 96, 3) := by decide +kernel
theorem i_69_58 : q_dec 69 58 = some (11, .aload_n 0, 1) := by decide +kernel
theorem i_69_59 : q_dec 69 59 = some (11, .getfield 19, 3) := by decide +kernel
theorem i_69_62 : q_dec 69 62 = some (11, .iconst 0, 1) := by decide +kernel
theorem i_69_63 : q_dec 69 63 = some (11, .putfield 99, 3) := by decide +kernel
theorem i_69_66 : q_dec 69 66 = some (11, .aload_n 0, 1) := by decide +kernel
theorem i_69_67 : q_dec 69 67 = some (11, .getfield 34, 3) := by decide +kernel
theorem i_69_70 : q_dec 69 70 = some (11, .iconst 0, 1) := by decide +kernel
theorem i_69_71 : q_dec 69 71 = some (11, .putfield 103, 3) := by decide +kernel
theorem i_69_74 : q_dec 69 74 = some (11, .iconst 0, 1) := by decide +kernel
theorem i_69_75 : q_dec 69 75 = some (11, .istore_n 3, 1) := by decide +kernel
theorem i_69_76 : q_dec 69 76 = some (11, .iload_n 3, 1) := by decide +kernel
theorem i_69_77 : q_dec 69 77 = some (11, .iconst 2, 1) := by decide +kernel
theorem i_69_78 : q_dec 69 78 = some (11, .if_icmp .ge (16), 3) := by decide +kernel
theorem i_69_81 : q_dec 69 81 = some (11, .aload_n 0, 1) := by decide +kernel
theorem i_69_82 : q_dec 69 82 = some (11, .getfield 27, 3) := by decide +kernel
theorem i_69_85 : q_dec 69 85 = some (11, .iload_n 3, 1) := by decide +kernel
theorem i_69_86 : q_dec 69 86 = some (11, .iconst 0, 1) := by decide +kernel
theorem i_69_87 : q_dec 69 87 = some (11, .bastore, 1) := by decide +kernel
theorem i_69_88 : q_dec 69 88 = some (11, .iinc 3 1, 3) := by decide +kernel
theorem i_69_91 : q_dec 69 91 = some (11, .goto (-15), 3) := by decide +kernel
theorem i_69_94 : q_dec 69 94 = some (11, .iload_n 1, 1) := by decide +kernel
theorem i_69_95 : q_dec 69 95 = some (11, .ireturn, 1) := by decide +kernel
theorem i_70_0 : q_dec 70 0 = some (11, .aload_n 0, 1) := by decide +kernel
theorem i_70_1 : q_dec 70 1 = some (11, .getfield 54, 3) := by decide +kernel
theorem i_70_4 : q_dec 70 4 = some (11, .iload_n 1, 1) := by decide +kernel
theorem i_70_5 : q_dec 70 5 = some (11, .invokevirtual 106, 3) := by decide +kernel
theorem i_70_8 : q_dec 70 8 = some (11, .ifCond .eq (14), 3) := by decide +kernel
theorem i_70_11 : q_dec 70 11 = some (11, .aload_n 0, 1) := by decide +kernel
theorem i_70_12 : q_dec 70 12 = some (11, .getfield 54, 3) := by decide +kernel
theorem i_70_15 : q_dec 70 15 = some (11, .iload_n 1, 1) := by decide +kernel
theorem i_70_16 : q_dec 70 16 = some (11, .invokevirtual 110, 3) := by decide +kernel
theorem i_70_19 : q_dec 70 19 = some (11, .goto 4, 3) := by decide +kernel
theorem i_70_22 : q_dec 70 22 = some (11, .iconst (-1), 1) := by decide +kernel
theorem i_70_23 : q_dec 70 23 = some (11, .ireturn, 1) := by decide +kernel
theorem i_71_0 : q_dec 71 0 = some (11, .iload_n 1, 1) := by decide +kernel
theorem i_71_1 : q_dec 71 1 = some (11, .tableswitch (103) (0) (5) #[39, 47, 55, 63, 79, 87], 39) := by decide +kernel
theorem i_71_40 : q_dec 71 40 = some (11, .aload_n 0, 1) := by decide +kernel
theorem i_71_41 : q_dec 71 41 = some (11, .getfield 54, 3) := by decide +kernel
theorem i_71_44 : q_dec 71 44 = some (11, .getfield 114, 3) := by decide +kernel
theorem i_71_47 : q_dec 71 47 = some (11, .ireturn, 1) := by decide +kernel
theorem i_71_48 : q_dec 71 48 = some (11, .aload_n 0, 1) := by decide +kernel
theorem i_71_49 : q_dec 71 49 = some (11, .getfield 54, 3) := by decide +kernel
theorem i_71_52 : q_dec 71 52 = some (11, .getfield 117, 3) := by decide +kernel
theorem i_71_55 : q_dec 71 55 = some (11, .ireturn, 1) := by decide +kernel
theorem i_71_56 : q_dec 71 56 = some (11, .aload_n 0, 1) := by decide +kernel
theorem i_71_57 : q_dec 71 57 = some (11, .getfield 54, 3) := by decide +kernel
theorem i_71_60 : q_dec 71 60 = some (11, .getfield 120, 3) := by decide +kernel
theorem i_71_63 : q_dec 71 63 = some (11, .ireturn, 1) := by decide +kernel
theorem i_71_64 : q_dec 71 64 = some (11, .aload_n 0, 1) := by decide +kernel
theorem i_71_65 : q_dec 71 65 = some (11, .getfield 54, 3) := by decide +kernel
theorem i_71_68 : q_dec 71 68 = some (11, .getfield 123, 3) := by decide +kernel
theorem i_71_71 : q_dec 71 71 = some (11, .ifCond .eq (7), 3) := by decide +kernel
theorem i_71_74 : q_dec 71 74 = some (11, .iconst 1, 1) := by decide +kernel
theorem i_71_75 : q_dec 71 75 = some (11, .goto 4, 3) := by decide +kernel
theorem i_71_78 : q_dec 71 78 = some (11, .iconst 0, 1) := by decide +kernel
theorem i_71_79 : q_dec 71 79 = some (11, .ireturn, 1) := by decide +kernel
theorem i_71_80 : q_dec 71 80 = some (11, .aload_n 0, 1) := by decide +kernel
theorem i_71_81 : q_dec 71 81 = some (11, .getfield 54, 3) := by decide +kernel
theorem i_71_84 : q_dec 71 84 = some (11, .getfield 126, 3) := by decide +kernel
theorem i_71_87 : q_dec 71 87 = some (11, .ireturn, 1) := by decide +kernel
theorem i_71_88 : q_dec 71 88 = some (11, .aload_n 0, 1) := by decide +kernel
theorem i_71_89 : q_dec 71 89 = some (11, .getfield 19, 3) := by decide +kernel
theorem i_71_92 : q_dec 71 92 = some (11, .getfield 99, 3) := by decide +kernel
theorem i_71_95 : q_dec 71 95 = some (11, .ifCond .eq (7), 3) := by decide +kernel
theorem i_71_98 : q_dec 71 98 = some (11, .iconst 1, 1) := by decide +kernel
theorem i_71_99 : q_dec 71 99 = some (11, .goto 4, 3) := by decide +kernel
theorem i_71_102 : q_dec 71 102 = some (11, .iconst 0, 1) := by decide +kernel
theorem i_71_103 : q_dec 71 103 = some (11, .ireturn, 1) := by decide +kernel
theorem i_71_104 : q_dec 71 104 = some (11, .iconst (-1), 1) := by decide +kernel
theorem i_71_105 : q_dec 71 105 = some (11, .ireturn, 1) := by decide +kernel
theorem i_72_0 : q_dec 72 0 = some (11, .aload_n 0, 1) := by decide +kernel
theorem i_72_1 : q_dec 72 1 = some (11, .getfield 54, 3) := by decide +kernel
theorem i_72_4 : q_dec 72 4 = some (11, .iload_n 1, 1) := by decide +kernel
theorem i_72_5 : q_dec 72 5 = some (11, .invokevirtual 129, 3) := by decide +kernel
theorem i_72_8 : q_dec 72 8 = some (11, .ifCond .ne (5), 3) := by decide +kernel
theorem i_72_11 : q_dec 72 11 = some (11, .iconst (-1), 1) := by decide +kernel
theorem i_72_12 : q_dec 72 12 = some (11, .ireturn, 1) := by decide +kernel
theorem i_72_13 : q_dec 72 13 = some (11, .aload_n 0, 1) := by decide +kernel
theorem i_72_14 : q_dec 72 14 = some (11, .getfield 19, 3) := by decide +kernel
theorem i_72_17 : q_dec 72 17 = some (11, .invokevirtual 96, 3) := by decide +kernel
theorem i_72_20 : q_dec 72 20 = some (11, .aload_n 0, 1) := by decide +kernel
theorem i_72_21 : q_dec 72 21 = some (11, .getfield 19, 3) := by decide +kernel
theorem i_72_24 : q_dec 72 24 = some (11, .iload_n 1, 1) := by decide +kernel
theorem i_72_25 : q_dec 72 25 = some (11, .putfield 132, 3) := by decide +kernel
theorem i_72_28 : q_dec 72 28 = some (11, .iconst 1, 1) := by decide +kernel
theorem i_72_29 : q_dec 72 29 = some (11, .ireturn, 1) := by decide +kernel
theorem i_73_0 : q_dec 73 0 = some (11, .iload_n 1, 1) := by decide +kernel
theorem i_73_1 : q_dec 73 1 = some (11, .invokestatic 135, 3) := by decide +kernel
theorem i_73_4 : q_dec 73 4 = some (11, .ifCond .ne (5), 3) := by decide +kernel
theorem i_73_7 : q_dec 73 7 = some (11, .iconst (-1), 1) := by decide +kernel
theorem i_73_8 : q_dec 73 8 = some (11, .ireturn, 1) := by decide +kernel
theorem i_73_9 : q_dec 73 9 = some (11, .aload_n 0, 1) := by decide +kernel
theorem i_73_10 : q_dec 73 10 = some (11, .getfield 54, 3) := by decide +kernel
theorem i_73_13 : q_dec 73 13 = some (11, .aload_n 0, 1) := by decide +kernel
theorem i_73_14 : q_dec 73 14 = some (11, .getfield 19, 3) := by decide +kernel
theorem i_73_17 : q_dec 73 17 = some (11, .getfield 132, 3) := by decide +kernel
theorem i_73_20 : q_dec 73 20 = some (11, .iload_n 1, 1) := by decide +kernel
theorem i_73_21 : q_dec 73 21 = some (11, .invokevirtual 138, 3) := by decide +kernel
theorem i_73_24 : q_dec 73 24 = some (11, .istore_n 2, 1) := by decide +kernel
theorem i_73_25 : q_dec 73 25 = some (11, .iload_n 2, 1) := by decide +kernel
theorem i_73_26 : q_dec 73 26 = some (11, .iconst (-1), 1) := by decide +kernel
theorem i_73_27 : q_dec 73 27 = some (11, .if_icmp .ne (6), 3) := by decide +kernel
theorem i_73_30 : q_dec 73 30 = some (11, .bipush (-2), 2) := by decide +kernel
theorem i_73_32 : q_dec 73 32 = some (11, .ireturn, 1) := by decide +kernel
theorem i_73_33 : q_dec 73 33 = some (11, .aload_n 0, 1) := by decide +kernel
theorem i_73_34 : q_dec 73 34 = some (11, .getfield 19, 3) := by decide +kernel
theorem i_73_37 : q_dec 73 37 = some (11, .getfield 142, 3) := by decide +kernel
theorem i_73_40 : q_dec 73 40 = some (11, .bipush 60, 2) := by decide +kernel
theorem i_73_42 : q_dec 73 42 = some (11, .if_icmp .lt (6), 3) := by decide +kernel
theorem i_73_45 : q_dec 73 45 = some (11, .bipush (-3), 2) := by decide +kernel
theorem i_73_47 : q_dec 73 47 = some (11, .ireturn, 1) := by decide +kernel
theorem i_73_48 : q_dec 73 48 = some (11, .aload_n 0, 1) := by decide +kernel
theorem i_73_49 : q_dec 73 49 = some (11, .getfield 54, 3) := by decide +kernel
theorem i_73_52 : q_dec 73 52 = some (11, .aload_n 0, 1) := by decide +kernel
theorem i_73_53 : q_dec 73 53 = some (11, .getfield 19, 3) := by decide +kernel
theorem i_73_56 : q_dec 73 56 = some (11, .getfield 132, 3) := by decide +kernel
theorem i_73_59 : q_dec 73 59 = some (11, .aload_n 0, 1) := by decide +kernel
theorem i_73_60 : q_dec 73 60 = some (11, .getfield 19, 3) := by decide +kernel
theorem i_73_63 : q_dec 73 63 = some (11, .invokevirtual 145, 3) := by decide +kernel
theorem i_73_66 : q_dec 73 66 = some (11, .aload_n 0, 1) := by decide +kernel
theorem i_73_67 : q_dec 73 67 = some (11, .getfield 19, 3) := by decide +kernel
theorem i_73_70 : q_dec 73 70 = some (11, .invokevirtual 149, 3) := by decide +kernel
theorem i_73_73 : q_dec 73 73 = some (11, .iload_n 1, 1) := by decide +kernel
theorem i_73_74 : q_dec 73 74 = some (11, .invokevirtual 152, 3) := by decide +kernel
theorem i_73_77 : q_dec 73 77 = some (11, .istore_n 3, 1) := by decide +kernel
theorem i_73_78 : q_dec 73 78 = some (11, .aload_n 0, 1) := by decide +kernel
theorem i_73_79 : q_dec 73 79 = some (11, .getfield 54, 3) := by decide +kernel
theorem i_73_82 : q_dec 73 82 = some (11, .iload_n 3, 1) := by decide +kernel
theorem i_73_83 : q_dec 73 83 = some (11, .aload_n 0, 1) := by decide +kernel
theorem i_73_84 : q_dec 73 84 = some (11, .getfield 19, 3) := by decide +kernel
theorem i_73_87 : q_dec 73 87 = some (11, .getfield 99, 3) := by decide +kernel
theorem i_73_90 : q_dec 73 90 = some (11, .invokevirtual 156, 3) := by decide +kernel
theorem i_73_93 : q_dec 73 93 = some (11, .istore 4, 2) := by decide +kernel
theorem i_73_95 : q_dec 73 95 = some (11, .aload_n 0, 1) := by decide +kernel
theorem i_73_96 : q_dec 73 96 = some (11, .getfield 19, 3) := by decide +kernel
theorem i_73_99 : q_dec 73 99 = some (11, .iload_n 1, 1) := by decide +kernel
theorem i_73_100 : q_dec 73 100 = some (11, .iload_n 3, 1) := by decide +kernel
theorem i_73_101 : q_dec 73 101 = some (11, .iload 4, 2) := by decide +kernel
theorem i_73_103 : q_dec 73 103 = some (11, .iload_n 2, 1) := by decide +kernel
theorem i_73_104 : q_dec 73 104 = some (11, .invokevirtual 160, 3) := by decide +kernel
theorem i_73_107 : q_dec 73 107 = some (11, .iload 4, 2) := by decide +kernel
theorem i_73_109 : q_dec 73 109 = some (11, .ireturn, 1) := by decide +kernel
theorem i_74_0 : q_dec 74 0 = some (11, .iload_n 0, 1) := by decide +kernel
theorem i_74_1 : q_dec 74 1 = some (11, .ifCond .lt (12), 3) := by decide +kernel
theorem i_74_4 : q_dec 74 4 = some (11, .iload_n 0, 1) := by decide +kernel
theorem i_74_5 : q_dec 74 5 = some (11, .iconst 4, 1) := by decide +kernel
theorem i_74_6 : q_dec 74 6 = some (11, .if_icmp .ge (7), 3) := by decide +kernel
theorem i_74_9 : q_dec 74 9 = some (11, .iconst 1, 1) := by decide +kernel
theorem i_74_10 : q_dec 74 10 = some (11, .goto 4, 3) := by decide +kernel
theorem i_74_13 : q_dec 74 13 = some (11, .iconst 0, 1) := by decide +kernel
theorem i_74_14 : q_dec 74 14 = some (11, .ireturn, 1) := by decide +kernel
theorem i_75_0 : q_dec 75 0 = some (11, .aload_n 0, 1) := by decide +kernel
theorem i_75_1 : q_dec 75 1 = some (11, .getfield 19, 3) := by decide +kernel
theorem i_75_4 : q_dec 75 4 = some (11, .getfield 142, 3) := by decide +kernel
theorem i_75_7 : q_dec 75 7 = some (11, .ifCond .le (13), 3) := by decide +kernel
theorem i_75_10 : q_dec 75 10 = some (11, .aload_n 0, 1) := by decide +kernel
theorem i_75_11 : q_dec 75 11 = some (11, .getfield 19, 3) := by decide +kernel
theorem i_75_14 : q_dec 75 14 = some (11, .invokevirtual 164, 3) := by decide +kernel
theorem i_75_17 : q_dec 75 17 = some (11, .goto 5, 3) := by decide +kernel
theorem i_75_20 : q_dec 75 20 = some (11, .bipush (-2), 2) := by decide +kernel
theorem i_75_22 : q_dec 75 22 = some (11, .ireturn, 1) := by decide +kernel
theorem i_76_0 : q_dec 76 0 = some (11, .iload_n 1, 1) := by decide +kernel
theorem i_76_1 : q_dec 76 1 = some (11, .tableswitch (106) (0) (4) #[35, 59, 67, 75, 98], 35) := by decide +kernel
theorem i_76_36 : q_dec 76 36 = some (11, .aload_n 0, 1) := by decide +kernel
theorem i_76_37 : q_dec 76 37 = some (11, .getfield 19, 3) := by decide +kernel
theorem i_76_40 : q_dec 76 40 = some (11, .getfield 132, 3) := by decide +kernel
theorem i_76_43 : q_dec 76 43 = some (11, .iconst (-1), 1) := by decide +kernel
theorem i_76_44 : q_dec 76 44 = some (11, .if_icmp .ne (8), 3) := by decide +kernel
theorem i_76_47 : q_dec 76 47 = some (11, .bipush (-9), 2) := by decide +kernel
theorem i_76_49 : q_dec 76 49 = some (11, .goto 10, 3) := by decide +kernel
theorem i_76_52 : q_dec 76 52 = some (11, .aload_n 0, 1) := by decide +kernel
theorem i_76_53 : q_dec 76 53 = some (11, .getfield 19, 3) := by decide +kernel
theorem i_76_56 : q_dec 76 56 = some (11, .getfield 132, 3) := by decide +kernel
theorem i_76_59 : q_dec 76 59 = some (11, .ireturn, 1) := by decide +kernel
theorem i_76_60 : q_dec 76 60 = some (11, .aload_n 0, 1) := by decide +kernel
theorem i_76_61 : q_dec 76 61 = some (11, .getfield 19, 3) := by decide +kernel
theorem i_76_64 : q_dec 76 64 = some (11, .getfield 167, 3) := by decide +kernel
theorem i_76_67 : q_dec 76 67 = some (11, .ireturn, 1) := by decide +kernel
theorem i_76_68 : q_dec 76 68 = some (11, .aload_n 0, 1) := by decide +kernel
theorem i_76_69 : q_dec 76 69 = some (11, .getfield 19, 3) := by decide +kernel
theorem i_76_72 : q_dec 76 72 = some (11, .invokevirtual 149, 3) := by decide +kernel
theorem i_76_75 : q_dec 76 75 = some (11, .ireturn, 1) := by decide +kernel
theorem i_76_76 : q_dec 76 76 = some (11, .aload_n 0, 1) := by decide +kernel
theorem i_76_77 : q_dec 76 77 = some (11, .getfield 19, 3) := by decide +kernel
theorem i_76_80 : q_dec 76 80 = some (11, .getfield 142, 3) := by decide +kernel
theorem i_76_83 : q_dec 76 83 = some (11, .ifCond .le (13), 3) := by decide +kernel
theorem i_76_86 : q_dec 76 86 = some (11, .aload_n 0, 1) := by decide +kernel
theorem i_76_87 : q_dec 76 87 = some (11, .getfield 19, 3) := by decide +kernel
theorem i_76_90 : q_dec 76 90 = some (11, .invokevirtual 145, 3) := by decide +kernel
theorem i_76_93 : q_dec 76 93 = some (11, .goto 5, 3) := by decide +kernel
theorem i_76_96 : q_dec 76 96 = some (11, .bipush (-9), 2) := by decide +kernel
theorem i_76_98 : q_dec 76 98 = some (11, .ireturn, 1) := by decide +kernel
theorem i_76_99 : q_dec 76 99 = some (11, .aload_n 0, 1) := by decide +kernel
theorem i_76_100 : q_dec 76 100 = some (11, .getfield 19, 3) := by decide +kernel
theorem i_76_103 : q_dec 76 103 = some (11, .getfield 142, 3) := by decide +kernel
theorem i_76_106 : q_dec 76 106 = some (11, .ireturn, 1) := by decide +kernel
theorem i_76_107 : q_dec 76 107 = some (11, .iconst (-1), 1) := by decide +kernel
theorem i_76_108 : q_dec 76 108 = some (11, .ireturn, 1) := by decide +kernel
theorem i_77_0 : q_dec 77 0 = some (11, .iload_n 1, 1) := by decide +kernel
theorem i_77_1 : q_dec 77 1 = some (11, .invokestatic 170, 3) := by decide +kernel
theorem i_77_4 : q_dec 77 4 = some (11, .ifCond .ne (5), 3) := by decide +kernel
theorem i_77_7 : q_dec 77 7 = some (11, .iconst (-1), 1) := by decide +kernel
theorem i_77_8 : q_dec 77 8 = some (11, .ireturn, 1) := by decide +kernel
theorem i_77_9 : q_dec 77 9 = some (11, .aload_n 0, 1) := by decide +kernel
theorem i_77_10 : q_dec 77 10 = some (11, .getfield 19, 3) := by decide +kernel
theorem i_77_13 : q_dec 77 13 = some (11, .getfield 99, 3) := by decide +kernel
theorem i_77_16 : q_dec 77 16 = some (11, .ifCond .eq (7), 3) := by decide +kernel
theorem i_77_19 : q_dec 77 19 = some (11, .iconst 1, 1) := by decide +kernel
theorem i_77_20 : q_dec 77 20 = some (11, .goto 4, 3) := by decide +kernel
theorem i_77_23 : q_dec 77 23 = some (11, .iconst 0, 1) := by decide +kernel
theorem i_77_24 : q_dec 77 24 = some (11, .istore_n 2, 1) := by decide +kernel
theorem i_77_25 : q_dec 77 25 = some (11, .aload_n 0, 1) := by decide +kernel
theorem i_77_26 : q_dec 77 26 = some (11, .getfield 19, 3) := by decide +kernel
theorem i_77_29 : q_dec 77 29 = some (11, .iload_n 1, 1) := by decide +kernel
theorem i_77_30 : q_dec 77 30 = some (11, .iconst 1, 1) := by decide +kernel
theorem i_77_31 : q_dec 77 31 = some (11, .if_icmp .ne (7), 3) := by decide +kernel
theorem i_77_34 : q_dec 77 34 = some (11, .iconst 1, 1) := by decide +kernel
theorem i_77_35 : q_dec 77 35 = some (11, .goto 4, 3) := by decide +kernel
theorem i_77_38 : q_dec 77 38 = some (11, .iconst 0, 1) := by decide +kernel
theorem i_77_39 : q_dec 77 39 = some (11, .putfield 99, 3) := by decide +kernel
theorem i_77_42 : q_dec 77 42 = some (11, .iload_n 2, 1) := by decide +kernel
theorem i_77_43 : q_dec 77 43 = some (11, .ireturn, 1) := by decide +kernel
theorem i_78_0 : q_dec 78 0 = some (11, .iload_n 0, 1) := by decide +kernel
theorem i_78_1 : q_dec 78 1 = some (11, .ifCond .eq (8), 3) := by decide +kernel
theorem i_78_4 : q_dec 78 4 = some (11, .iload_n 0, 1) := by decide +kernel
theorem i_78_5 : q_dec 78 5 = some (11, .iconst 1, 1) := by decide +kernel
theorem i_78_6 : q_dec 78 6 = some (11, .if_icmp .ne (7), 3) := by decide +kernel
theorem i_78_9 : q_dec 78 9 = some (11, .iconst 1, 1) := by decide +kernel
theorem i_78_10 : q_dec 78 10 = some (11, .goto 4, 3) := by decide +kernel
theorem i_78_13 : q_dec 78 13 = some (11, .iconst 0, 1) := by decide +kernel
theorem i_78_14 : q_dec 78 14 = some (11, .ireturn, 1) := by decide +kernel
theorem i_79_0 : q_dec 79 0 = some (11, .aload_n 0, 1) := by decide +kernel
theorem i_79_1 : q_dec 79 1 = some (11, .getfield 54, 3) := by decide +kernel
theorem i_79_4 : q_dec 79 4 = some (11, .iload_n 1, 1) := by decide +kernel
theorem i_79_5 : q_dec 79 5 = some (11, .invokevirtual 129, 3) := by decide +kernel
theorem i_79_8 : q_dec 79 8 = some (11, .ifCond .eq (10), 3) := by decide +kernel
theorem i_79_11 : q_dec 79 11 = some (11, .iload_n 2, 1) := by decide +kernel
theorem i_79_12 : q_dec 79 12 = some (11, .invokestatic 173, 3) := by decide +kernel
theorem i_79_15 : q_dec 79 15 = some (11, .ifCond .ne (5), 3) := by decide +kernel
theorem i_79_18 : q_dec 79 18 = some (11, .iconst (-1), 1) := by decide +kernel
theorem i_79_19 : q_dec 79 19 = some (11, .ireturn, 1) := by decide +kernel
theorem i_79_20 : q_dec 79 20 = some (11, .aload_n 0, 1) := by decide +kernel
theorem i_79_21 : q_dec 79 21 = some (11, .getfield 47, 3) := by decide +kernel
theorem i_79_24 : q_dec 79 24 = some (11, .aload_n 0, 1) := by decide +kernel
theorem i_79_25 : q_dec 79 25 = some (11, .getfield 54, 3) := by decide +kernel
theorem i_79_28 : q_dec 79 28 = some (11, .aload_n 0, 1) := by decide +kernel
theorem i_79_29 : q_dec 79 29 = some (11, .getfield 19, 3) := by decide +kernel
theorem i_79_32 : q_dec 79 32 = some (11, .getfield 99, 3) := by decide +kernel
theorem i_79_35 : q_dec 79 35 = some (11, .invokevirtual 176, 3) := by decide +kernel
theorem i_79_38 : q_dec 79 38 = some (11, .aload_n 0, 1) := by decide +kernel
theorem i_79_39 : q_dec 79 39 = some (11, .getfield 47, 3) := by decide +kernel
theorem i_79_42 : q_dec 79 42 = some (11, .iload_n 1, 1) := by decide +kernel
theorem i_79_43 : q_dec 79 43 = some (11, .iload_n 2, 1) := by decide +kernel
theorem i_79_44 : q_dec 79 44 = some (11, .invokevirtual 180, 3) := by decide +kernel
theorem i_79_47 : q_dec 79 47 = some (11, .ireturn, 1) := by decide +kernel
theorem i_80_0 : q_dec 80 0 = some (11, .iload_n 0, 1) := by decide +kernel
theorem i_80_1 : q_dec 80 1 = some (11, .ifCond .lt (10), 3) := by decide +kernel
theorem i_80_4 : q_dec 80 4 = some (11, .iload_n 0, 1) := by decide +kernel
theorem i_80_5 : q_dec 80 5 = some (11, .ldc_w 265, 3) := by decide +kernel
theorem i_80_8 : q_dec 80 8 = some (11, .if_icmp .le (5), 3) := by decide +kernel
theorem i_80_11 : q_dec 80 11 = some (11, .iconst 0, 1) := by decide +kernel
theorem i_80_12 : q_dec 80 12 = some (11, .ireturn, 1) := by decide +kernel
theorem i_80_13 : q_dec 80 13 = some (11, .iload_n 0, 1) := by decide +kernel
theorem i_80_14 : q_dec 80 14 = some (11, .istore_n 1, 1) := by decide +kernel
theorem i_80_15 : q_dec 80 15 = some (11, .iload_n 1, 1) := by decide +kernel
theorem i_80_16 : q_dec 80 16 = some (11, .ifCond .le (28), 3) := by decide +kernel
theorem i_80_19 : q_dec 80 19 = some (11, .iload_n 1, 1) := by decide +kernel
theorem i_80_20 : q_dec 80 20 = some (11, .bipush 10, 2) := by decide +kernel
theorem i_80_22 : q_dec 80 22 = some (11, .irem, 1) := by decide +kernel
theorem i_80_23 : q_dec 80 23 = some (11, .istore_n 2, 1) := by decide +kernel
theorem i_80_24 : q_dec 80 24 = some (11, .iload_n 2, 1) := by decide +kernel
theorem i_80_25 : q_dec 80 25 = some (11, .iconst 1, 1) := by decide +kernel
theorem i_80_26 : q_dec 80 26 = some (11, .if_icmp .lt (8), 3) := by decide +kernel
theorem i_80_29 : q_dec 80 29 = some (11, .iload_n 2, 1) := by decide +kernel
theorem i_80_30 : q_dec 80 30 = some (11, .iconst 4, 1) := by decide +kernel
theorem i_80_31 : q_dec 80 31 = some (11, .if_icmp .le (5), 3) := by decide +kernel
theorem i_80_34 : q_dec 80 34 = some (11, .iconst 0, 1) := by decide +kernel
theorem i_80_35 : q_dec 80 35 = some (11, .ireturn, 1) := by decide +kernel
theorem i_80_36 : q_dec 80 36 = some (11, .iload_n 1, 1) := by decide +kernel
theorem i_80_37 : q_dec 80 37 = some (11, .bipush 10, 2) := by decide +kernel
theorem i_80_39 : q_dec 80 39 = some (11, .idiv, 1) := by decide +kernel
theorem i_80_40 : q_dec 80 40 = some (11, .istore_n 1, 1) := by decide +kernel
theorem i_80_41 : q_dec 80 41 = some (11, .goto (-26), 3) := by decide +kernel
theorem i_80_44 : q_dec 80 44 = some (11, .iconst 1, 1) := by decide +kernel
theorem i_80_45 : q_dec 80 45 = some (11, .ireturn, 1) := by decide +kernel
theorem i_81_0 : q_dec 81 0 = some (11, .aload_n 0, 1) := by decide +kernel
theorem i_81_1 : q_dec 81 1 = some (11, .iload_n 1, 1) := by decide +kernel
theorem i_81_2 : q_dec 81 2 = some (11, .iload_n 2, 1) := by decide +kernel
theorem i_81_3 : q_dec 81 3 = some (11, .invokevirtual 183, 3) := by decide +kernel
theorem i_81_6 : q_dec 81 6 = some (11, .ifCond .eq (9), 3) := by decide +kernel
theorem i_81_9 : q_dec 81 9 = some (11, .iload_n 3, 1) := by decide +kernel
theorem i_81_10 : q_dec 81 10 = some (11, .bipush (-2), 2) := by decide +kernel
theorem i_81_12 : q_dec 81 12 = some (11, .if_icmp .ge (5), 3) := by decide +kernel
theorem i_81_15 : q_dec 81 15 = some (11, .iconst (-1), 1) := by decide +kernel
theorem i_81_16 : q_dec 81 16 = some (11, .ireturn, 1) := by decide +kernel
theorem i_81_17 : q_dec 81 17 = some (11, .aload_n 0, 1) := by decide +kernel
theorem i_81_18 : q_dec 81 18 = some (11, .getfield 47, 3) := by decide +kernel
theorem i_81_21 : q_dec 81 21 = some (11, .aload_n 0, 1) := by decide +kernel
theorem i_81_22 : q_dec 81 22 = some (11, .getfield 54, 3) := by decide +kernel
theorem i_81_25 : q_dec 81 25 = some (11, .aload_n 0, 1) := by decide +kernel
theorem i_81_26 : q_dec 81 26 = some (11, .getfield 19, 3) := by decide +kernel
theorem i_81_29 : q_dec 81 29 = some (11, .getfield 99, 3) := by decide +kernel
theorem i_81_32 : q_dec 81 32 = some (11, .invokevirtual 176, 3) := by decide +kernel
theorem i_81_35 : q_dec 81 35 = some (11, .aload_n 0, 1) := by decide +kernel
theorem i_81_36 : q_dec 81 36 = some (11, .getfield 47, 3) := by decide +kernel
theorem i_81_39 : q_dec 81 39 = some (11, .iload_n 2, 1) := by decide +kernel
theorem i_81_40 : q_dec 81 40 = some (11, .invokevirtual 187, 3) := by decide +kernel
theorem i_81_43 : q_dec 81 43 = some (11, .aload_n 0, 1) := by decide +kernel
theorem i_81_44 : q_dec 81 44 = some (11, .getfield 47, 3) := by decide +kernel
theorem i_81_47 : q_dec 81 47 = some (11, .iload_n 1, 1) := by decide +kernel
theorem i_81_48 : q_dec 81 48 = some (11, .invokevirtual 191, 3) := by decide +kernel
theorem i_81_51 : q_dec 81 51 = some (11, .istore 4, 2) := by decide +kernel
theorem i_81_53 : q_dec 81 53 = some (11, .iload 4, 2) := by decide +kernel
theorem i_81_55 : q_dec 81 55 = some (11, .ldc 194, 2) := by decide +kernel
theorem i_81_57 : q_dec 81 57 = some (11, .if_icmp .lt (6), 3) := by decide +kernel
theorem i_81_60 : q_dec 81 60 = some (11, .bipush (-9), 2) := by decide +kernel
theorem i_81_62 : q_dec 81 62 = some (11, .ireturn, 1) := by decide +kernel
theorem i_81_63 : q_dec 81 63 = some (11, .iload_n 3, 1) := by decide +kernel
theorem i_81_64 : q_dec 81 64 = some (11, .bipush (-2), 2) := by decide +kernel
theorem i_81_66 : q_dec 81 66 = some (11, .if_icmp .ne (9), 3) := by decide +kernel
theorem i_81_69 : q_dec 81 69 = some (11, .iload 4, 2) := by decide +kernel
theorem i_81_71 : q_dec 81 71 = some (11, .invokestatic 195, 3) := by decide +kernel
theorem i_81_74 : q_dec 81 74 = some (11, .ireturn, 1) := by decide +kernel
theorem i_81_75 : q_dec 81 75 = some (11, .iload_n 3, 1) := by decide +kernel
theorem i_81_76 : q_dec 81 76 = some (11, .iconst (-1), 1) := by decide +kernel
theorem i_81_77 : q_dec 81 77 = some (11, .if_icmp .ne (9), 3) := by decide +kernel
theorem i_81_80 : q_dec 81 80 = some (11, .iload 4, 2) := by decide +kernel
theorem i_81_82 : q_dec 81 82 = some (11, .invokestatic 198, 3) := by decide +kernel
theorem i_81_85 : q_dec 81 85 = some (11, .ireturn, 1) := by decide +kernel
theorem i_81_86 : q_dec 81 86 = some (11, .iload_n 3, 1) := by decide +kernel
theorem i_81_87 : q_dec 81 87 = some (11, .iload 4, 2) := by decide +kernel
theorem i_81_89 : q_dec 81 89 = some (11, .invokestatic 198, 3) := by decide +kernel
theorem i_81_92 : q_dec 81 92 = some (11, .if_icmp .ge (15), 3) := by decide +kernel
theorem i_81_95 : q_dec 81 95 = some (11, .aload_n 0, 1) := by decide +kernel
theorem i_81_96 : q_dec 81 96 = some (11, .getfield 47, 3) := by decide +kernel
theorem i_81_99 : q_dec 81 99 = some (11, .iload_n 1, 1) := by decide +kernel
theorem i_81_100 : q_dec 81 100 = some (11, .iload_n 3, 1) := by decide +kernel
theorem i_81_101 : q_dec 81 101 = some (11, .invokevirtual 201, 3) := by decide +kernel
theorem i_81_104 : q_dec 81 104 = some (11, .goto 5, 3) := by decide +kernel
theorem i_81_107 : q_dec 81 107 = some (11, .bipush (-5), 2) := by decide +kernel
theorem i_81_109 : q_dec 81 109 = some (11, .ireturn, 1) := by decide +kernel
theorem i_82_0 : q_dec 82 0 = some (11, .aload_n 0, 1) := by decide +kernel
theorem i_82_1 : q_dec 82 1 = some (11, .getfield 54, 3) := by decide +kernel
theorem i_82_4 : q_dec 82 4 = some (11, .iload_n 1, 1) := by decide +kernel
theorem i_82_5 : q_dec 82 5 = some (11, .invokevirtual 129, 3) := by decide +kernel
theorem i_82_8 : q_dec 82 8 = some (11, .ifCond .eq (18), 3) := by decide +kernel
theorem i_82_11 : q_dec 82 11 = some (11, .aload_n 0, 1) := by decide +kernel
theorem i_82_12 : q_dec 82 12 = some (11, .getfield 54, 3) := by decide +kernel
theorem i_82_15 : q_dec 82 15 = some (11, .iload_n 2, 1) := by decide +kernel
theorem i_82_16 : q_dec 82 16 = some (11, .invokevirtual 129, 3) := by decide +kernel
theorem i_82_19 : q_dec 82 19 = some (11, .ifCond .eq (7), 3) := by decide +kernel
theorem i_82_22 : q_dec 82 22 = some (11, .iconst 1, 1) := by decide +kernel
theorem i_82_23 : q_dec 82 23 = some (11, .goto 4, 3) := by decide +kernel
theorem i_82_26 : q_dec 82 26 = some (11, .iconst 0, 1) := by decide +kernel
theorem i_82_27 : q_dec 82 27 = some (11, .ireturn, 1) := by decide +kernel
theorem i_83_0 : q_dec 83 0 = some (11, .aload_n 0, 1) := by decide +kernel
theorem i_83_1 : q_dec 83 1 = some (11, .iload_n 1, 1) := by decide +kernel
theorem i_83_2 : q_dec 83 2 = some (11, .iload_n 2, 1) := by decide +kernel
theorem i_83_3 : q_dec 83 3 = some (11, .invokevirtual 183, 3) := by decide +kernel
theorem i_83_6 : q_dec 83 6 = some (11, .ifCond .eq (7), 3) := by decide +kernel
theorem i_83_9 : q_dec 83 9 = some (11, .iload_n 3, 1) := by decide +kernel
theorem i_83_10 : q_dec 83 10 = some (11, .ifCond .ge (5), 3) := by decide +kernel
theorem i_83_13 : q_dec 83 13 = some (11, .iconst (-1), 1) := by decide +kernel
theorem i_83_14 : q_dec 83 14 = some (11, .ireturn, 1) := by decide +kernel
theorem i_83_15 : q_dec 83 15 = some (11, .aload_n 0, 1) := by decide +kernel
theorem i_83_16 : q_dec 83 16 = some (11, .getfield 47, 3) := by decide +kernel
theorem i_83_19 : q_dec 83 19 = some (11, .aload_n 0, 1) := by decide +kernel
theorem i_83_20 : q_dec 83 20 = some (11, .getfield 54, 3) := by decide +kernel
theorem i_83_23 : q_dec 83 23 = some (11, .aload_n 0, 1) := by decide +kernel
theorem i_83_24 : q_dec 83 24 = some (11, .getfield 19, 3) := by decide +kernel
theorem i_83_27 : q_dec 83 27 = some (11, .getfield 99, 3) := by decide +kernel
theorem i_83_30 : q_dec 83 30 = some (11, .invokevirtual 176, 3) := by decide +kernel
theorem i_83_33 : q_dec 83 33 = some (11, .iload_n 3, 1) := by decide +kernel
theorem i_83_34 : q_dec 83 34 = some (11, .ldc 204, 2) := by decide +kernel
theorem i_83_36 : q_dec 83 36 = some (11, .invokestatic 205, 3) := by decide +kernel
theorem i_83_39 : q_dec 83 39 = some (11, .istore 4, 2) := by decide +kernel
theorem i_83_41 : q_dec 83 41 = some (11, .aload_n 0, 1) := by decide +kernel
theorem i_83_42 : q_dec 83 42 = some (11, .getfield 47, 3) := by decide +kernel
theorem i_83_45 : q_dec 83 45 = some (11, .iload_n 1, 1) := by decide +kernel
theorem i_83_46 : q_dec 83 46 = some (11, .iload_n 2, 1) := by decide +kernel
theorem i_83_47 : q_dec 83 47 = some (11, .invokevirtual 210, 3) := by decide +kernel
theorem i_83_50 : q_dec 83 50 = some (11, .iload 4, 2) := by decide +kernel
theorem i_83_52 : q_dec 83 52 = some (11, .if_icmp .le (6), 3) := by decide +kernel
theorem i_83_55 : q_dec 83 55 = some (11, .bipush (-9), 2) := by decide +kernel
theorem i_83_57 : q_dec 83 57 = some (11, .ireturn, 1) := by decide +kernel
theorem i_83_58 : q_dec 83 58 = some (11, .iconst 0, 1) := by decide +kernel
theorem i_83_59 : q_dec 83 59 = some (11, .istore 5, 2) := by decide +kernel
theorem i_83_61 : q_dec 83 61 = some (11, .iload 5, 2) := by decide +kernel
theorem i_83_63 : q_dec 83 63 = some (11, .bipush 60, 2) := by decide +kernel
theorem i_83_65 : q_dec 83 65 = some (11, .if_icmp .gt (28), 3) := by decide +kernel
theorem i_83_68 : q_dec 83 68 = some (11, .aload_n 0, 1) := by decide +kernel
theorem i_83_69 : q_dec 83 69 = some (11, .getfield 47, 3) := by decide +kernel
theorem i_83_72 : q_dec 83 72 = some (11, .iload 5, 2) := by decide +kernel
theorem i_83_74 : q_dec 83 74 = some (11, .iload_n 1, 1) := by decide +kernel
theorem i_83_75 : q_dec 83 75 = some (11, .iload_n 2, 1) := by decide +kernel
theorem i_83_76 : q_dec 83 76 = some (11, .invokevirtual 213, 3) := by decide +kernel
theorem i_83_79 : q_dec 83 79 = some (11, .iload 4, 2) := by decide +kernel
theorem i_83_81 : q_dec 83 81 = some (11, .if_icmp .gt (6), 3) := by decide +kernel
theorem i_83_84 : q_dec 83 84 = some (11, .iload 5, 2) := by decide +kernel
theorem i_83_86 : q_dec 83 86 = some (11, .ireturn, 1) := by decide +kernel
theorem i_83_87 : q_dec 83 87 = some (11, .iinc 5 1, 3) := by decide +kernel
theorem i_83_90 : q_dec 83 90 = some (11, .goto (-29), 3) := by decide +kernel
theorem i_83_93 : q_dec 83 93 = some (11, .bipush (-9), 2) := by decide +kernel
theorem i_83_95 : q_dec 83 95 = some (11, .ireturn, 1) := by decide +kernel
theorem i_84_0 : q_dec 84 0 = some (11, .aload_n 0, 1) := by decide +kernel
theorem i_84_1 : q_dec 84 1 = some (11, .iload_n 1, 1) := by decide +kernel
theorem i_84_2 : q_dec 84 2 = some (11, .iload_n 2, 1) := by decide +kernel
theorem i_84_3 : q_dec 84 3 = some (11, .invokevirtual 183, 3) := by decide +kernel
theorem i_84_6 : q_dec 84 6 = some (11, .ifCond .eq (16), 3) := by decide +kernel
theorem i_84_9 : q_dec 84 9 = some (11, .iload_n 3, 1) := by decide +kernel
theorem i_84_10 : q_dec 84 10 = some (11, .iconst (-1), 1) := by decide +kernel
theorem i_84_11 : q_dec 84 11 = some (11, .if_icmp .lt (11), 3) := by decide +kernel
theorem i_84_14 : q_dec 84 14 = some (11, .iload 4, 2) := by decide +kernel
theorem i_84_16 : q_dec 84 16 = some (11, .invokestatic 170, 3) := by decide +kernel
theorem i_84_19 : q_dec 84 19 = some (11, .ifCond .ne (5), 3) := by decide +kernel
theorem i_84_22 : q_dec 84 22 = some (11, .iconst (-1), 1) := by decide +kernel
theorem i_84_23 : q_dec 84 23 = some (11, .ireturn, 1) := by decide +kernel
theorem i_84_24 : q_dec 84 24 = some (11, .aload_n 0, 1) := by decide +kernel
theorem i_84_25 : q_dec 84 25 = some (11, .getfield 47, 3) := by decide +kernel
theorem i_84_28 : q_dec 84 28 = some (11, .aload_n 0, 1) := by decide +kernel
theorem i_84_29 : q_dec 84 29 = some (11, .getfield 54, 3) := by decide +kernel
theorem i_84_32 : q_dec 84 32 = some (11, .aload_n 0, 1) := by decide +kernel
theorem i_84_33 : q_dec 84 33 = some (11, .getfield 19, 3) := by decide +kernel
theorem i_84_36 : q_dec 84 36 = some (11, .getfield 99, 3) := by decide +kernel
theorem i_84_39 : q_dec 84 39 = some (11, .invokevirtual 176, 3) := by decide +kernel
theorem i_84_42 : q_dec 84 42 = some (11, .aload_n 0, 1) := by decide +kernel
theorem i_84_43 : q_dec 84 43 = some (11, .getfield 47, 3) := by decide +kernel
theorem i_84_46 : q_dec 84 46 = some (11, .iload_n 1, 1) := by decide +kernel
theorem i_84_47 : q_dec 84 47 = some (11, .iload_n 2, 1) := by decide +kernel
theorem i_84_48 : q_dec 84 48 = some (11, .invokevirtual 210, 3) := by decide +kernel
theorem i_84_51 : q_dec 84 51 = some (11, .istore 5, 2) := by decide +kernel
theorem i_84_53 : q_dec 84 53 = some (11, .ldc 194, 2) := by decide +kernel
theorem i_84_55 : q_dec 84 55 = some (11, .istore 6, 2) := by decide +kernel
theorem i_84_57 : q_dec 84 57 = some (11, .iconst 0, 1) := by decide +kernel
theorem i_84_58 : q_dec 84 58 = some (11, .istore 7, 2) := by decide +kernel
theorem i_84_60 : q_dec 84 60 = some (11, .iconst 0, 1) := by decide +kernel
theorem i_84_61 : q_dec 84 61 = some (11, .istore 8, 2) := by decide +kernel
theorem i_84_63 : q_dec 84 63 = some (11, .iload 8, 2) := by decide +kernel
theorem i_84_65 : q_dec 84 65 = some (11, .bipush 60, 2) := by decide +kernel
theorem i_84_67 : q_dec 84 67 = some (11, .if_icmp .gt (62), 3) := by decide +kernel
theorem i_84_70 : q_dec 84 70 = some (11, .iload 6, 2) := by decide +kernel
theorem i_84_72 : q_dec 84 72 = some (11, .iload 5, 2) := by decide +kernel
theorem i_84_74 : q_dec 84 74 = some (11, .if_icmp .le (55), 3) := by decide +kernel
theorem i_84_77 : q_dec 84 77 = some (11, .aload_n 0, 1) := by decide +kernel
theorem i_84_78 : q_dec 84 78 = some (11, .getfield 47, 3) := by decide +kernel
theorem i_84_81 : q_dec 84 81 = some (11, .iload 8, 2) := by decide +kernel
theorem i_84_83 : q_dec 84 83 = some (11, .iload_n 1, 1) := by decide +kernel
theorem i_84_84 : q_dec 84 84 = some (11, .iload_n 2, 1) := by decide +kernel
theorem i_84_85 : q_dec 84 85 = some (11, .invokevirtual 213, 3) := by decide +kernel
theorem i_84_88 : q_dec 84 88 = some (11, .istore 9, 2) := by decide +kernel
theorem i_84_90 : q_dec 84 90 = some (11, .iload 9, 2) := by decide +kernel
theorem i_84_92 : q_dec 84 92 = some (11, .iload 6, 2) := by decide +kernel
theorem i_84_94 : q_dec 84 94 = some (11, .if_icmp .ge (29), 3) := by decide +kernel
theorem i_84_97 : q_dec 84 97 = some (11, .iload 7, 2) := by decide +kernel
theorem i_84_99 : q_dec 84 99 = some (11, .iload_n 3, 1) := by decide +kernel
theorem i_84_100 : q_dec 84 100 = some (11, .if_icmp .ne (16), 3) := by decide +kernel
theorem i_84_103 : q_dec 84 103 = some (11, .iload 4, 2) := by decide +kernel
theorem i_84_105 : q_dec 84 105 = some (11, .ifCond .ne (8), 3) := by decide +kernel
theorem i_84_108 : q_dec 84 108 = some (11, .iload 8, 2) := by decide +kernel
theorem i_84_110 : q_dec 84 110 = some (11, .goto 5, 3) := by decide +kernel
theorem i_84_113 : q_dec 84 113 = some (11, .iload 9, 2) := by decide +kernel
theorem i_84_115 : q_dec 84 115 = some (11, .ireturn, 1) := by decide +kernel
theorem i_84_116 : q_dec 84 116 = some (11, .iload 9, 2) := by decide +kernel
theorem i_84_118 : q_dec 84 118 = some (11, .istore 6, 2) := by decide +kernel
theorem i_84_120 : q_dec 84 120 = some (11, .iinc 7 1, 3) := by decide +kernel
theorem i_84_123 : q_dec 84 123 = some (11, .iinc 8 1, 3) := by decide +kernel
theorem i_84_126 : q_dec 84 126 = some (11, .goto (-63), 3) := by decide +kernel
theorem i_84_129 : q_dec 84 129 = some (11, .iload_n 3, 1) := by decide +kernel
theorem i_84_130 : q_dec 84 130 = some (11, .iconst (-1), 1) := by decide +kernel
theorem i_84_131 : q_dec 84 131 = some (11, .if_icmp .ne (8), 3) := by decide +kernel
theorem i_84_134 : q_dec 84 134 = some (11, .iload 7, 2) := by decide +kernel
theorem i_84_136 : q_dec 84 136 = some (11, .goto 5, 3) := by decide +kernel
theorem i_84_139 : q_dec 84 139 = some (11, .bipush (-5), 2) := by decide +kernel
theorem i_84_141 : q_dec 84 141 = some (11, .ireturn, 1) := by decide +kernel
theorem i_85_0 : q_dec 85 0 = some (11, .aload_n 0, 1) := by decide +kernel
theorem i_85_1 : q_dec 85 1 = some (11, .iload_n 1, 1) := by decide +kernel
theorem i_85_2 : q_dec 85 2 = some (11, .iload_n 2, 1) := by decide +kernel
theorem i_85_3 : q_dec 85 3 = some (11, .invokevirtual 183, 3) := by decide +kernel
theorem i_85_6 : q_dec 85 6 = some (11, .ifCond .ne (5), 3) := by decide +kernel
theorem i_85_9 : q_dec 85 9 = some (11, .iconst (-1), 1) := by decide +kernel
theorem i_85_10 : q_dec 85 10 = some (11, .ireturn, 1) := by decide +kernel
theorem i_85_11 : q_dec 85 11 = some (11, .iload_n 1, 1) := by decide +kernel
theorem i_85_12 : q_dec 85 12 = some (11, .iload_n 2, 1) := by decide +kernel
theorem i_85_13 : q_dec 85 13 = some (11, .if_icmp .ne (5), 3) := by decide +kernel
theorem i_85_16 : q_dec 85 16 = some (11, .iconst 0, 1) := by decide +kernel
theorem i_85_17 : q_dec 85 17 = some (11, .ireturn, 1) := by decide +kernel
theorem i_85_18 : q_dec 85 18 = some (11, .iconst 1, 1) := by decide +kernel
theorem i_85_19 : q_dec 85 19 = some (11, .iload_n 1, 1) := by decide +kernel
theorem i_85_20 : q_dec 85 20 = some (11, .ishl, 1) := by decide +kernel
theorem i_85_21 : q_dec 85 21 = some (11, .istore_n 3, 1) := by decide +kernel
theorem i_85_22 : q_dec 85 22 = some (11, .iconst 0, 1) := by decide +kernel
theorem i_85_23 : q_dec 85 23 = some (11, .istore 4, 2) := by decide +kernel
theorem i_85_25 : q_dec 85 25 = some (11, .iload 4, 2) := by decide +kernel
theorem i_85_27 : q_dec 85 27 = some (11, .bipush 20, 2) := by decide +kernel
theorem i_85_29 : q_dec 85 29 = some (11, .if_icmp .gt (45), 3) := by decide +kernel
theorem i_85_32 : q_dec 85 32 = some (11, .iload_n 3, 1) := by decide +kernel
theorem i_85_33 : q_dec 85 33 = some (11, .aload_n 0, 1) := by decide +kernel
theorem i_85_34 : q_dec 85 34 = some (11, .getfield 54, 3) := by decide +kernel
theorem i_85_37 : q_dec 85 37 = some (11, .iload_n 3, 1) := by decide +kernel
theorem i_85_38 : q_dec 85 38 = some (11, .invokevirtual 217, 3) := by decide +kernel
theorem i_85_41 : q_dec 85 41 = some (11, .ior, 1) := by decide +kernel
theorem i_85_42 : q_dec 85 42 = some (11, .istore 5, 2) := by decide +kernel
theorem i_85_44 : q_dec 85 44 = some (11, .iload 5, 2) := by decide +kernel
theorem i_85_46 : q_dec 85 46 = some (11, .iload_n 2, 1) := by decide +kernel
theorem i_85_47 : q_dec 85 47 = some (11, .invokestatic 220, 3) := by decide +kernel
theorem i_85_50 : q_dec 85 50 = some (11, .ifCond .eq (6), 3) := by decide +kernel
theorem i_85_53 : q_dec 85 53 = some (11, .iload 4, 2) := by decide +kernel
theorem i_85_55 : q_dec 85 55 = some (11, .ireturn, 1) := by decide +kernel
theorem i_85_56 : q_dec 85 56 = some (11, .iload 5, 2) := by decide +kernel
theorem i_85_58 : q_dec 85 58 = some (11, .iload_n 3, 1) := by decide +kernel
theorem i_85_59 : q_dec 85 59 = some (11, .if_icmp .ne (6), 3) := by decide +kernel
theorem i_85_62 : q_dec 85 62 = some (11, .bipush (-9), 2) := by decide +kernel
theorem i_85_64 : q_dec 85 64 = some (11, .ireturn, 1) := by decide +kernel
theorem i_85_65 : q_dec 85 65 = some (11, .iload 5, 2) := by decide +kernel
theorem i_85_67 : q_dec 85 67 = some (11, .istore_n 3, 1) := by decide +kernel
theorem i_85_68 : q_dec 85 68 = some (11, .iinc 4 1, 3) := by decide +kernel
theorem i_85_71 : q_dec 85 71 = some (11, .goto (-46), 3) := by decide +kernel
theorem i_85_74 : q_dec 85 74 = some (11, .bipush (-9), 2) := by decide +kernel
theorem i_85_76 : q_dec 85 76 = some (11, .ireturn, 1) := by decide +kernel
theorem i_86_0 : q_dec 86 0 = some (11, .iload_n 0, 1) := by decide +kernel
theorem i_86_1 : q_dec 86 1 = some (11, .iload_n 1, 1) := by decide +kernel
theorem i_86_2 : q_dec 86 2 = some (11, .ishr, 1) := by decide +kernel
theorem i_86_3 : q_dec 86 3 = some (11, .iconst 1, 1) := by decide +kernel
theorem i_86_4 : q_dec 86 4 = some (11, .iand, 1) := by decide +kernel
theorem i_86_5 : q_dec 86 5 = some (11, .ifCond .eq (7), 3) := by decide +kernel
theorem i_86_8 : q_dec 86 8 = some (11, .iconst 1, 1) := by decide +kernel
theorem i_86_9 : q_dec 86 9 = some (11, .goto 4, 3) := by decide +kernel
theorem i_86_12 : q_dec 86 12 = some (11, .iconst 0, 1) := by decide +kernel
theorem i_86_13 : q_dec 86 13 = some (11, .ireturn, 1) := by decide +kernel
theorem i_87_0 : q_dec 87 0 = some (11, .aload_n 0, 1) := by decide +kernel
theorem i_87_1 : q_dec 87 1 = some (11, .getfield 54, 3) := by decide +kernel
theorem i_87_4 : q_dec 87 4 = some (11, .iload_n 1, 1) := by decide +kernel
theorem i_87_5 : q_dec 87 5 = some (11, .invokevirtual 129, 3) := by decide +kernel
theorem i_87_8 : q_dec 87 8 = some (11, .ifCond .eq (11), 3) := by decide +kernel
theorem i_87_11 : q_dec 87 11 = some (11, .aload_n 0, 1) := by decide +kernel
theorem i_87_12 : q_dec 87 12 = some (11, .iload_n 2, 1) := by decide +kernel
theorem i_87_13 : q_dec 87 13 = some (11, .invokevirtual 223, 3) := by decide +kernel
theorem i_87_16 : q_dec 87 16 = some (11, .ifCond .ne (5), 3) := by decide +kernel
theorem i_87_19 : q_dec 87 19 = some (11, .iconst (-1), 1) := by decide +kernel
theorem i_87_20 : q_dec 87 20 = some (11, .ireturn, 1) := by decide +kernel
theorem i_87_21 : q_dec 87 21 = some (11, .aload_n 0, 1) := by decide +kernel
theorem i_87_22 : q_dec 87 22 = some (11, .getfield 47, 3) := by decide +kernel
theorem i_87_25 : q_dec 87 25 = some (11, .aload_n 0, 1) := by decide +kernel
theorem i_87_26 : q_dec 87 26 = some (11, .getfield 54, 3) := by decide +kernel
theorem i_87_29 : q_dec 87 29 = some (11, .aload_n 0, 1) := by decide +kernel
theorem i_87_30 : q_dec 87 30 = some (11, .getfield 19, 3) := by decide +kernel
theorem i_87_33 : q_dec 87 33 = some (11, .getfield 99, 3) := by decide +kernel
theorem i_87_36 : q_dec 87 36 = some (11, .invokevirtual 176, 3) := by decide +kernel
theorem i_87_39 : q_dec 87 39 = some (11, .aload_n 0, 1) := by decide +kernel
theorem i_87_40 : q_dec 87 40 = some (11, .getfield 47, 3) := by decide +kernel
theorem i_87_43 : q_dec 87 43 = some (11, .iload_n 1, 1) := by decide +kernel
theorem i_87_44 : q_dec 87 44 = some (11, .iload_n 2, 1) := by decide +kernel
theorem i_87_45 : q_dec 87 45 = some (11, .invokevirtual 226, 3) := by decide +kernel
theorem i_87_48 : q_dec 87 48 = some (11, .ireturn, 1) := by decide +kernel
theorem i_88_0 : q_dec 88 0 = some (11, .iload_n 1, 1) := by decide +kernel
theorem i_88_1 : q_dec 88 1 = some (11, .ifCond .lt (23), 3) := by decide +kernel
theorem i_88_4 : q_dec 88 4 = some (11, .iload_n 1, 1) := by decide +kernel
theorem i_88_5 : q_dec 88 5 = some (11, .aload_n 0, 1) := by decide +kernel
theorem i_88_6 : q_dec 88 6 = some (11, .getfield 54, 3) := by decide +kernel
theorem i_88_9 : q_dec 88 9 = some (11, .invokevirtual 235, 3) := by decide +kernel
theorem i_88_12 : q_dec 88 12 = some (11, .ishr, 1) := by decide +kernel
theorem i_88_13 : q_dec 88 13 = some (11, .ifCond .ne (11), 3) := by decide +kernel
theorem i_88_16 : q_dec 88 16 = some (11, .iload_n 1, 1) := by decide +kernel
theorem i_88_17 : q_dec 88 17 = some (11, .invokestatic 266, 3) := by decide +kernel
theorem i_88_20 : q_dec 88 20 = some (11, .iconst 4, 1) := by decide +kernel
theorem i_88_21 : q_dec 88 21 = some (11, .if_icmp .le (5), 3) := by decide +kernel
theorem i_88_24 : q_dec 88 24 = some (11, .iconst 0, 1) := by decide +kernel
theorem i_88_25 : q_dec 88 25 = some (11, .ireturn, 1) := by decide +kernel
theorem i_88_26 : q_dec 88 26 = some (11, .iconst 0, 1) := by decide +kernel
theorem i_88_27 : q_dec 88 27 = some (11, .istore_n 2, 1) := by decide +kernel
theorem i_88_28 : q_dec 88 28 = some (11, .iload_n 2, 1) := by decide +kernel
theorem i_88_29 : q_dec 88 29 = some (11, .aload_n 0, 1) := by decide +kernel
theorem i_88_30 : q_dec 88 30 = some (11, .getfield 54, 3) := by decide +kernel
theorem i_88_33 : q_dec 88 33 = some (11, .invokevirtual 235, 3) := by decide +kernel
theorem i_88_36 : q_dec 88 36 = some (11, .if_icmp .ge (30), 3) := by decide +kernel
theorem i_88_39 : q_dec 88 39 = some (11, .iload_n 1, 1) := by decide +kernel
theorem i_88_40 : q_dec 88 40 = some (11, .iload_n 2, 1) := by decide +kernel
theorem i_88_41 : q_dec 88 41 = some (11, .invokestatic 220, 3) := by decide +kernel
theorem i_88_44 : q_dec 88 44 = some (11, .ifCond .eq (16), 3) := by decide +kernel
theorem i_88_47 : q_dec 88 47 = some (11, .aload_n 0, 1) := by decide +kernel
theorem i_88_48 : q_dec 88 48 = some (11, .getfield 54, 3) := by decide +kernel
theorem i_88_51 : q_dec 88 51 = some (11, .iload_n 2, 1) := by decide +kernel
theorem i_88_52 : q_dec 88 52 = some (11, .invokevirtual 129, 3) := by decide +kernel
theorem i_88_55 : q_dec 88 55 = some (11, .ifCond .ne (5), 3) := by decide +kernel
theorem i_88_58 : q_dec 88 58 = some (11, .iconst 0, 1) := by decide +kernel
theorem i_88_59 : q_dec 88 59 = some (11, .ireturn, 1) := by decide +kernel
theorem i_88_60 : q_dec 88 60 = some (11, .iinc 2 1, 3) := by decide +kernel
theorem i_88_63 : q_dec 88 63 = some (11, .goto (-35), 3) := by decide +kernel
theorem i_88_66 : q_dec 88 66 = some (11, .iconst 1, 1) := by decide +kernel
theorem i_88_67 : q_dec 88 67 = some (11, .ireturn, 1) := by decide +kernel
theorem i_89_0 : q_dec 89 0 = some (11, .aload_n 0, 1) := by decide +kernel
theorem i_89_1 : q_dec 89 1 = some (11, .iload_n 1, 1) := by decide +kernel
theorem i_89_2 : q_dec 89 2 = some (11, .iload_n 2, 1) := by decide +kernel
theorem i_89_3 : q_dec 89 3 = some (11, .invokevirtual 183, 3) := by decide +kernel
theorem i_89_6 : q_dec 89 6 = some (11, .ifCond .ne (5), 3) := by decide +kernel
theorem i_89_9 : q_dec 89 9 = some (11, .iconst (-1), 1) := by decide +kernel
theorem i_89_10 : q_dec 89 10 = some (11, .ireturn, 1) := by decide +kernel
theorem i_89_11 : q_dec 89 11 = some (11, .aload_n 0, 1) := by decide +kernel
theorem i_89_12 : q_dec 89 12 = some (11, .getfield 34, 3) := by decide +kernel
theorem i_89_15 : q_dec 89 15 = some (11, .iload_n 1, 1) := by decide +kernel
theorem i_89_16 : q_dec 89 16 = some (11, .iload_n 2, 1) := by decide +kernel
theorem i_89_17 : q_dec 89 17 = some (11, .invokevirtual 229, 3) := by decide +kernel
theorem i_89_20 : q_dec 89 20 = some (11, .ifCond .eq (13), 3) := by decide +kernel
theorem i_89_23 : q_dec 89 23 = some (11, .aload_n 0, 1) := by decide +kernel
theorem i_89_24 : q_dec 89 24 = some (11, .getfield 34, 3) := by decide +kernel
theorem i_89_27 : q_dec 89 27 = some (11, .getfield 103, 3) := by decide +kernel
theorem i_89_30 : q_dec 89 30 = some (11, .goto 5, 3) := by decide +kernel
theorem i_89_33 : q_dec 89 33 = some (11, .bipush (-3), 2) := by decide +kernel
theorem i_89_35 : q_dec 89 35 = some (11, .ireturn, 1) := by decide +kernel
theorem i_90_0 : q_dec 90 0 = some (11, .aload_n 0, 1) := by decide +kernel
theorem i_90_1 : q_dec 90 1 = some (11, .getfield 34, 3) := by decide +kernel
theorem i_90_4 : q_dec 90 4 = some (11, .getfield 103, 3) := by decide +kernel
theorem i_90_7 : q_dec 90 7 = some (11, .istore_n 1, 1) := by decide +kernel
theorem i_90_8 : q_dec 90 8 = some (11, .aload_n 0, 1) := by decide +kernel
theorem i_90_9 : q_dec 90 9 = some (11, .getfield 34, 3) := by decide +kernel
theorem i_90_12 : q_dec 90 12 = some (11, .iconst 0, 1) := by decide +kernel
theorem i_90_13 : q_dec 90 13 = some (11, .putfield 103, 3) := by decide +kernel
theorem i_90_16 : q_dec 90 16 = some (11, .iload_n 1, 1) := by decide +kernel
theorem i_90_17 : q_dec 90 17 = some (11, .ireturn, 1) := by decide +kernel
theorem i_91_0 : q_dec 91 0 = some (11, .iload_n 1, 1) := by decide +kernel
theorem i_91_1 : q_dec 91 1 = some (11, .invokestatic 170, 3) := by decide +kernel
theorem i_91_4 : q_dec 91 4 = some (11, .ifCond .ne (5), 3) := by decide +kernel
theorem i_91_7 : q_dec 91 7 = some (11, .iconst (-1), 1) := by decide +kernel
theorem i_91_8 : q_dec 91 8 = some (11, .ireturn, 1) := by decide +kernel
theorem i_91_9 : q_dec 91 9 = some (11, .aload_n 0, 1) := by decide +kernel
theorem i_91_10 : q_dec 91 10 = some (11, .getfield 47, 3) := by decide +kernel
theorem i_91_13 : q_dec 91 13 = some (11, .aload_n 0, 1) := by decide +kernel
theorem i_91_14 : q_dec 91 14 = some (11, .getfield 54, 3) := by decide +kernel
theorem i_91_17 : q_dec 91 17 = some (11, .aload_n 0, 1) := by decide +kernel
theorem i_91_18 : q_dec 91 18 = some (11, .getfield 19, 3) := by decide +kernel
theorem i_91_21 : q_dec 91 21 = some (11, .getfield 99, 3) := by decide +kernel
theorem i_91_24 : q_dec 91 24 = some (11, .invokevirtual 176, 3) := by decide +kernel
theorem i_91_27 : q_dec 91 27 = some (11, .aload_n 0, 1) := by decide +kernel
theorem i_91_28 : q_dec 91 28 = some (11, .getfield 34, 3) := by decide +kernel
theorem i_91_31 : q_dec 91 31 = some (11, .aload_n 0, 1) := by decide +kernel
theorem i_91_32 : q_dec 91 32 = some (11, .getfield 47, 3) := by decide +kernel
theorem i_91_35 : q_dec 91 35 = some (11, .invokevirtual 231, 3) := by decide +kernel
theorem i_91_38 : q_dec 91 38 = some (11, .ifCond .ne (6), 3) := by decide +kernel
theorem i_91_41 : q_dec 91 41 = some (11, .bipush (-9), 2) := by decide +kernel
theorem i_91_43 : q_dec 91 43 = some (11, .ireturn, 1) := by decide +kernel
theorem i_91_44 : q_dec 91 44 = some (11, .bipush (-9), 2) := by decide +kernel
theorem i_91_46 : q_dec 91 46 = some (11, .istore_n 2, 1) := by decide +kernel
theorem i_91_47 : q_dec 91 47 = some (11, .ldc 194, 2) := by decide +kernel
theorem i_91_49 : q_dec 91 49 = some (11, .istore_n 3, 1) := by decide +kernel
theorem i_91_50 : q_dec 91 50 = some (11, .iconst 0, 1) := by decide +kernel
theorem i_91_51 : q_dec 91 51 = some (11, .istore 4, 2) := by decide +kernel
theorem i_91_53 : q_dec 91 53 = some (11, .iload 4, 2) := by decide +kernel
theorem i_91_55 : q_dec 91 55 = some (11, .aload_n 0, 1) := by decide +kernel
theorem i_91_56 : q_dec 91 56 = some (11, .getfield 54, 3) := by decide +kernel
theorem i_91_59 : q_dec 91 59 = some (11, .invokevirtual 235, 3) := by decide +kernel
theorem i_91_62 : q_dec 91 62 = some (11, .if_icmp .ge (48), 3) := by decide +kernel
theorem i_91_65 : q_dec 91 65 = some (11, .aload_n 0, 1) := by decide +kernel
theorem i_91_66 : q_dec 91 66 = some (11, .getfield 54, 3) := by decide +kernel
theorem i_91_69 : q_dec 91 69 = some (11, .iload 4, 2) := by decide +kernel
theorem i_91_71 : q_dec 91 71 = some (11, .invokevirtual 110, 3) := by decide +kernel
theorem i_91_74 : q_dec 91 74 = some (11, .ifCond .ne (30), 3) := by decide +kernel
theorem i_91_77 : q_dec 91 77 = some (11, .aload_n 0, 1) := by decide +kernel
theorem i_91_78 : q_dec 91 78 = some (11, .getfield 34, 3) := by decide +kernel
theorem i_91_81 : q_dec 91 81 = some (11, .iload 4, 2) := by decide +kernel
theorem i_91_83 : q_dec 91 83 = some (11, .aload_n 0, 1) := by decide +kernel
theorem i_91_84 : q_dec 91 84 = some (11, .getfield 47, 3) := by decide +kernel
theorem i_91_87 : q_dec 91 87 = some (11, .invokevirtual 238, 3) := by decide +kernel
theorem i_91_90 : q_dec 91 90 = some (11, .istore 5, 2) := by decide +kernel
theorem i_91_92 : q_dec 91 92 = some (11, .iload 5, 2) := by decide +kernel
theorem i_91_94 : q_dec 91 94 = some (11, .iload_n 3, 1) := by decide +kernel
theorem i_91_95 : q_dec 91 95 = some (11, .if_icmp .ge (9), 3) := by decide +kernel
theorem i_91_98 : q_dec 91 98 = some (11, .iload 5, 2) := by decide +kernel
theorem i_91_100 : q_dec 91 100 = some (11, .istore_n 3, 1) := by decide +kernel
theorem i_91_101 : q_dec 91 101 = some (11, .iload 4, 2) := by decide +kernel
theorem i_91_103 : q_dec 91 103 = some (11, .istore_n 2, 1) := by decide +kernel
theorem i_91_104 : q_dec 91 104 = some (11, .iinc 4 1, 3) := by decide +kernel
theorem i_91_107 : q_dec 91 107 = some (11, .goto (-54), 3) := by decide +kernel
theorem i_91_110 : q_dec 91 110 = some (11, .iload_n 2, 1) := by decide +kernel
theorem i_91_111 : q_dec 91 111 = some (11, .bipush (-9), 2) := by decide +kernel
theorem i_91_113 : q_dec 91 113 = some (11, .if_icmp .ne (6), 3) := by decide +kernel
theorem i_91_116 : q_dec 91 116 = some (11, .bipush (-9), 2) := by decide +kernel
theorem i_91_118 : q_dec 91 118 = some (11, .ireturn, 1) := by decide +kernel
theorem i_91_119 : q_dec 91 119 = some (11, .iload_n 1, 1) := by decide +kernel
theorem i_91_120 : q_dec 91 120 = some (11, .ifCond .ne (7), 3) := by decide +kernel
theorem i_91_123 : q_dec 91 123 = some (11, .iload_n 2, 1) := by decide +kernel
theorem i_91_124 : q_dec 91 124 = some (11, .goto 4, 3) := by decide +kernel
theorem i_91_127 : q_dec 91 127 = some (11, .iload_n 3, 1) := by decide +kernel
theorem i_91_128 : q_dec 91 128 = some (11, .ireturn, 1) := by decide +kernel
theorem i_92_0 : q_dec 92 0 = some (11, .aload_n 0, 1) := by decide +kernel
theorem i_92_1 : q_dec 92 1 = some (11, .iload_n 1, 1) := by decide +kernel
theorem i_92_2 : q_dec 92 2 = some (11, .iload_n 2, 1) := by decide +kernel
theorem i_92_3 : q_dec 92 3 = some (11, .invokevirtual 183, 3) := by decide +kernel
theorem i_92_6 : q_dec 92 6 = some (11, .ifCond .eq (18), 3) := by decide +kernel
theorem i_92_9 : q_dec 92 9 = some (11, .iload_n 3, 1) := by decide +kernel
theorem i_92_10 : q_dec 92 10 = some (11, .ifCond .lt (14), 3) := by decide +kernel
theorem i_92_13 : q_dec 92 13 = some (11, .iload_n 3, 1) := by decide +kernel
theorem i_92_14 : q_dec 92 14 = some (11, .bipush 8, 2) := by decide +kernel
theorem i_92_16 : q_dec 92 16 = some (11, .if_icmp .gt (8), 3) := by decide +kernel
theorem i_92_19 : q_dec 92 19 = some (11, .iload 4, 2) := by decide +kernel
theorem i_92_21 : q_dec 92 21 = some (11, .ifCond .ge (5), 3) := by decide +kernel
theorem i_92_24 : q_dec 92 24 = some (11, .iconst (-1), 1) := by decide +kernel
theorem i_92_25 : q_dec 92 25 = some (11, .ireturn, 1) := by decide +kernel
theorem i_92_26 : q_dec 92 26 = some (11, .aload_n 0, 1) := by decide +kernel
theorem i_92_27 : q_dec 92 27 = some (11, .getfield 47, 3) := by decide +kernel
theorem i_92_30 : q_dec 92 30 = some (11, .aload_n 0, 1) := by decide +kernel
theorem i_92_31 : q_dec 92 31 = some (11, .getfield 54, 3) := by decide +kernel
theorem i_92_34 : q_dec 92 34 = some (11, .aload_n 0, 1) := by decide +kernel
theorem i_92_35 : q_dec 92 35 = some (11, .getfield 19, 3) := by decide +kernel
theorem i_92_38 : q_dec 92 38 = some (11, .getfield 99, 3) := by decide +kernel
theorem i_92_41 : q_dec 92 41 = some (11, .invokevirtual 176, 3) := by decide +kernel
theorem i_92_44 : q_dec 92 44 = some (11, .aload_n 0, 1) := by decide +kernel
theorem i_92_45 : q_dec 92 45 = some (11, .getfield 47, 3) := by decide +kernel
theorem i_92_48 : q_dec 92 48 = some (11, .iload_n 1, 1) := by decide +kernel
theorem i_92_49 : q_dec 92 49 = some (11, .iload_n 2, 1) := by decide +kernel
theorem i_92_50 : q_dec 92 50 = some (11, .iload_n 3, 1) := by decide +kernel
theorem i_92_51 : q_dec 92 51 = some (11, .iload 4, 2) := by decide +kernel
theorem i_92_53 : q_dec 92 53 = some (11, .invokevirtual 242, 3) := by decide +kernel
theorem i_92_56 : q_dec 92 56 = some (11, .ireturn, 1) := by decide +kernel
theorem i_93_0 : q_dec 93 0 = some (11, .iload_n 1, 1) := by decide +kernel
theorem i_93_1 : q_dec 93 1 = some (11, .ifCond .lt (22), 3) := by decide +kernel
theorem i_93_4 : q_dec 93 4 = some (11, .iload_n 1, 1) := by decide +kernel
theorem i_93_5 : q_dec 93 5 = some (11, .bipush 6, 2) := by decide +kernel
theorem i_93_7 : q_dec 93 7 = some (11, .if_icmp .ge (16), 3) := by decide +kernel
theorem i_93_10 : q_dec 93 10 = some (11, .aload_n 0, 1) := by decide +kernel
theorem i_93_11 : q_dec 93 11 = some (11, .getfield 40, 3) := by decide +kernel
theorem i_93_14 : q_dec 93 14 = some (11, .iload_n 1, 1) := by decide +kernel
theorem i_93_15 : q_dec 93 15 = some (11, .aaload, 1) := by decide +kernel
theorem i_93_16 : q_dec 93 16 = some (11, .aload_n 0, 1) := by decide +kernel
theorem i_93_17 : q_dec 93 17 = some (11, .invokevirtual 245, 3) := by decide +kernel
theorem i_93_20 : q_dec 93 20 = some (11, .goto 5, 3) := by decide +kernel
theorem i_93_23 : q_dec 93 23 = some (11, .ldc 248, 2) := by decide +kernel
theorem i_93_25 : q_dec 93 25 = some (11, .ireturn, 1) := by decide +kernel
theorem i_94_0 : q_dec 94 0 = some (11, .iload_n 1, 1) := by decide +kernel
theorem i_94_1 : q_dec 94 1 = some (11, .invokestatic 249, 3) := by decide +kernel
theorem i_94_4 : q_dec 94 4 = some (11, .ifCond .ne (5), 3) := by decide +kernel
theorem i_94_7 : q_dec 94 7 = some (11, .iconst (-1), 1) := by decide +kernel
theorem i_94_8 : q_dec 94 8 = some (11, .ireturn, 1) := by decide +kernel
theorem i_94_9 : q_dec 94 9 = some (11, .aload_n 0, 1) := by decide +kernel
theorem i_94_10 : q_dec 94 10 = some (11, .getfield 23, 3) := by decide +kernel
theorem i_94_13 : q_dec 94 13 = some (11, .iload_n 1, 1) := by decide +kernel
theorem i_94_14 : q_dec 94 14 = some (11, .aaload, 1) := by decide +kernel
theorem i_94_15 : q_dec 94 15 = some (11, .aload_n 0, 1) := by decide +kernel
theorem i_94_16 : q_dec 94 16 = some (11, .getfield 19, 3) := by decide +kernel
theorem i_94_19 : q_dec 94 19 = some (11, .invokevirtual 252, 3) := by decide +kernel
theorem i_94_22 : q_dec 94 22 = some (11, .aload_n 0, 1) := by decide +kernel
theorem i_94_23 : q_dec 94 23 = some (11, .getfield 27, 3) := by decide +kernel
theorem i_94_26 : q_dec 94 26 = some (11, .iload_n 1, 1) := by decide +kernel
theorem i_94_27 : q_dec 94 27 = some (11, .iconst 1, 1) := by decide +kernel
theorem i_94_28 : q_dec 94 28 = some (11, .bastore, 1) := by decide +kernel
theorem i_94_29 : q_dec 94 29 = some (11, .aload_n 0, 1) := by decide +kernel
theorem i_94_30 : q_dec 94 30 = some (11, .getfield 19, 3) := by decide +kernel
theorem i_94_33 : q_dec 94 33 = some (11, .getfield 142, 3) := by decide +kernel
theorem i_94_36 : q_dec 94 36 = some (11, .ireturn, 1) := by decide +kernel
theorem i_95_0 : q_dec 95 0 = some (11, .iload_n 0, 1) := by decide +kernel
theorem i_95_1 : q_dec 95 1 = some (11, .ifCond .lt (12), 3) := by decide +kernel
theorem i_95_4 : q_dec 95 4 = some (11, .iload_n 0, 1) := by decide +kernel
theorem i_95_5 : q_dec 95 5 = some (11, .iconst 2, 1) := by decide +kernel
theorem i_95_6 : q_dec 95 6 = some (11, .if_icmp .ge (7), 3) := by decide +kernel
theorem i_95_9 : q_dec 95 9 = some (11, .iconst 1, 1) := by decide +kernel
theorem i_95_10 : q_dec 95 10 = some (11, .goto 4, 3) := by decide +kernel
theorem i_95_13 : q_dec 95 13 = some (11, .iconst 0, 1) := by decide +kernel
theorem i_95_14 : q_dec 95 14 = some (11, .ireturn, 1) := by decide +kernel
theorem i_96_0 : q_dec 96 0 = some (11, .iload_n 1, 1) := by decide +kernel
theorem i_96_1 : q_dec 96 1 = some (11, .invokestatic 249, 3) := by decide +kernel
theorem i_96_4 : q_dec 96 4 = some (11, .ifCond .ne (5), 3) := by decide +kernel
theorem i_96_7 : q_dec 96 7 = some (11, .iconst (-1), 1) := by decide +kernel
theorem i_96_8 : q_dec 96 8 = some (11, .ireturn, 1) := by decide +kernel
theorem i_96_9 : q_dec 96 9 = some (11, .aload_n 0, 1) := by decide +kernel
theorem i_96_10 : q_dec 96 10 = some (11, .getfield 27, 3) := by decide +kernel
theorem i_96_13 : q_dec 96 13 = some (11, .iload_n 1, 1) := by decide +kernel
theorem i_96_14 : q_dec 96 14 = some (11, .baload, 1) := by decide +kernel
theorem i_96_15 : q_dec 96 15 = some (11, .ifCond .ne (6), 3) := by decide +kernel
theorem i_96_18 : q_dec 96 18 = some (11, .bipush (-2), 2) := by decide +kernel
theorem i_96_20 : q_dec 96 20 = some (11, .ireturn, 1) := by decide +kernel
theorem i_96_21 : q_dec 96 21 = some (11, .aload_n 0, 1) := by decide +kernel
theorem i_96_22 : q_dec 96 22 = some (11, .getfield 19, 3) := by decide +kernel
theorem i_96_25 : q_dec 96 25 = some (11, .aload_n 0, 1) := by decide +kernel
theorem i_96_26 : q_dec 96 26 = some (11, .getfield 23, 3) := by decide +kernel
theorem i_96_29 : q_dec 96 29 = some (11, .iload_n 1, 1) := by decide +kernel
theorem i_96_30 : q_dec 96 30 = some (11, .aaload, 1) := by decide +kernel
theorem i_96_31 : q_dec 96 31 = some (11, .invokevirtual 252, 3) := by decide +kernel
theorem i_96_34 : q_dec 96 34 = some (11, .aload_n 0, 1) := by decide +kernel
theorem i_96_35 : q_dec 96 35 = some (11, .getfield 19, 3) := by decide +kernel
theorem i_96_38 : q_dec 96 38 = some (11, .getfield 142, 3) := by decide +kernel
theorem i_96_41 : q_dec 96 41 = some (11, .ireturn, 1) := by decide +kernel
theorem i_97_0 : q_dec 97 0 = some (11, .iload_n 1, 1) := by decide +kernel
theorem i_97_1 : q_dec 97 1 = some (11, .tableswitch (89) (0) (5) #[39, 47, 55, 64, 73, 81], 39) := by decide +kernel
theorem i_97_40 : q_dec 97 40 = some (11, .aload_n 0, 1) := by decide +kernel
theorem i_97_41 : q_dec 97 41 = some (11, .getfield 54, 3) := by decide +kernel
theorem i_97_44 : q_dec 97 44 = some (11, .getfield 256, 3) := by decide +kernel
theorem i_97_47 : q_dec 97 47 = some (11, .ireturn, 1) := by decide +kernel
theorem i_97_48 : q_dec 97 48 = some (11, .aload_n 0, 1) := by decide +kernel
theorem i_97_49 : q_dec 97 49 = some (11, .getfield 54, 3) := by decide +kernel
theorem i_97_52 : q_dec 97 52 = some (11, .getfield 259, 3) := by decide +kernel
theorem i_97_55 : q_dec 97 55 = some (11, .ireturn, 1) := by decide +kernel
