theorem ql_0 : q_ml 0 = 2 := by decide +kernel
theorem qt_0 : q_rt 0 = some (some .int) := by decide +kernel
theorem qp_0 : q_np 0 = 1 := by decide +kernel
theorem qo_0 : q_own 0 = 0 := by decide +kernel
theorem ql_1 : q_ml 1 = 2 := by decide +kernel
theorem qt_1 : q_rt 1 = some (some .int) := by decide +kernel
theorem qp_1 : q_np 1 = 1 := by decide +kernel
theorem qo_1 : q_own 1 = 1 := by decide +kernel
theorem ql_2 : q_ml 2 = 2 := by decide +kernel
theorem qt_2 : q_rt 2 = some (some .int) := by decide +kernel
theorem qp_2 : q_np 2 = 1 := by decide +kernel
theorem qo_2 : q_own 2 = 2 := by decide +kernel
theorem ql_3 : q_ml 3 = 2 := by decide +kernel
theorem qt_3 : q_rt 3 = some (some .int) := by decide +kernel
theorem qp_3 : q_np 3 = 1 := by decide +kernel
theorem qo_3 : q_own 3 = 3 := by decide +kernel
theorem ql_4 : q_ml 4 = 3 := by decide +kernel
theorem qt_4 : q_rt 4 = some (some .boolean) := by decide +kernel
theorem qp_4 : q_np 4 = 2 := by decide +kernel
theorem qo_4 : q_own 4 = 4 := by decide +kernel
theorem ql_5 : q_ml 5 = 4 := by decide +kernel
theorem qt_5 : q_rt 5 = some (some .boolean) := by decide +kernel
theorem qp_5 : q_np 5 = 1 := by decide +kernel
theorem qo_5 : q_own 5 = 4 := by decide +kernel
theorem ql_6 : q_ml 6 = 7 := by decide +kernel
theorem qt_6 : q_rt 6 = some (some .int) := by decide +kernel
theorem qp_6 : q_np 6 = 2 := by decide +kernel
theorem qo_6 : q_own 6 = 4 := by decide +kernel
theorem ql_7 : q_ml 7 = 2 := by decide +kernel
theorem qt_7 : q_rt 7 = some (some .int) := by decide +kernel
theorem qp_7 : q_np 7 = 1 := by decide +kernel
theorem qo_7 : q_own 7 = 5 := by decide +kernel
theorem ql_8 : q_ml 8 = 5 := by decide +kernel
theorem qt_8 : q_rt 8 = some (some .int) := by decide +kernel
theorem qp_8 : q_np 8 = 2 := by decide +kernel
theorem qo_8 : q_own 8 = 6 := by decide +kernel
theorem ql_9 : q_ml 9 = 4 := by decide +kernel
theorem qt_9 : q_rt 9 = some (some .int) := by decide +kernel
theorem qp_9 : q_np 9 = 1 := by decide +kernel
theorem qo_9 : q_own 9 = 6 := by decide +kernel
theorem ql_10 : q_ml 10 = 1 := by decide +kernel
theorem qt_10 : q_rt 10 = some none := by decide +kernel
theorem qp_10 : q_np 10 = 0 := by decide +kernel
theorem qo_10 : q_own 10 = 6 := by decide +kernel
theorem ql_11 : q_ml 11 = 1 := by decide +kernel
theorem qt_11 : q_rt 11 = some (some .boolean) := by decide +kernel
theorem qp_11 : q_np 11 = 1 := by decide +kernel
theorem qo_11 : q_own 11 = 6 := by decide +kernel
theorem ql_12 : q_ml 12 = 1 := by decide +kernel
theorem qt_12 : q_rt 12 = some none := by decide +kernel
theorem qp_12 : q_np 12 = 0 := by decide +kernel
theorem qo_12 : q_own 12 = 6 := by decide +kernel
theorem ql_13 : q_ml 13 = 3 := by decide +kernel
theorem qt_13 : q_rt 13 = some (some .boolean) := by decide +kernel
theorem qp_13 : q_np 13 = 1 := by decide +kernel
theorem qo_13 : q_own 13 = 6 := by decide +kernel
theorem ql_14 : q_ml 14 = 1 := by decide +kernel
theorem qt_14 : q_rt 14 = some (some .boolean) := by decide +kernel
theorem qp_14 : q_np 14 = 1 := by decide +kernel
theorem qo_14 : q_own 14 = 6 := by decide +kernel
theorem ql_15 : q_ml 15 = 2 := by decide +kernel
theorem qt_15 : q_rt 15 = some none := by decide +kernel
theorem qp_15 : q_np 15 = 0 := by decide +kernel
theorem qo_15 : q_own 15 = 6 := by decide +kernel
theorem ql_16 : q_ml 16 = 2 := by decide +kernel
theorem qt_16 : q_rt 16 = some (some .boolean) := by decide +kernel
theorem qp_16 : q_np 16 = 1 := by decide +kernel
theorem qo_16 : q_own 16 = 6 := by decide +kernel
theorem ql_17 : q_ml 17 = 3 := by decide +kernel
theorem qt_17 : q_rt 17 = some (some .boolean) := by decide +kernel
theorem qp_17 : q_np 17 = 2 := by decide +kernel
theorem qo_17 : q_own 17 = 6 := by decide +kernel
theorem ql_18 : q_ml 18 = 5 := by decide +kernel
theorem qt_18 : q_rt 18 = some (some .boolean) := by decide +kernel
theorem qp_18 : q_np 18 = 2 := by decide +kernel
theorem qo_18 : q_own 18 = 6 := by decide +kernel
theorem ql_19 : q_ml 19 = 2 := by decide +kernel
theorem qt_19 : q_rt 19 = some (some .boolean) := by decide +kernel
theorem qp_19 : q_np 19 = 1 := by decide +kernel
theorem qo_19 : q_own 19 = 6 := by decide +kernel
theorem ql_20 : q_ml 20 = 2 := by decide +kernel
theorem qt_20 : q_rt 20 = some (some .boolean) := by decide +kernel
theorem qp_20 : q_np 20 = 1 := by decide +kernel
theorem qo_20 : q_own 20 = 6 := by decide +kernel
theorem ql_21 : q_ml 21 = 2 := by decide +kernel
theorem qt_21 : q_rt 21 = some (some .boolean) := by decide +kernel
theorem qp_21 : q_np 21 = 1 := by decide +kernel
theorem qo_21 : q_own 21 = 6 := by decide +kernel
theorem ql_22 : q_ml 22 = 1 := by decide +kernel
theorem qt_22 : q_rt 22 = some (some .boolean) := by decide +kernel
theorem qp_22 : q_np 22 = 0 := by decide +kernel
theorem qo_22 : q_own 22 = 6 := by decide +kernel
theorem ql_23 : q_ml 23 = 1 := by decide +kernel
theorem qt_23 : q_rt 23 = some none := by decide +kernel
theorem qp_23 : q_np 23 = 0 := by decide +kernel
theorem qo_23 : q_own 23 = 7 := by decide +kernel
theorem ql_24 : q_ml 24 = 5 := by decide +kernel
theorem qt_24 : q_rt 24 = some none := by decide +kernel
theorem qp_24 : q_np 24 = 0 := by decide +kernel
theorem qo_24 : q_own 24 = 7 := by decide +kernel
theorem ql_25 : q_ml 25 = 3 := by decide +kernel
theorem qt_25 : q_rt 25 = some (some .int) := by decide +kernel
theorem qp_25 : q_np 25 = 2 := by decide +kernel
theorem qo_25 : q_own 25 = 7 := by decide +kernel
theorem ql_26 : q_ml 26 = 2 := by decide +kernel
theorem qt_26 : q_rt 26 = some (some .boolean) := by decide +kernel
theorem qp_26 : q_np 26 = 1 := by decide +kernel
theorem qo_26 : q_own 26 = 7 := by decide +kernel
theorem ql_27 : q_ml 27 = 2 := by decide +kernel
theorem qt_27 : q_rt 27 = some (some .boolean) := by decide +kernel
theorem qp_27 : q_np 27 = 1 := by decide +kernel
theorem qo_27 : q_own 27 = 7 := by decide +kernel
theorem ql_28 : q_ml 28 = 1 := by decide +kernel
theorem qt_28 : q_rt 28 = some (some .int) := by decide +kernel
theorem qp_28 : q_np 28 = 0 := by decide +kernel
theorem qo_28 : q_own 28 = 7 := by decide +kernel
theorem ql_29 : q_ml 29 = 2 := by decide +kernel
theorem qt_29 : q_rt 29 = some (some .int) := by decide +kernel
theorem qp_29 : q_np 29 = 1 := by decide +kernel
theorem qo_29 : q_own 29 = 7 := by decide +kernel
theorem ql_30 : q_ml 30 = 1 := by decide +kernel
theorem qt_30 : q_rt 30 = some (some .boolean) := by decide +kernel
theorem qp_30 : q_np 30 = 1 := by decide +kernel
theorem qo_30 : q_own 30 = 7 := by decide +kernel
theorem ql_31 : q_ml 31 = 3 := by decide +kernel
theorem qt_31 : q_rt 31 = some none := by decide +kernel
theorem qp_31 : q_np 31 = 2 := by decide +kernel
theorem qo_31 : q_own 31 = 7 := by decide +kernel
theorem ql_32 : q_ml 32 = 3 := by decide +kernel
theorem qt_32 : q_rt 32 = some (some .int) := by decide +kernel
theorem qp_32 : q_np 32 = 2 := by decide +kernel
theorem qo_32 : q_own 32 = 7 := by decide +kernel
theorem ql_33 : q_ml 33 = 5 := by decide +kernel
theorem qt_33 : q_rt 33 = some (some .int) := by decide +kernel
theorem qp_33 : q_np 33 = 4 := by decide +kernel
theorem qo_33 : q_own 33 = 7 := by decide +kernel
theorem ql_34 : q_ml 34 = 2 := by decide +kernel
theorem qt_34 : q_rt 34 = some (some .boolean) := by decide +kernel
theorem qp_34 : q_np 34 = 1 := by decide +kernel
theorem qo_34 : q_own 34 = 7 := by decide +kernel
theorem ql_35 : q_ml 35 = 5 := by decide +kernel
theorem qt_35 : q_rt 35 = some (some .int) := by decide +kernel
theorem qp_35 : q_np 35 = 2 := by decide +kernel
theorem qo_35 : q_own 35 = 7 := by decide +kernel
theorem ql_36 : q_ml 36 = 6 := by decide +kernel
theorem qt_36 : q_rt 36 = some (some .int) := by decide +kernel
theorem qp_36 : q_np 36 = 1 := by decide +kernel
theorem qo_36 : q_own 36 = 7 := by decide +kernel
theorem ql_37 : q_ml 37 = 6 := by decide +kernel
theorem qt_37 : q_rt 37 = some (some .int) := by decide +kernel
theorem qp_37 : q_np 37 = 2 := by decide +kernel
theorem qo_37 : q_own 37 = 7 := by decide +kernel
theorem ql_38 : q_ml 38 = 4 := by decide +kernel
theorem qt_38 : q_rt 38 = some (some .int) := by decide +kernel
theorem qp_38 : q_np 38 = 1 := by decide +kernel
theorem qo_38 : q_own 38 = 7 := by decide +kernel
theorem ql_39 : q_ml 39 = 4 := by decide +kernel
theorem qt_39 : q_rt 39 = some (some .int) := by decide +kernel
theorem qp_39 : q_np 39 = 1 := by decide +kernel
theorem qo_39 : q_own 39 = 7 := by decide +kernel
theorem ql_40 : q_ml 40 = 1 := by decide +kernel
theorem qt_40 : q_rt 40 = some none := by decide +kernel
theorem qp_40 : q_np 40 = 0 := by decide +kernel
theorem qo_40 : q_own 40 = 8 := by decide +kernel
theorem ql_41 : q_ml 41 = 1 := by decide +kernel
theorem qt_41 : q_rt 41 = some (some .int) := by decide +kernel
theorem qp_41 : q_np 41 = 0 := by decide +kernel
theorem qo_41 : q_own 41 = 8 := by decide +kernel
theorem ql_42 : q_ml 42 = 1 := by decide +kernel
theorem qt_42 : q_rt 42 = some (some .int) := by decide +kernel
theorem qp_42 : q_np 42 = 0 := by decide +kernel
theorem qo_42 : q_own 42 = 8 := by decide +kernel
theorem ql_43 : q_ml 43 = 5 := by decide +kernel
theorem qt_43 : q_rt 43 = some none := by decide +kernel
theorem qp_43 : q_np 43 = 4 := by decide +kernel
theorem qo_43 : q_own 43 = 8 := by decide +kernel
theorem ql_44 : q_ml 44 = 1 := by decide +kernel
theorem qt_44 : q_rt 44 = some (some .int) := by decide +kernel
theorem qp_44 : q_np 44 = 0 := by decide +kernel
theorem qo_44 : q_own 44 = 8 := by decide +kernel
theorem ql_45 : q_ml 45 = 2 := by decide +kernel
theorem qt_45 : q_rt 45 = some none := by decide +kernel
theorem qp_45 : q_np 45 = 1 := by decide +kernel
theorem qo_45 : q_own 45 = 8 := by decide +kernel
theorem ql_46 : q_ml 46 = 2 := by decide +kernel
theorem qt_46 : q_rt 46 = some (some .int) := by decide +kernel
theorem qp_46 : q_np 46 = 1 := by decide +kernel
theorem qo_46 : q_own 46 = 9 := by decide +kernel
theorem ql_47 : q_ml 47 = 4 := by decide +kernel
theorem qt_47 : q_rt 47 = some none := by decide +kernel
theorem qp_47 : q_np 47 = 2 := by decide +kernel
theorem qo_47 : q_own 47 = 10 := by decide +kernel
theorem ql_48 : q_ml 48 = 12 := by decide +kernel
theorem qt_48 : q_rt 48 = some (some .int) := by decide +kernel
theorem qp_48 : q_np 48 = 2 := by decide +kernel
theorem qo_48 : q_own 48 = 10 := by decide +kernel
theorem ql_49 : q_ml 49 = 6 := by decide +kernel
theorem qt_49 : q_rt 49 = some none := by decide +kernel
theorem qp_49 : q_np 49 = 1 := by decide +kernel
theorem qo_49 : q_own 49 = 10 := by decide +kernel
theorem ql_50 : q_ml 50 = 5 := by decide +kernel
theorem qt_50 : q_rt 50 = some (some .boolean) := by decide +kernel
theorem qp_50 : q_np 50 = 1 := by decide +kernel
theorem qo_50 : q_own 50 = 10 := by decide +kernel
theorem ql_51 : q_ml 51 = 7 := by decide +kernel
theorem qt_51 : q_rt 51 = some (some .int) := by decide +kernel
theorem qp_51 : q_np 51 = 3 := by decide +kernel
theorem qo_51 : q_own 51 = 10 := by decide +kernel
theorem ql_52 : q_ml 52 = 5 := by decide +kernel
theorem qt_52 : q_rt 52 = some (some .int) := by decide +kernel
theorem qp_52 : q_np 52 = 2 := by decide +kernel
theorem qo_52 : q_own 52 = 10 := by decide +kernel
theorem ql_53 : q_ml 53 = 2 := by decide +kernel
theorem qt_53 : q_rt 53 = some (some .int) := by decide +kernel
theorem qp_53 : q_np 53 = 1 := by decide +kernel
theorem qo_53 : q_own 53 = 10 := by decide +kernel
theorem ql_54 : q_ml 54 = 1 := by decide +kernel
theorem qt_54 : q_rt 54 = some (some .int) := by decide +kernel
theorem qp_54 : q_np 54 = 1 := by decide +kernel
theorem qo_54 : q_own 54 = 10 := by decide +kernel
theorem ql_55 : q_ml 55 = 1 := by decide +kernel
theorem qt_55 : q_rt 55 = some (some .int) := by decide +kernel
theorem qp_55 : q_np 55 = 1 := by decide +kernel
theorem qo_55 : q_own 55 = 10 := by decide +kernel
theorem ql_56 : q_ml 56 = 9 := by decide +kernel
theorem qt_56 : q_rt 56 = some (some .int) := by decide +kernel
theorem qp_56 : q_np 56 = 2 := by decide +kernel
theorem qo_56 : q_own 56 = 10 := by decide +kernel
theorem ql_57 : q_ml 57 = 6 := by decide +kernel
theorem qt_57 : q_rt 57 = some (some .int) := by decide +kernel
theorem qp_57 : q_np 57 = 4 := by decide +kernel
theorem qo_57 : q_own 57 = 10 := by decide +kernel
theorem ql_58 : q_ml 58 = 3 := by decide +kernel
theorem qt_58 : q_rt 58 = some (some .int) := by decide +kernel
theorem qp_58 : q_np 58 = 2 := by decide +kernel
theorem qo_58 : q_own 58 = 10 := by decide +kernel
theorem ql_59 : q_ml 59 = 3 := by decide +kernel
theorem qt_59 : q_rt 59 = some (some .int) := by decide +kernel
theorem qp_59 : q_np 59 = 1 := by decide +kernel
theorem qo_59 : q_own 59 = 10 := by decide +kernel
theorem ql_60 : q_ml 60 = 6 := by decide +kernel
theorem qt_60 : q_rt 60 = some (some .int) := by decide +kernel
theorem qp_60 : q_np 60 = 3 := by decide +kernel
theorem qo_60 : q_own 60 = 10 := by decide +kernel
theorem ql_61 : q_ml 61 = 7 := by decide +kernel
theorem qt_61 : q_rt 61 = some (some .int) := by decide +kernel
theorem qp_61 : q_np 61 = 3 := by decide +kernel
theorem qo_61 : q_own 61 = 10 := by decide +kernel
theorem ql_62 : q_ml 62 = 7 := by decide +kernel
theorem qt_62 : q_rt 62 = some (some .int) := by decide +kernel
theorem qp_62 : q_np 62 = 3 := by decide +kernel
theorem qo_62 : q_own 62 = 10 := by decide +kernel
theorem ql_63 : q_ml 63 = 7 := by decide +kernel
theorem qt_63 : q_rt 63 = some (some .int) := by decide +kernel
theorem qp_63 : q_np 63 = 2 := by decide +kernel
theorem qo_63 : q_own 63 = 10 := by decide +kernel
theorem ql_64 : q_ml 64 = 6 := by decide +kernel
theorem qt_64 : q_rt 64 = some (some .int) := by decide +kernel
theorem qp_64 : q_np 64 = 2 := by decide +kernel
theorem qo_64 : q_own 64 = 10 := by decide +kernel
theorem ql_65 : q_ml 65 = 6 := by decide +kernel
theorem qt_65 : q_rt 65 = some (some .int) := by decide +kernel
theorem qp_65 : q_np 65 = 4 := by decide +kernel
theorem qo_65 : q_own 65 = 10 := by decide +kernel
theorem ql_66 : q_ml 66 = 10 := by decide +kernel
theorem qt_66 : q_rt 66 = some (some .int) := by decide +kernel
theorem qp_66 : q_np 66 = 5 := by decide +kernel
theorem qo_66 : q_own 66 = 10 := by decide +kernel
theorem ql_67 : q_ml 67 = 4 := by decide +kernel
theorem qt_67 : q_rt 67 = some (some .int) := by decide +kernel
theorem qp_67 : q_np 67 = 2 := by decide +kernel
theorem qo_67 : q_own 67 = 11 := by decide +kernel
theorem ql_68 : q_ml 68 = 2 := by decide +kernel
theorem qt_68 : q_rt 68 = some (some .int) := by decide +kernel
theorem qp_68 : q_np 68 = 0 := by decide +kernel
theorem qo_68 : q_own 68 = 11 := by decide +kernel
theorem ql_69 : q_ml 69 = 4 := by decide +kernel
theorem qt_69 : q_rt 69 = some (some .int) := by decide +kernel
theorem qp_69 : q_np 69 = 0 := by decide +kernel
theorem qo_69 : q_own 69 = 11 := by decide +kernel
theorem ql_70 : q_ml 70 = 2 := by decide +kernel
theorem qt_70 : q_rt 70 = some (some .int) := by decide +kernel
theorem qp_70 : q_np 70 = 1 := by decide +kernel
theorem qo_70 : q_own 70 = 11 := by decide +kernel
theorem ql_71 : q_ml 71 = 2 := by decide +kernel
theorem qt_71 : q_rt 71 = some (some .int) := by decide +kernel
theorem qp_71 : q_np 71 = 1 := by decide +kernel
theorem qo_71 : q_own 71 = 11 := by decide +kernel
theorem ql_72 : q_ml 72 = 2 := by decide +kernel
theorem qt_72 : q_rt 72 = some (some .int) := by decide +kernel
theorem qp_72 : q_np 72 = 1 := by decide +kernel
theorem qo_72 : q_own 72 = 11 := by decide +kernel
theorem ql_73 : q_ml 73 = 5 := by decide +kernel
theorem qt_73 : q_rt 73 = some (some .int) := by decide +kernel
theorem qp_73 : q_np 73 = 1 := by decide +kernel
theorem qo_73 : q_own 73 = 11 := by decide +kernel
theorem ql_74 : q_ml 74 = 1 := by decide +kernel
theorem qt_74 : q_rt 74 = some (some .boolean) := by decide +kernel
theorem qp_74 : q_np 74 = 1 := by decide +kernel
theorem qo_74 : q_own 74 = 11 := by decide +kernel
theorem ql_75 : q_ml 75 = 1 := by decide +kernel
theorem qt_75 : q_rt 75 = some (some .int) := by decide +kernel
theorem qp_75 : q_np 75 = 0 := by decide +kernel
theorem qo_75 : q_own 75 = 11 := by decide +kernel
theorem ql_76 : q_ml 76 = 2 := by decide +kernel
theorem qt_76 : q_rt 76 = some (some .int) := by decide +kernel
theorem qp_76 : q_np 76 = 1 := by decide +kernel
theorem qo_76 : q_own 76 = 11 := by decide +kernel
theorem ql_77 : q_ml 77 = 3 := by decide +kernel
theorem qt_77 : q_rt 77 = some (some .int) := by decide +kernel
theorem qp_77 : q_np 77 = 1 := by decide +kernel
theorem qo_77 : q_own 77 = 11 := by decide +kernel
theorem ql_78 : q_ml 78 = 1 := by decide +kernel
theorem qt_78 : q_rt 78 = some (some .boolean) := by decide +kernel
theorem qp_78 : q_np 78 = 1 := by decide +kernel
theorem qo_78 : q_own 78 = 11 := by decide +kernel
theorem ql_79 : q_ml 79 = 3 := by decide +kernel
theorem qt_79 : q_rt 79 = some (some .int) := by decide +kernel
theorem qp_79 : q_np 79 = 2 := by decide +kernel
theorem qo_79 : q_own 79 = 11 := by decide +kernel
theorem ql_80 : q_ml 80 = 3 := by decide +kernel
theorem qt_80 : q_rt 80 = some (some .boolean) := by decide +kernel
theorem qp_80 : q_np 80 = 1 := by decide +kernel
theorem qo_80 : q_own 80 = 11 := by decide +kernel
theorem ql_81 : q_ml 81 = 5 := by decide +kernel
theorem qt_81 : q_rt 81 = some (some .int) := by decide +kernel
theorem qp_81 : q_np 81 = 3 := by decide +kernel
theorem qo_81 : q_own 81 = 11 := by decide +kernel
theorem ql_82 : q_ml 82 = 3 := by decide +kernel
theorem qt_82 : q_rt 82 = some (some .boolean) := by decide +kernel
theorem qp_82 : q_np 82 = 2 := by decide +kernel
theorem qo_82 : q_own 82 = 11 := by decide +kernel
theorem ql_83 : q_ml 83 = 6 := by decide +kernel
theorem qt_83 : q_rt 83 = some (some .int) := by decide +kernel
theorem qp_83 : q_np 83 = 3 := by decide +kernel
theorem qo_83 : q_own 83 = 11 := by decide +kernel
theorem ql_84 : q_ml 84 = 10 := by decide +kernel
theorem qt_84 : q_rt 84 = some (some .int) := by decide +kernel
theorem qp_84 : q_np 84 = 4 := by decide +kernel
theorem qo_84 : q_own 84 = 11 := by decide +kernel
theorem ql_85 : q_ml 85 = 6 := by decide +kernel
theorem qt_85 : q_rt 85 = some (some .int) := by decide +kernel
theorem qp_85 : q_np 85 = 2 := by decide +kernel
theorem qo_85 : q_own 85 = 11 := by decide +kernel
theorem ql_86 : q_ml 86 = 2 := by decide +kernel
theorem qt_86 : q_rt 86 = some (some .boolean) := by decide +kernel
theorem qp_86 : q_np 86 = 2 := by decide +kernel
theorem qo_86 : q_own 86 = 11 := by decide +kernel
theorem ql_87 : q_ml 87 = 3 := by decide +kernel
theorem qt_87 : q_rt 87 = some (some .int) := by decide +kernel
theorem qp_87 : q_np 87 = 2 := by decide +kernel
theorem qo_87 : q_own 87 = 11 := by decide +kernel
theorem ql_88 : q_ml 88 = 3 := by decide +kernel
theorem qt_88 : q_rt 88 = some (some .boolean) := by decide +kernel
theorem qp_88 : q_np 88 = 1 := by decide +kernel
theorem qo_88 : q_own 88 = 11 := by decide +kernel
theorem ql_89 : q_ml 89 = 3 := by decide +kernel
theorem qt_89 : q_rt 89 = some (some .int) := by decide +kernel
theorem qp_89 : q_np 89 = 2 := by decide +kernel
theorem qo_89 : q_own 89 = 11 := by decide +kernel
theorem ql_90 : q_ml 90 = 2 := by decide +kernel
theorem qt_90 : q_rt 90 = some (some .int) := by decide +kernel
theorem qp_90 : q_np 90 = 0 := by decide +kernel
theorem qo_90 : q_own 90 = 11 := by decide +kernel
theorem ql_91 : q_ml 91 = 6 := by decide +kernel
theorem qt_91 : q_rt 91 = some (some .int) := by decide +kernel
theorem qp_91 : q_np 91 = 1 := by decide +kernel
theorem qo_91 : q_own 91 = 11 := by decide +kernel
theorem ql_92 : q_ml 92 = 5 := by decide +kernel
theorem qt_92 : q_rt 92 = some (some .int) := by decide +kernel
theorem qp_92 : q_np 92 = 4 := by decide +kernel
theorem qo_92 : q_own 92 = 11 := by decide +kernel
theorem ql_93 : q_ml 93 = 2 := by decide +kernel
theorem qt_93 : q_rt 93 = some (some .int) := by decide +kernel
theorem qp_93 : q_np 93 = 1 := by decide +kernel
theorem qo_93 : q_own 93 = 11 := by decide +kernel
theorem ql_94 : q_ml 94 = 2 := by decide +kernel
theorem qt_94 : q_rt 94 = some (some .int) := by decide +kernel
theorem qp_94 : q_np 94 = 1 := by decide +kernel
theorem qo_94 : q_own 94 = 11 := by decide +kernel
theorem ql_95 : q_ml 95 = 1 := by decide +kernel
theorem qt_95 : q_rt 95 = some (some .boolean) := by decide +kernel
theorem qp_95 : q_np 95 = 1 := by decide +kernel
theorem qo_95 : q_own 95 = 11 := by decide +kernel
theorem ql_96 : q_ml 96 = 2 := by decide +kernel
theorem qt_96 : q_rt 96 = some (some .int) := by decide +kernel
theorem qp_96 : q_np 96 = 1 := by decide +kernel
theorem qo_96 : q_own 96 = 11 := by decide +kernel
theorem ql_97 : q_ml 97 = 2 := by decide +kernel
theorem qt_97 : q_rt 97 = some (some .int) := by decide +kernel
theorem qp_97 : q_np 97 = 1 := by decide +kernel
theorem qo_97 : q_own 97 = 11 := by decide +kernel
theorem ql_98 : q_ml 98 = 1 := by decide +kernel
theorem qt_98 : q_rt 98 = some (some .long) := by decide +kernel
theorem qp_98 : q_np 98 = 0 := by decide +kernel
theorem qo_98 : q_own 98 = 11 := by decide +kernel
theorem ql_99 : q_ml 99 = 5 := by decide +kernel
theorem qt_99 : q_rt 99 = some (some .int) := by decide +kernel
theorem qp_99 : q_np 99 = 2 := by decide +kernel
theorem qo_99 : q_own 99 = 12 := by decide +kernel
theorem ql_100 : q_ml 100 = 6 := by decide +kernel
theorem qt_100 : q_rt 100 = some (some .boolean) := by decide +kernel
theorem qp_100 : q_np 100 = 3 := by decide +kernel
theorem qo_100 : q_own 100 = 12 := by decide +kernel
theorem ql_101 : q_ml 101 = 2 := by decide +kernel
theorem qt_101 : q_rt 101 = some (some .int) := by decide +kernel
theorem qp_101 : q_np 101 = 0 := by decide +kernel
theorem qo_101 : q_own 101 = 12 := by decide +kernel
theorem ql_102 : q_ml 102 = 1 := by decide +kernel
theorem qt_102 : q_rt 102 = some (some .int) := by decide +kernel
theorem qp_102 : q_np 102 = 0 := by decide +kernel
theorem qo_102 : q_own 102 = 12 := by decide +kernel
theorem ql_103 : q_ml 103 = 1 := by decide +kernel
theorem qt_103 : q_rt 103 = some (some .boolean) := by decide +kernel
theorem qp_103 : q_np 103 = 0 := by decide +kernel
theorem qo_103 : q_own 103 = 12 := by decide +kernel
theorem ql_104 : q_ml 104 = 4 := by decide +kernel
theorem qt_104 : q_rt 104 = some none := by decide +kernel
theorem qp_104 : q_np 104 = 0 := by decide +kernel
theorem qo_104 : q_own 104 = 12 := by decide +kernel
theorem ql_105 : q_ml 105 = 4 := by decide +kernel
theorem qt_105 : q_rt 105 = some (some .long) := by decide +kernel
theorem qp_105 : q_np 105 = 0 := by decide +kernel
theorem qo_105 : q_own 105 = 12 := by decide +kernel
theorem ql_106 : q_ml 106 = 6 := by decide +kernel
theorem qt_106 : q_rt 106 = some (some .int) := by decide +kernel
theorem qp_106 : q_np 106 = 2 := by decide +kernel
theorem qo_106 : q_own 106 = 12 := by decide +kernel
theorem ql_107 : q_ml 107 = 2 := by decide +kernel
theorem qt_107 : q_rt 107 = some (some .int) := by decide +kernel
theorem qp_107 : q_np 107 = 2 := by decide +kernel
theorem qo_107 : q_own 107 = 12 := by decide +kernel
theorem ql_108 : q_ml 108 = 5 := by decide +kernel
theorem qt_108 : q_rt 108 = some none := by decide +kernel
theorem qp_108 : q_np 108 = 1 := by decide +kernel
theorem qo_108 : q_own 108 = 12 := by decide +kernel
theorem ql_109 : q_ml 109 = 2 := by decide +kernel
theorem qt_109 : q_rt 109 = some (some .boolean) := by decide +kernel
theorem qp_109 : q_np 109 = 2 := by decide +kernel
theorem qo_109 : q_own 109 = 12 := by decide +kernel
theorem ql_110 : q_ml 110 = 4 := by decide +kernel
theorem qt_110 : q_rt 110 = some (some .boolean) := by decide +kernel
theorem qp_110 : q_np 110 = 2 := by decide +kernel
theorem qo_110 : q_own 110 = 12 := by decide +kernel
theorem ql_111 : q_ml 111 = 2 := by decide +kernel
theorem qt_111 : q_rt 111 = some (some .int) := by decide +kernel
theorem qp_111 : q_np 111 = 1 := by decide +kernel
theorem qo_111 : q_own 111 = 12 := by decide +kernel
theorem ql_112 : q_ml 112 = 2 := by decide +kernel
theorem qt_112 : q_rt 112 = some (some .boolean) := by decide +kernel
theorem qp_112 : q_np 112 = 1 := by decide +kernel
theorem qo_112 : q_own 112 = 12 := by decide +kernel
theorem ql_113 : q_ml 113 = 2 := by decide +kernel
theorem qt_113 : q_rt 113 = some (some .int) := by decide +kernel
theorem qp_113 : q_np 113 = 1 := by decide +kernel
theorem qo_113 : q_own 113 = 12 := by decide +kernel
theorem ql_114 : q_ml 114 = 2 := by decide +kernel
theorem qt_114 : q_rt 114 = some (some .int) := by decide +kernel
theorem qp_114 : q_np 114 = 1 := by decide +kernel
theorem qo_114 : q_own 114 = 12 := by decide +kernel
theorem ql_115 : q_ml 115 = 2 := by decide +kernel
theorem qt_115 : q_rt 115 = some (some .boolean) := by decide +kernel
theorem qp_115 : q_np 115 = 1 := by decide +kernel
theorem qo_115 : q_own 115 = 12 := by decide +kernel
theorem ql_116 : q_ml 116 = 6 := by decide +kernel
theorem qt_116 : q_rt 116 = some (some .int) := by decide +kernel
theorem qp_116 : q_np 116 = 1 := by decide +kernel
theorem qo_116 : q_own 116 = 12 := by decide +kernel
theorem ql_117 : q_ml 117 = 6 := by decide +kernel
theorem qt_117 : q_rt 117 = some (some .int) := by decide +kernel
theorem qp_117 : q_np 117 = 2 := by decide +kernel
theorem qo_117 : q_own 117 = 12 := by decide +kernel
theorem ql_118 : q_ml 118 = 5 := by decide +kernel
theorem qt_118 : q_rt 118 = some (some .int) := by decide +kernel
theorem qp_118 : q_np 118 = 0 := by decide +kernel
theorem qo_118 : q_own 118 = 12 := by decide +kernel
theorem ql_119 : q_ml 119 = 3 := by decide +kernel
theorem qt_119 : q_rt 119 = some (some .int) := by decide +kernel
theorem qp_119 : q_np 119 = 2 := by decide +kernel
theorem qo_119 : q_own 119 = 12 := by decide +kernel
theorem ql_120 : q_ml 120 = 4 := by decide +kernel
theorem qt_120 : q_rt 120 = some (some .int) := by decide +kernel
theorem qp_120 : q_np 120 = 1 := by decide +kernel
theorem qo_120 : q_own 120 = 12 := by decide +kernel
theorem ql_121 : q_ml 121 = 2 := by decide +kernel
theorem qt_121 : q_rt 121 = some (some .int) := by decide +kernel
theorem qp_121 : q_np 121 = 0 := by decide +kernel
theorem qo_121 : q_own 121 = 12 := by decide +kernel
theorem ql_122 : q_ml 122 = 2 := by decide +kernel
theorem qt_122 : q_rt 122 = some (some .int) := by decide +kernel
theorem qp_122 : q_np 122 = 1 := by decide +kernel
theorem qo_122 : q_own 122 = 12 := by decide +kernel
theorem ql_123 : q_ml 123 = 3 := by decide +kernel
theorem qt_123 : q_rt 123 = some (some .int) := by decide +kernel
theorem qp_123 : q_np 123 = 1 := by decide +kernel
theorem qo_123 : q_own 123 = 12 := by decide +kernel
theorem ql_124 : q_ml 124 = 10 := by decide +kernel
theorem qt_124 : q_rt 124 = some (some .int) := by decide +kernel
theorem qp_124 : q_np 124 = 2 := by decide +kernel
theorem qo_124 : q_own 124 = 12 := by decide +kernel
theorem ql_125 : q_ml 125 = 8 := by decide +kernel
theorem qt_125 : q_rt 125 = some (some .int) := by decide +kernel
theorem qp_125 : q_np 125 = 3 := by decide +kernel
theorem qo_125 : q_own 125 = 12 := by decide +kernel
theorem ql_126 : q_ml 126 = 3 := by decide +kernel
theorem qt_126 : q_rt 126 = some (some .boolean) := by decide +kernel
theorem qp_126 : q_np 126 = 2 := by decide +kernel
theorem qo_126 : q_own 126 = 12 := by decide +kernel
theorem ql_127 : q_ml 127 = 10 := by decide +kernel
theorem qt_127 : q_rt 127 = some none := by decide +kernel
theorem qp_127 : q_np 127 = 2 := by decide +kernel
theorem qo_127 : q_own 127 = 12 := by decide +kernel
theorem ql_128 : q_ml 128 = 4 := by decide +kernel
theorem qt_128 : q_rt 128 = some (some .int) := by decide +kernel
theorem qp_128 : q_np 128 = 2 := by decide +kernel
theorem qo_128 : q_own 128 = 12 := by decide +kernel
theorem ql_129 : q_ml 129 = 8 := by decide +kernel
theorem qt_129 : q_rt 129 = some (some .int) := by decide +kernel
theorem qp_129 : q_np 129 = 3 := by decide +kernel
theorem qo_129 : q_own 129 = 12 := by decide +kernel
theorem ql_130 : q_ml 130 = 5 := by decide +kernel
theorem qt_130 : q_rt 130 = some (some .boolean) := by decide +kernel
theorem qp_130 : q_np 130 = 2 := by decide +kernel
theorem qo_130 : q_own 130 = 12 := by decide +kernel
theorem ql_131 : q_ml 131 = 5 := by decide +kernel
theorem qt_131 : q_rt 131 = some (some .int) := by decide +kernel
theorem qp_131 : q_np 131 = 3 := by decide +kernel
theorem qo_131 : q_own 131 = 12 := by decide +kernel
theorem ql_132 : q_ml 132 = 9 := by decide +kernel
theorem qt_132 : q_rt 132 = some none := by decide +kernel
theorem qp_132 : q_np 132 = 2 := by decide +kernel
theorem qo_132 : q_own 132 = 12 := by decide +kernel
theorem ql_133 : q_ml 133 = 8 := by decide +kernel
theorem qt_133 : q_rt 133 = some (some .int) := by decide +kernel
theorem qp_133 : q_np 133 = 4 := by decide +kernel
theorem qo_133 : q_own 133 = 12 := by decide +kernel
theorem ql_134 : q_ml 134 = 9 := by decide +kernel
theorem qt_134 : q_rt 134 = some (some .int) := by decide +kernel
theorem qp_134 : q_np 134 = 2 := by decide +kernel
theorem qo_134 : q_own 134 = 12 := by decide +kernel
theorem ql_135 : q_ml 135 = 8 := by decide +kernel
theorem qt_135 : q_rt 135 = some (some .int) := by decide +kernel
theorem qp_135 : q_np 135 = 2 := by decide +kernel
theorem qo_135 : q_own 135 = 12 := by decide +kernel
theorem ql_136 : q_ml 136 = 3 := by decide +kernel
theorem qt_136 : q_rt 136 = some (some .int) := by decide +kernel
theorem qp_136 : q_np 136 = 1 := by decide +kernel
theorem qo_136 : q_own 136 = 12 := by decide +kernel
theorem ql_137 : q_ml 137 = 5 := by decide +kernel
theorem qt_137 : q_rt 137 = some (some .int) := by decide +kernel
theorem qp_137 : q_np 137 = 3 := by decide +kernel
theorem qo_137 : q_own 137 = 12 := by decide +kernel
theorem ql_138 : q_ml 138 = 3 := by decide +kernel
theorem qt_138 : q_rt 138 = some (some .int) := by decide +kernel
theorem qp_138 : q_np 138 = 2 := by decide +kernel
theorem qo_138 : q_own 138 = 12 := by decide +kernel
theorem ql_139 : q_ml 139 = 2 := by decide +kernel
theorem qt_139 : q_rt 139 = some (some .int) := by decide +kernel
theorem qp_139 : q_np 139 = 0 := by decide +kernel
theorem qo_139 : q_own 139 = 12 := by decide +kernel
theorem ql_140 : q_ml 140 = 7 := by decide +kernel
theorem qt_140 : q_rt 140 = some (some .int) := by decide +kernel
theorem qp_140 : q_np 140 = 1 := by decide +kernel
theorem qo_140 : q_own 140 = 12 := by decide +kernel
theorem ql_141 : q_ml 141 = 9 := by decide +kernel
theorem qt_141 : q_rt 141 = some (some .int) := by decide +kernel
theorem qp_141 : q_np 141 = 4 := by decide +kernel
theorem qo_141 : q_own 141 = 12 := by decide +kernel
theorem ql_142 : q_ml 142 = 2 := by decide +kernel
theorem qt_142 : q_rt 142 = some (some .int) := by decide +kernel
theorem qp_142 : q_np 142 = 1 := by decide +kernel
theorem qo_142 : q_own 142 = 12 := by decide +kernel
theorem ql_143 : q_ml 143 = 2 := by decide +kernel
theorem qt_143 : q_rt 143 = some (some .int) := by decide +kernel
theorem qp_143 : q_np 143 = 1 := by decide +kernel
theorem qo_143 : q_own 143 = 12 := by decide +kernel
theorem ql_144 : q_ml 144 = 4 := by decide +kernel
theorem qt_144 : q_rt 144 = some none := by decide +kernel
theorem qp_144 : q_np 144 = 2 := by decide +kernel
theorem qo_144 : q_own 144 = 12 := by decide +kernel
theorem ql_145 : q_ml 145 = 2 := by decide +kernel
theorem qt_145 : q_rt 145 = some (some .int) := by decide +kernel
theorem qp_145 : q_np 145 = 1 := by decide +kernel
theorem qo_145 : q_own 145 = 12 := by decide +kernel
theorem ql_146 : q_ml 146 = 2 := by decide +kernel
theorem qt_146 : q_rt 146 = some (some .int) := by decide +kernel
theorem qp_146 : q_np 146 = 1 := by decide +kernel
theorem qo_146 : q_own 146 = 12 := by decide +kernel
theorem ql_147 : q_ml 147 = 1 := by decide +kernel
theorem qt_147 : q_rt 147 = some (some .long) := by decide +kernel
theorem qp_147 : q_np 147 = 0 := by decide +kernel
theorem qo_147 : q_own 147 = 12 := by decide +kernel
theorem ql_148 : q_ml 148 = 1 := by decide +kernel
theorem qt_148 : q_rt 148 = some (some .int) := by decide +kernel
theorem qp_148 : q_np 148 = 0 := by decide +kernel
theorem qo_148 : q_own 148 = 13 := by decide +kernel
theorem ql_149 : q_ml 149 = 1 := by decide +kernel
theorem qt_149 : q_rt 149 = some (some .byte) := by decide +kernel
theorem qp_149 : q_np 149 = 0 := by decide +kernel
theorem qo_149 : q_own 149 = 13 := by decide +kernel
theorem ql_150 : q_ml 150 = 2 := by decide +kernel
theorem qt_150 : q_rt 150 = some (some .char) := by decide +kernel
theorem qp_150 : q_np 150 = 1 := by decide +kernel
theorem qo_150 : q_own 150 = 13 := by decide +kernel
theorem ql_151 : q_ml 151 = 1 := by decide +kernel
theorem qt_151 : q_rt 151 = some (some .boolean) := by decide +kernel
theorem qp_151 : q_np 151 = 0 := by decide +kernel
theorem qo_151 : q_own 151 = 13 := by decide +kernel
theorem ql_152 : q_ml 152 = 2 := by decide +kernel
theorem qt_152 : q_rt 152 = some none := by decide +kernel
theorem qp_152 : q_np 152 = 2 := by decide +kernel
theorem qo_152 : q_own 152 = 13 := by decide +kernel
theorem ql_153 : q_ml 153 = 2 := by decide +kernel
theorem qt_153 : q_rt 153 = some (some .char) := by decide +kernel
theorem qp_153 : q_np 153 = 2 := by decide +kernel
theorem qo_153 : q_own 153 = 14 := by decide +kernel
theorem ql_154 : q_ml 154 = 3 := by decide +kernel
theorem qt_154 : q_rt 154 = some (some .int) := by decide +kernel
theorem qp_154 : q_np 154 = 3 := by decide +kernel
theorem qo_154 : q_own 154 = 15 := by decide +kernel
theorem ql_155 : q_ml 155 = 2 := by decide +kernel
theorem qt_155 : q_rt 155 = some (some .int) := by decide +kernel
theorem qp_155 : q_np 155 = 2 := by decide +kernel
theorem qo_155 : q_own 155 = 16 := by decide +kernel
theorem ql_156 : q_ml 156 = 2 := by decide +kernel
theorem qt_156 : q_rt 156 = some (some .int) := by decide +kernel
theorem qp_156 : q_np 156 = 2 := by decide +kernel
theorem qo_156 : q_own 156 = 16 := by decide +kernel
theorem ql_157 : q_ml 157 = 1 := by decide +kernel
theorem qt_157 : q_rt 157 = some (some .int) := by decide +kernel
theorem qp_157 : q_np 157 = 1 := by decide +kernel
theorem qo_157 : q_own 157 = 17 := by decide +kernel
theorem ql_158 : q_ml 158 = 4 := by decide +kernel
theorem qt_158 : q_rt 158 = some none := by decide +kernel
theorem qp_158 : q_np 158 = 2 := by decide +kernel
theorem qo_158 : q_own 158 = 18 := by decide +kernel
theorem c_0_15 : q_lk qct 0 15 = some (3, 46) := by decide +kernel
theorem c_1_15 : q_lk qct 1 15 = some (3, 46) := by decide +kernel
theorem c_1_23 : q_lk qct 1 23 = some (0, 42) := by decide +kernel
theorem c_2_15 : q_lk qct 2 15 = some (3, 3) := by decide +kernel
theorem c_3_15 : q_lk qct 3 15 = some (3, 46) := by decide +kernel
theorem c_4_28 : q_lk qct 4 28 = some (0, 49) := by decide +kernel
theorem c_4_34 : q_lk qct 4 34 = some (0, 59) := by decide +kernel
theorem c_4_39 : q_lk qct 4 39 = some (1, 155) := by decide +kernel
theorem c_5_15 : q_lk qct 5 15 = some (3, 1) := by decide +kernel
theorem c_5_29 : q_lk qct 5 29 = some (1, 156) := by decide +kernel
theorem c_6_19 : q_lk qct 6 19 = some (0, 23) := by decide +kernel
theorem c_6_37 : q_lk qct 6 37 = some (0, 10) := by decide +kernel
theorem c_6_43 : q_lk qct 6 43 = some (0, 16) := by decide +kernel
theorem c_6_47 : q_lk qct 6 47 = some (0, 18) := by decide +kernel
theorem c_6_51 : q_lk qct 6 51 = some (0, 19) := by decide +kernel
theorem c_6_54 : q_lk qct 6 54 = some (0, 20) := by decide +kernel
theorem c_6_57 : q_lk qct 6 57 = some (0, 21) := by decide +kernel
theorem c_6_60 : q_lk qct 6 60 = some (0, 22) := by decide +kernel
theorem c_6_67 : q_lk qct 6 67 = some (0, 17) := by decide +kernel
theorem c_6_80 : q_lk qct 6 80 = some (0, 25) := by decide +kernel
theorem c_6_84 : q_lk qct 6 84 = some (0, 29) := by decide +kernel
theorem c_6_88 : q_lk qct 6 88 = some (0, 31) := by decide +kernel
theorem c_6_107 : q_lk qct 6 107 = some (1, 11) := by decide +kernel
theorem c_6_111 : q_lk qct 6 111 = some (0, 12) := by decide +kernel
theorem c_6_114 : q_lk qct 6 114 = some (1, 14) := by decide +kernel
theorem c_6_117 : q_lk qct 6 117 = some (0, 15) := by decide +kernel
theorem c_6_122 : q_lk qct 6 122 = some (0, 13) := by decide +kernel
theorem c_6_135 : q_lk qct 6 135 = some (0, 148) := by decide +kernel
theorem c_6_140 : q_lk qct 6 140 = some (0, 150) := by decide +kernel
theorem c_6_144 : q_lk qct 6 144 = some (1, 155) := by decide +kernel
theorem c_7_47 : q_lk qct 7 47 = some (1, 158) := by decide +kernel
theorem c_7_59 : q_lk qct 7 59 = some (0, 25) := by decide +kernel
theorem c_7_63 : q_lk qct 7 63 = some (0, 26) := by decide +kernel
theorem c_7_67 : q_lk qct 7 67 = some (0, 28) := by decide +kernel
theorem c_7_71 : q_lk qct 7 71 = some (1, 30) := by decide +kernel
theorem c_7_74 : q_lk qct 7 74 = some (0, 27) := by decide +kernel
theorem c_7_77 : q_lk qct 7 77 = some (0, 29) := by decide +kernel
theorem c_7_81 : q_lk qct 7 81 = some (2, 74) := by decide +kernel
theorem c_7_84 : q_lk qct 7 84 = some (2, 86) := by decide +kernel
theorem c_7_88 : q_lk qct 7 88 = some (0, 32) := by decide +kernel
theorem c_7_91 : q_lk qct 7 91 = some (0, 37) := by decide +kernel
theorem c_7_94 : q_lk qct 7 94 = some (0, 34) := by decide +kernel
theorem c_8_38 : q_lk qct 8 38 = some (5, 0) := by decide +kernel
theorem c_10_51 : q_lk qct 10 51 = some (0, 35) := by decide +kernel
theorem c_10_56 : q_lk qct 10 56 = some (0, 32) := by decide +kernel
theorem c_10_60 : q_lk qct 10 60 = some (0, 33) := by decide +kernel
theorem c_10_65 : q_lk qct 10 65 = some (1, 158) := by decide +kernel
theorem c_10_71 : q_lk qct 10 71 = some (0, 28) := by decide +kernel
theorem c_10_75 : q_lk qct 10 75 = some (0, 50) := by decide +kernel
theorem c_10_79 : q_lk qct 10 79 = some (0, 26) := by decide +kernel
theorem c_10_82 : q_lk qct 10 82 = some (0, 51) := by decide +kernel
theorem c_10_86 : q_lk qct 10 86 = some (0, 34) := by decide +kernel
theorem c_10_89 : q_lk qct 10 89 = some (0, 52) := by decide +kernel
theorem c_10_92 : q_lk qct 10 92 = some (1, 155) := by decide +kernel
theorem c_10_97 : q_lk qct 10 97 = some (0, 53) := by decide +kernel
theorem c_10_101 : q_lk qct 10 101 = some (1, 54) := by decide +kernel
theorem c_10_104 : q_lk qct 10 104 = some (0, 49) := by decide +kernel
theorem c_10_108 : q_lk qct 10 108 = some (0, 59) := by decide +kernel
theorem c_10_111 : q_lk qct 10 111 = some (0, 57) := by decide +kernel
theorem c_10_114 : q_lk qct 10 114 = some (0, 61) := by decide +kernel
theorem c_10_117 : q_lk qct 10 117 = some (0, 62) := by decide +kernel
theorem c_10_120 : q_lk qct 10 120 = some (2, 86) := by decide +kernel
theorem c_10_124 : q_lk qct 10 124 = some (0, 64) := by decide +kernel
theorem c_10_127 : q_lk qct 10 127 = some (0, 38) := by decide +kernel
theorem c_10_130 : q_lk qct 10 130 = some (0, 66) := by decide +kernel
theorem c_11_81 : q_lk qct 11 81 = some (0, 8) := by decide +kernel
theorem c_11_89 : q_lk qct 11 89 = some (0, 9) := by decide +kernel
theorem c_11_93 : q_lk qct 11 93 = some (0, 24) := by decide +kernel
theorem c_11_96 : q_lk qct 11 96 = some (0, 40) := by decide +kernel
theorem c_11_106 : q_lk qct 11 106 = some (0, 27) := by decide +kernel
theorem c_11_110 : q_lk qct 11 110 = some (0, 29) := by decide +kernel
theorem c_11_129 : q_lk qct 11 129 = some (0, 26) := by decide +kernel
theorem c_11_135 : q_lk qct 11 135 = some (1, 74) := by decide +kernel
theorem c_11_138 : q_lk qct 11 138 = some (0, 32) := by decide +kernel
theorem c_11_145 : q_lk qct 11 145 = some (0, 41) := by decide +kernel
theorem c_11_149 : q_lk qct 11 149 = some (0, 42) := by decide +kernel
theorem c_11_152 : q_lk qct 11 152 = some (0, 33) := by decide +kernel
theorem c_11_156 : q_lk qct 11 156 = some (0, 35) := by decide +kernel
theorem c_11_160 : q_lk qct 11 160 = some (0, 43) := by decide +kernel
theorem c_11_164 : q_lk qct 11 164 = some (0, 44) := by decide +kernel
theorem c_11_170 : q_lk qct 11 170 = some (1, 78) := by decide +kernel
theorem c_11_173 : q_lk qct 11 173 = some (1, 80) := by decide +kernel
theorem c_11_176 : q_lk qct 11 176 = some (0, 47) := by decide +kernel
theorem c_11_180 : q_lk qct 11 180 = some (0, 48) := by decide +kernel
theorem c_11_183 : q_lk qct 11 183 = some (0, 82) := by decide +kernel
theorem c_11_187 : q_lk qct 11 187 = some (0, 49) := by decide +kernel
theorem c_11_191 : q_lk qct 11 191 = some (0, 53) := by decide +kernel
theorem c_11_195 : q_lk qct 11 195 = some (1, 54) := by decide +kernel
theorem c_11_198 : q_lk qct 11 198 = some (1, 55) := by decide +kernel
theorem c_11_201 : q_lk qct 11 201 = some (0, 56) := by decide +kernel
theorem c_11_205 : q_lk qct 11 205 = some (1, 155) := by decide +kernel
theorem c_11_210 : q_lk qct 11 210 = some (0, 58) := by decide +kernel
theorem c_11_213 : q_lk qct 11 213 = some (0, 60) := by decide +kernel
theorem c_11_217 : q_lk qct 11 217 = some (0, 36) := by decide +kernel
theorem c_11_220 : q_lk qct 11 220 = some (1, 86) := by decide +kernel
theorem c_11_223 : q_lk qct 11 223 = some (0, 88) := by decide +kernel
theorem c_11_226 : q_lk qct 11 226 = some (0, 63) := by decide +kernel
theorem c_11_229 : q_lk qct 11 229 = some (0, 4) := by decide +kernel
theorem c_11_231 : q_lk qct 11 231 = some (0, 5) := by decide +kernel
theorem c_11_235 : q_lk qct 11 235 = some (0, 28) := by decide +kernel
theorem c_11_238 : q_lk qct 11 238 = some (0, 6) := by decide +kernel
theorem c_11_242 : q_lk qct 11 242 = some (0, 65) := by decide +kernel
theorem c_11_245 : q_lk qct 11 245 = some (4, 46) := by decide +kernel
theorem c_11_249 : q_lk qct 11 249 = some (1, 95) := by decide +kernel
theorem c_11_252 : q_lk qct 11 252 = some (0, 45) := by decide +kernel
theorem c_11_262 : q_lk qct 11 262 = some (0, 39) := by decide +kernel
theorem c_11_266 : q_lk qct 11 266 = some (1, 157) := by decide +kernel
theorem c_12_72 : q_lk qct 12 72 = some (1, 100) := by decide +kernel
theorem c_12_76 : q_lk qct 12 76 = some (0, 112) := by decide +kernel
theorem c_12_83 : q_lk qct 12 83 = some (1, 109) := by decide +kernel
theorem c_12_100 : q_lk qct 12 100 = some (0, 103) := by decide +kernel
theorem c_12_108 : q_lk qct 12 108 = some (1, 107) := by decide +kernel
theorem c_12_123 : q_lk qct 12 123 = some (0, 106) := by decide +kernel
theorem c_12_138 : q_lk qct 12 138 = some (0, 105) := by decide +kernel
theorem c_12_151 : q_lk qct 12 151 = some (0, 108) := by decide +kernel
theorem c_12_157 : q_lk qct 12 157 = some (0, 110) := by decide +kernel
theorem c_12_164 : q_lk qct 12 164 = some (0, 104) := by decide +kernel
theorem c_12_179 : q_lk qct 12 179 = some (0, 119) := by decide +kernel
theorem c_12_182 : q_lk qct 12 182 = some (0, 115) := by decide +kernel
theorem c_12_187 : q_lk qct 12 187 = some (0, 117) := by decide +kernel
theorem c_12_190 : q_lk qct 12 190 = some (0, 118) := by decide +kernel
theorem c_12_194 : q_lk qct 12 194 = some (0, 120) := by decide +kernel
theorem c_12_203 : q_lk qct 12 203 = some (0, 128) := by decide +kernel
theorem c_12_206 : q_lk qct 12 206 = some (0, 129) := by decide +kernel
theorem c_12_210 : q_lk qct 12 210 = some (0, 126) := by decide +kernel
theorem c_12_213 : q_lk qct 12 213 = some (0, 127) := by decide +kernel
theorem c_12_217 : q_lk qct 12 217 = some (0, 130) := by decide +kernel
theorem c_12_220 : q_lk qct 12 220 = some (0, 132) := by decide +kernel
theorem c_12_223 : q_lk qct 12 223 = some (1, 136) := by decide +kernel
theorem c_12_226 : q_lk qct 12 226 = some (0, 137) := by decide +kernel
theorem c_12_244 : q_lk qct 12 244 = some (0, 144) := by decide +kernel
theorem c_13_335 : q_lk qct 13 335 = some (0, 149) := by decide +kernel
theorem c_13_492 : q_lk qct 13 492 = some (0, 151) := by decide +kernel
theorem c_13_495 : q_lk qct 13 495 = some (1, 153) := by decide +kernel
theorem c_13_1059 : q_lk qct 13 1059 = some (1, 154) := by decide +kernel
theorem c_14_9 : q_lk qct 14 9 = some (1, 152) := by decide +kernel
theorem f_0_7 : q_lk qft 0 7 = some (11, 9, 1) := by decide +kernel
theorem f_0_19 : q_lk qft 0 19 = some (11, 4, 1) := by decide +kernel
theorem f_0_23 : q_lk qft 0 23 = some (4, 0, 0) := by decide +kernel
theorem f_1_7 : q_lk qft 1 7 = some (11, 9, 1) := by decide +kernel
theorem f_1_19 : q_lk qft 1 19 = some (11, 1, 1) := by decide +kernel
theorem f_2_7 : q_lk qft 2 7 = some (11, 9, 1) := by decide +kernel
theorem f_3_7 : q_lk qft 3 7 = some (11, 9, 1) := by decide +kernel
theorem f_3_19 : q_lk qft 3 19 = some (11, 1, 1) := by decide +kernel
theorem f_3_23 : q_lk qft 3 23 = some (8, 2, 0) := by decide +kernel
theorem f_4_9 : q_lk qft 4 9 = some (4, 0, 0) := by decide +kernel
theorem f_4_15 : q_lk qft 4 15 = some (4, 1, 0) := by decide +kernel
theorem f_4_19 : q_lk qft 4 19 = some (4, 2, 0) := by decide +kernel
theorem f_4_22 : q_lk qft 4 22 = some (4, 3, 0) := by decide +kernel
theorem f_4_25 : q_lk qft 4 25 = some (4, 4, 0) := by decide +kernel
theorem f_5_7 : q_lk qft 5 7 = some (11, 9, 1) := by decide +kernel
theorem f_5_19 : q_lk qft 5 19 = some (11, 1, 1) := by decide +kernel
theorem f_5_23 : q_lk qft 5 23 = some (8, 0, 0) := by decide +kernel
theorem f_6_9 : q_lk qft 6 9 = some (6, 0, 0) := by decide +kernel
theorem f_6_15 : q_lk qft 6 15 = some (6, 1, 0) := by decide +kernel
theorem f_6_24 : q_lk qft 6 24 = some (6, 2, 0) := by decide +kernel
theorem f_6_27 : q_lk qft 6 27 = some (6, 6, 0) := by decide +kernel
theorem f_6_31 : q_lk qft 6 31 = some (6, 7, 0) := by decide +kernel
theorem f_6_34 : q_lk qft 6 34 = some (6, 8, 0) := by decide +kernel
theorem f_6_40 : q_lk qft 6 40 = some (6, 4, 0) := by decide +kernel
theorem f_6_64 : q_lk qft 6 64 = some (6, 3, 0) := by decide +kernel
theorem f_6_71 : q_lk qft 6 71 = some (6, 5, 0) := by decide +kernel
theorem f_6_74 : q_lk qft 6 74 = some (7, 0, 0) := by decide +kernel
theorem f_6_77 : q_lk qft 6 77 = some (7, 1, 0) := by decide +kernel
theorem f_6_92 : q_lk qft 6 92 = some (7, 2, 0) := by decide +kernel
theorem f_6_95 : q_lk qft 6 95 = some (7, 3, 0) := by decide +kernel
theorem f_6_98 : q_lk qft 6 98 = some (7, 4, 0) := by decide +kernel
theorem f_6_101 : q_lk qft 6 101 = some (7, 5, 0) := by decide +kernel
theorem f_6_104 : q_lk qft 6 104 = some (7, 6, 0) := by decide +kernel
theorem f_7_9 : q_lk qft 7 9 = some (7, 7, 0) := by decide +kernel
theorem f_7_15 : q_lk qft 7 15 = some (7, 8, 0) := by decide +kernel
theorem f_7_24 : q_lk qft 7 24 = some (7, 0, 0) := by decide +kernel
theorem f_7_28 : q_lk qft 7 28 = some (7, 1, 0) := by decide +kernel
theorem f_7_31 : q_lk qft 7 31 = some (7, 2, 0) := by decide +kernel
theorem f_7_34 : q_lk qft 7 34 = some (7, 3, 0) := by decide +kernel
theorem f_7_37 : q_lk qft 7 37 = some (7, 4, 0) := by decide +kernel
theorem f_7_40 : q_lk qft 7 40 = some (7, 5, 0) := by decide +kernel
theorem f_7_44 : q_lk qft 7 44 = some (7, 6, 0) := by decide +kernel
theorem f_8_9 : q_lk qft 8 9 = some (8, 0, 0) := by decide +kernel
theorem f_8_15 : q_lk qft 8 15 = some (8, 1, 0) := by decide +kernel
theorem f_8_18 : q_lk qft 8 18 = some (8, 2, 0) := by decide +kernel
theorem f_8_21 : q_lk qft 8 21 = some (8, 3, 0) := by decide +kernel
theorem f_8_25 : q_lk qft 8 25 = some (8, 4, 0) := by decide +kernel
theorem f_8_29 : q_lk qft 8 29 = some (8, 5, 0) := by decide +kernel
theorem f_8_32 : q_lk qft 8 32 = some (8, 6, 0) := by decide +kernel
theorem f_8_35 : q_lk qft 8 35 = some (8, 7, 0) := by decide +kernel
theorem f_9_7 : q_lk qft 9 7 = some (11, 9, 1) := by decide +kernel
theorem f_9_13 : q_lk qft 9 13 = some (11, 1, 1) := by decide +kernel
theorem f_9_17 : q_lk qft 9 17 = some (8, 1, 0) := by decide +kernel
theorem f_10_12 : q_lk qft 10 12 = some (10, 0, 0) := by decide +kernel
theorem f_10_18 : q_lk qft 10 18 = some (10, 1, 0) := by decide +kernel
theorem f_10_22 : q_lk qft 10 22 = some (10, 2, 0) := by decide +kernel
theorem f_10_26 : q_lk qft 10 26 = some (10, 3, 0) := by decide +kernel
theorem f_10_30 : q_lk qft 10 30 = some (10, 4, 0) := by decide +kernel
theorem f_10_33 : q_lk qft 10 33 = some (10, 5, 0) := by decide +kernel
theorem f_10_36 : q_lk qft 10 36 = some (10, 6, 0) := by decide +kernel
theorem f_10_39 : q_lk qft 10 39 = some (10, 7, 0) := by decide +kernel
theorem f_10_42 : q_lk qft 10 42 = some (10, 8, 0) := by decide +kernel
theorem f_10_45 : q_lk qft 10 45 = some (10, 9, 0) := by decide +kernel
theorem f_10_48 : q_lk qft 10 48 = some (10, 10, 0) := by decide +kernel
theorem f_11_12 : q_lk qft 11 12 = some (11, 0, 0) := by decide +kernel
theorem f_11_19 : q_lk qft 11 19 = some (11, 1, 0) := by decide +kernel
theorem f_11_23 : q_lk qft 11 23 = some (11, 2, 0) := by decide +kernel
theorem f_11_27 : q_lk qft 11 27 = some (11, 3, 0) := by decide +kernel
theorem f_11_34 : q_lk qft 11 34 = some (11, 4, 0) := by decide +kernel
theorem f_11_40 : q_lk qft 11 40 = some (11, 5, 0) := by decide +kernel
theorem f_11_47 : q_lk qft 11 47 = some (11, 6, 0) := by decide +kernel
theorem f_11_54 : q_lk qft 11 54 = some (11, 7, 0) := by decide +kernel
theorem f_11_58 : q_lk qft 11 58 = some (11, 8, 0) := by decide +kernel
theorem f_11_61 : q_lk qft 11 61 = some (11, 9, 0) := by decide +kernel
theorem f_11_85 : q_lk qft 11 85 = some (6, 0, 0) := by decide +kernel
theorem f_11_99 : q_lk qft 11 99 = some (8, 3, 0) := by decide +kernel
theorem f_11_103 : q_lk qft 11 103 = some (4, 0, 0) := by decide +kernel
theorem f_11_114 : q_lk qft 11 114 = some (7, 2, 0) := by decide +kernel
theorem f_11_117 : q_lk qft 11 117 = some (7, 3, 0) := by decide +kernel
theorem f_11_120 : q_lk qft 11 120 = some (7, 4, 0) := by decide +kernel
theorem f_11_123 : q_lk qft 11 123 = some (7, 5, 0) := by decide +kernel
theorem f_11_126 : q_lk qft 11 126 = some (7, 6, 0) := by decide +kernel
theorem f_11_132 : q_lk qft 11 132 = some (8, 0, 0) := by decide +kernel
theorem f_11_142 : q_lk qft 11 142 = some (8, 2, 0) := by decide +kernel
theorem f_11_167 : q_lk qft 11 167 = some (8, 1, 0) := by decide +kernel
theorem f_11_256 : q_lk qft 11 256 = some (7, 0, 0) := by decide +kernel
theorem f_11_259 : q_lk qft 11 259 = some (7, 1, 0) := by decide +kernel
theorem f_12_7 : q_lk qft 12 7 = some (12, 0, 0) := by decide +kernel
theorem f_12_13 : q_lk qft 12 13 = some (12, 1, 0) := by decide +kernel
theorem f_12_16 : q_lk qft 12 16 = some (12, 4, 0) := by decide +kernel
theorem f_12_19 : q_lk qft 12 19 = some (12, 5, 0) := by decide +kernel
theorem f_12_22 : q_lk qft 12 22 = some (12, 6, 0) := by decide +kernel
theorem f_12_25 : q_lk qft 12 25 = some (12, 9, 0) := by decide +kernel
theorem f_12_29 : q_lk qft 12 29 = some (12, 11, 0) := by decide +kernel
theorem f_12_32 : q_lk qft 12 32 = some (12, 12, 0) := by decide +kernel
theorem f_12_36 : q_lk qft 12 36 = some (12, 14, 0) := by decide +kernel
theorem f_12_39 : q_lk qft 12 39 = some (12, 15, 0) := by decide +kernel
theorem f_12_42 : q_lk qft 12 42 = some (12, 21, 0) := by decide +kernel
theorem f_12_45 : q_lk qft 12 45 = some (12, 26, 0) := by decide +kernel
theorem f_12_48 : q_lk qft 12 48 = some (12, 27, 0) := by decide +kernel
theorem f_12_51 : q_lk qft 12 51 = some (12, 28, 0) := by decide +kernel
theorem f_12_54 : q_lk qft 12 54 = some (12, 29, 0) := by decide +kernel
theorem f_12_57 : q_lk qft 12 57 = some (12, 30, 0) := by decide +kernel
theorem f_12_60 : q_lk qft 12 60 = some (12, 31, 0) := by decide +kernel
theorem f_12_63 : q_lk qft 12 63 = some (12, 32, 0) := by decide +kernel
theorem f_12_66 : q_lk qft 12 66 = some (12, 33, 0) := by decide +kernel
theorem f_12_69 : q_lk qft 12 69 = some (12, 34, 0) := by decide +kernel
theorem f_12_80 : q_lk qft 12 80 = some (12, 2, 0) := by decide +kernel
theorem f_12_89 : q_lk qft 12 89 = some (12, 10, 0) := by decide +kernel
theorem f_12_94 : q_lk qft 12 94 = some (12, 24, 0) := by decide +kernel
theorem f_12_97 : q_lk qft 12 97 = some (12, 25, 0) := by decide +kernel
theorem f_12_120 : q_lk qft 12 120 = some (12, 17, 0) := by decide +kernel
theorem f_12_126 : q_lk qft 12 126 = some (12, 18, 0) := by decide +kernel
theorem f_12_129 : q_lk qft 12 129 = some (12, 19, 0) := by decide +kernel
theorem f_12_132 : q_lk qft 12 132 = some (12, 20, 0) := by decide +kernel
theorem f_12_135 : q_lk qft 12 135 = some (12, 22, 0) := by decide +kernel
theorem f_12_144 : q_lk qft 12 144 = some (12, 23, 0) := by decide +kernel
theorem f_12_167 : q_lk qft 12 167 = some (12, 3, 0) := by decide +kernel
theorem f_12_170 : q_lk qft 12 170 = some (12, 7, 0) := by decide +kernel
theorem f_12_173 : q_lk qft 12 173 = some (12, 8, 0) := by decide +kernel
theorem f_12_176 : q_lk qft 12 176 = some (12, 13, 0) := by decide +kernel
theorem f_12_229 : q_lk qft 12 229 = some (12, 16, 0) := by decide +kernel
theorem f_13_9 : q_lk qft 13 9 = some (13, 0, 0) := by decide +kernel
theorem f_13_15 : q_lk qft 13 15 = some (13, 1, 0) := by decide +kernel
theorem s_7_53 : q_lk qst 7 53 = some (.ref 1000) := by decide +kernel
theorem s_7_56 : q_lk qst 7 56 = some (.ref 1001) := by decide +kernel
theorem s_13_38 : q_lk qst 13 38 = some (.int 1) := by decide +kernel
theorem s_13_1053 : q_lk qst 13 1053 = some (.ref 1030) := by decide +kernel
theorem n_4_38 : q_lk qci 4 38 = some (1073741824) := by decide +kernel
theorem n_10_55 : q_lk qci 10 55 = some (99999999) := by decide +kernel
theorem n_10_64 : q_lk qci 10 64 = some (1073741824) := by decide +kernel
theorem n_11_194 : q_lk qci 11 194 = some (1073741824) := by decide +kernel
theorem n_11_204 : q_lk qci 11 204 = some (1073741823) := by decide +kernel
theorem n_11_248 : q_lk qci 11 248 = some (-1000000) := by decide +kernel
theorem n_11_265 : q_lk qci 11 265 = some (999999999) := by decide +kernel
theorem n_12_202 : q_lk qci 12 202 = some (100000000) := by decide +kernel
theorem n_12_243 : q_lk qci 12 243 = some (-1000000) := by decide +kernel
theorem n_17_265 : q_lk qci 17 265 = some (1431655765) := by decide +kernel
theorem n_17_266 : q_lk qci 17 266 = some (858993459) := by decide +kernel
theorem n_17_267 : q_lk qci 17 267 = some (252645135) := by decide +kernel
theorem l_0_13 : q_lk qcj 0 13 = some (100000) := by decide +kernel
theorem l_1_13 : q_lk qcj 1 13 = some (100) := by decide +kernel
theorem l_2_13 : q_lk qcj 2 13 = some (1000) := by decide +kernel
theorem l_3_13 : q_lk qcj 3 13 = some (10) := by decide +kernel
theorem l_5_13 : q_lk qcj 5 13 = some (10000) := by decide +kernel
theorem l_12_87 : q_lk qcj 12 87 = some (8) := by decide +kernel
theorem l_12_92 : q_lk qcj 12 92 = some (255) := by decide +kernel
theorem l_12_104 : q_lk qcj 12 104 = some (48) := by decide +kernel
theorem l_12_106 : q_lk qcj 12 106 = some (57) := by decide +kernel
theorem l_12_112 : q_lk qcj 12 112 = some (97) := by decide +kernel
theorem l_12_114 : q_lk qcj 12 114 = some (122) := by decide +kernel
theorem l_12_116 : q_lk qcj 12 116 = some (32) := by decide +kernel
theorem l_12_118 : q_lk qcj 12 118 = some (96) := by decide +kernel
theorem l_12_142 : q_lk qcj 12 142 = some (671470) := by decide +kernel
theorem l_12_147 : q_lk qcj 12 147 = some (8902245) := by decide +kernel
theorem l_12_149 : q_lk qcj 12 149 = some (5638647) := by decide +kernel
theorem l_12_155 : q_lk qcj 12 155 = some (20536) := by decide +kernel
theorem l_12_160 : q_lk qcj 12 160 = some (150636933) := by decide +kernel
theorem l_12_162 : q_lk qcj 12 162 = some (8441477) := by decide +kernel
theorem l_12_185 : q_lk qcj 12 185 = some (3) := by decide +kernel
theorem l_12_198 : q_lk qcj 12 198 = some (444444444) := by decide +kernel
theorem l_12_200 : q_lk qcj 12 200 = some (4) := by decide +kernel
theorem l_12_233 : q_lk qcj 12 233 = some (11) := by decide +kernel
theorem l_12_235 : q_lk qcj 12 235 = some (101) := by decide +kernel
theorem l_12_237 : q_lk qcj 12 237 = some (1011) := by decide +kernel
theorem l_12_239 : q_lk qcj 12 239 = some (10101) := by decide +kernel
theorem l_12_241 : q_lk qcj 12 241 = some (100001) := by decide +kernel
theorem z_6_120 : q_lk qcs 6 120 = some (0) := by decide +kernel
theorem sn_6_120 : q_lk qci 6 120 = none := by decide +kernel
theorem z_6_126 : q_lk qcs 6 126 = some (1) := by decide +kernel
theorem sn_6_126 : q_lk qci 6 126 = none := by decide +kernel
theorem z_6_128 : q_lk qcs 6 128 = some (2) := by decide +kernel
theorem sn_6_128 : q_lk qci 6 128 = none := by decide +kernel
theorem z_6_130 : q_lk qcs 6 130 = some (3) := by decide +kernel
theorem sn_6_130 : q_lk qci 6 130 = none := by decide +kernel
theorem z_6_132 : q_lk qcs 6 132 = some (4) := by decide +kernel
theorem sn_6_132 : q_lk qci 6 132 = none := by decide +kernel
theorem z_6_134 : q_lk qcs 6 134 = some (5) := by decide +kernel
theorem sn_6_134 : q_lk qci 6 134 = none := by decide +kernel
