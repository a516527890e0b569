/-! THE CONSTRUCTORS -/
theorem dn_11_0 : decode prog_1_method_1_code 0 = .ok (.aload_n 0, 1) := by decide +kernel
theorem dn_11_1 : decode prog_1_method_1_code 1 = .ok (.invokespecial 3, 3) := by decide +kernel
theorem dn_11_4 : decode prog_1_method_1_code 4 = .ok (.aload_n 0, 1) := by decide +kernel
theorem dn_11_5 : decode prog_1_method_1_code 5 = .ok (.new 9, 3) := by decide +kernel
theorem dn_11_8 : decode prog_1_method_1_code 8 = .ok (.dup, 1) := by decide +kernel
theorem dn_11_9 : decode prog_1_method_1_code 9 = .ok (.invokespecial 11, 3) := by decide +kernel
theorem dn_11_12 : decode prog_1_method_1_code 12 = .ok (.putfield 12, 3) := by decide +kernel
theorem dn_11_15 : decode prog_1_method_1_code 15 = .ok (.aload_n 0, 1) := by decide +kernel
theorem dn_11_16 : decode prog_1_method_1_code 16 = .ok (.new 16, 3) := by decide +kernel
theorem dn_11_19 : decode prog_1_method_1_code 19 = .ok (.dup, 1) := by decide +kernel
theorem dn_11_20 : decode prog_1_method_1_code 20 = .ok (.invokespecial 18, 3) := by decide +kernel
theorem dn_11_23 : decode prog_1_method_1_code 23 = .ok (.putfield 19, 3) := by decide +kernel
theorem dn_11_26 : decode prog_1_method_1_code 26 = .ok (.aload_n 0, 1) := by decide +kernel
theorem dn_11_27 : decode prog_1_method_1_code 27 = .ok (.iconst 2, 1) := by decide +kernel
theorem dn_11_28 : decode prog_1_method_1_code 28 = .ok (.anewarray 16, 3) := by decide +kernel
theorem dn_11_31 : decode prog_1_method_1_code 31 = .ok (.putfield 23, 3) := by decide +kernel
theorem dn_11_34 : decode prog_1_method_1_code 34 = .ok (.aload_n 0, 1) := by decide +kernel
theorem dn_11_35 : decode prog_1_method_1_code 35 = .ok (.iconst 2, 1) := by decide +kernel
theorem dn_11_36 : decode prog_1_method_1_code 36 = .ok (.newarray .boolean, 2) := by decide +kernel
theorem dn_11_38 : decode prog_1_method_1_code 38 = .ok (.putfield 27, 3) := by decide +kernel
theorem dn_11_41 : decode prog_1_method_1_code 41 = .ok (.aload_n 0, 1) := by decide +kernel
theorem dn_11_42 : decode prog_1_method_1_code 42 = .ok (.new 31, 3) := by decide +kernel
theorem dn_11_45 : decode prog_1_method_1_code 45 = .ok (.dup, 1) := by decide +kernel
theorem dn_11_46 : decode prog_1_method_1_code 46 = .ok (.invokespecial 33, 3) := by decide +kernel
theorem dn_11_49 : decode prog_1_method_1_code 49 = .ok (.putfield 34, 3) := by decide +kernel
theorem dn_11_52 : decode prog_1_method_1_code 52 = .ok (.aload_n 0, 1) := by decide +kernel
theorem dn_11_53 : decode prog_1_method_1_code 53 = .ok (.bipush 6, 2) := by decide +kernel
theorem dn_11_55 : decode prog_1_method_1_code 55 = .ok (.anewarray 38, 3) := by decide +kernel
theorem dn_11_58 : decode prog_1_method_1_code 58 = .ok (.putfield 40, 3) := by decide +kernel
theorem dn_11_61 : decode prog_1_method_1_code 61 = .ok (.aload_n 0, 1) := by decide +kernel
theorem dn_11_62 : decode prog_1_method_1_code 62 = .ok (.new 44, 3) := by decide +kernel
theorem dn_11_65 : decode prog_1_method_1_code 65 = .ok (.dup, 1) := by decide +kernel
theorem dn_11_66 : decode prog_1_method_1_code 66 = .ok (.invokespecial 46, 3) := by decide +kernel
theorem dn_11_69 : decode prog_1_method_1_code 69 = .ok (.putfield 47, 3) := by decide +kernel
theorem dn_11_72 : decode prog_1_method_1_code 72 = .ok (.aload_n 0, 1) := by decide +kernel
theorem dn_11_73 : decode prog_1_method_1_code 73 = .ok (.new 51, 3) := by decide +kernel
theorem dn_11_76 : decode prog_1_method_1_code 76 = .ok (.dup, 1) := by decide +kernel
theorem dn_11_77 : decode prog_1_method_1_code 77 = .ok (.invokespecial 53, 3) := by decide +kernel
theorem dn_11_80 : decode prog_1_method_1_code 80 = .ok (.putfield 54, 3) := by decide +kernel
theorem dn_11_83 : decode prog_1_method_1_code 83 = .ok (.aload_n 0, 1) := by decide +kernel
theorem dn_11_84 : decode prog_1_method_1_code 84 = .ok (.new 51, 3) := by decide +kernel
theorem dn_11_87 : decode prog_1_method_1_code 87 = .ok (.dup, 1) := by decide +kernel
theorem dn_11_88 : decode prog_1_method_1_code 88 = .ok (.invokespecial 53, 3) := by decide +kernel
theorem dn_11_91 : decode prog_1_method_1_code 91 = .ok (.putfield 58, 3) := by decide +kernel
theorem dn_11_94 : decode prog_1_method_1_code 94 = .ok (.aload_n 0, 1) := by decide +kernel
theorem dn_11_95 : decode prog_1_method_1_code 95 = .ok (.lconst 0, 1) := by decide +kernel
theorem dn_11_96 : decode prog_1_method_1_code 96 = .ok (.putfield 61, 3) := by decide +kernel
theorem dn_11_99 : decode prog_1_method_1_code 99 = .ok (.iconst 0, 1) := by decide +kernel
theorem dn_11_100 : decode prog_1_method_1_code 100 = .ok (.istore_n 1, 1) := by decide +kernel
theorem dn_11_101 : decode prog_1_method_1_code 101 = .ok (.iload_n 1, 1) := by decide +kernel
theorem dn_11_102 : decode prog_1_method_1_code 102 = .ok (.iconst 2, 1) := by decide +kernel
theorem dn_11_103 : decode prog_1_method_1_code 103 = .ok (.if_icmp .ge (22), 3) := by decide +kernel
theorem dn_11_106 : decode prog_1_method_1_code 106 = .ok (.aload_n 0, 1) := by decide +kernel
theorem dn_11_107 : decode prog_1_method_1_code 107 = .ok (.getfield 23, 3) := by decide +kernel
theorem dn_11_110 : decode prog_1_method_1_code 110 = .ok (.iload_n 1, 1) := by decide +kernel
theorem dn_11_111 : decode prog_1_method_1_code 111 = .ok (.new 16, 3) := by decide +kernel
theorem dn_11_114 : decode prog_1_method_1_code 114 = .ok (.dup, 1) := by decide +kernel
theorem dn_11_115 : decode prog_1_method_1_code 115 = .ok (.invokespecial 18, 3) := by decide +kernel
theorem dn_11_118 : decode prog_1_method_1_code 118 = .ok (.aastore, 1) := by decide +kernel
theorem dn_11_119 : decode prog_1_method_1_code 119 = .ok (.iinc 1 1, 3) := by decide +kernel
theorem dn_11_122 : decode prog_1_method_1_code 122 = .ok (.goto (-21), 3) := by decide +kernel
theorem dn_11_125 : decode prog_1_method_1_code 125 = .ok (.aload_n 0, 1) := by decide +kernel
theorem dn_11_126 : decode prog_1_method_1_code 126 = .ok (.getfield 40, 3) := by decide +kernel
theorem dn_11_129 : decode prog_1_method_1_code 129 = .ok (.iconst 0, 1) := by decide +kernel
theorem dn_11_130 : decode prog_1_method_1_code 130 = .ok (.new 38, 3) := by decide +kernel
theorem dn_11_133 : decode prog_1_method_1_code 133 = .ok (.dup, 1) := by decide +kernel
theorem dn_11_134 : decode prog_1_method_1_code 134 = .ok (.invokespecial 65, 3) := by decide +kernel
theorem dn_11_137 : decode prog_1_method_1_code 137 = .ok (.aastore, 1) := by decide +kernel
theorem dn_11_138 : decode prog_1_method_1_code 138 = .ok (.aload_n 0, 1) := by decide +kernel
theorem dn_11_139 : decode prog_1_method_1_code 139 = .ok (.getfield 40, 3) := by decide +kernel
theorem dn_11_142 : decode prog_1_method_1_code 142 = .ok (.iconst 1, 1) := by decide +kernel
theorem dn_11_143 : decode prog_1_method_1_code 143 = .ok (.new 66, 3) := by decide +kernel
theorem dn_11_146 : decode prog_1_method_1_code 146 = .ok (.dup, 1) := by decide +kernel
theorem dn_11_147 : decode prog_1_method_1_code 147 = .ok (.invokespecial 68, 3) := by decide +kernel
theorem dn_11_150 : decode prog_1_method_1_code 150 = .ok (.aastore, 1) := by decide +kernel
theorem dn_11_151 : decode prog_1_method_1_code 151 = .ok (.aload_n 0, 1) := by decide +kernel
theorem dn_11_152 : decode prog_1_method_1_code 152 = .ok (.getfield 40, 3) := by decide +kernel
theorem dn_11_155 : decode prog_1_method_1_code 155 = .ok (.iconst 2, 1) := by decide +kernel
theorem dn_11_156 : decode prog_1_method_1_code 156 = .ok (.new 69, 3) := by decide +kernel
theorem dn_11_159 : decode prog_1_method_1_code 159 = .ok (.dup, 1) := by decide +kernel
theorem dn_11_160 : decode prog_1_method_1_code 160 = .ok (.invokespecial 71, 3) := by decide +kernel
theorem dn_11_163 : decode prog_1_method_1_code 163 = .ok (.aastore, 1) := by decide +kernel
theorem dn_11_164 : decode prog_1_method_1_code 164 = .ok (.aload_n 0, 1) := by decide +kernel
theorem dn_11_165 : decode prog_1_method_1_code 165 = .ok (.getfield 40, 3) := by decide +kernel
theorem dn_11_168 : decode prog_1_method_1_code 168 = .ok (.iconst 3, 1) := by decide +kernel
theorem dn_11_169 : decode prog_1_method_1_code 169 = .ok (.new 72, 3) := by decide +kernel
theorem dn_11_172 : decode prog_1_method_1_code 172 = .ok (.dup, 1) := by decide +kernel
theorem dn_11_173 : decode prog_1_method_1_code 173 = .ok (.invokespecial 74, 3) := by decide +kernel
theorem dn_11_176 : decode prog_1_method_1_code 176 = .ok (.aastore, 1) := by decide +kernel
theorem dn_11_177 : decode prog_1_method_1_code 177 = .ok (.aload_n 0, 1) := by decide +kernel
theorem dn_11_178 : decode prog_1_method_1_code 178 = .ok (.getfield 40, 3) := by decide +kernel
theorem dn_11_181 : decode prog_1_method_1_code 181 = .ok (.iconst 4, 1) := by decide +kernel
theorem dn_11_182 : decode prog_1_method_1_code 182 = .ok (.new 75, 3) := by decide +kernel
theorem dn_11_185 : decode prog_1_method_1_code 185 = .ok (.dup, 1) := by decide +kernel
theorem dn_11_186 : decode prog_1_method_1_code 186 = .ok (.invokespecial 77, 3) := by decide +kernel
theorem dn_11_189 : decode prog_1_method_1_code 189 = .ok (.aastore, 1) := by decide +kernel
theorem dn_11_190 : decode prog_1_method_1_code 190 = .ok (.aload_n 0, 1) := by decide +kernel
theorem dn_11_191 : decode prog_1_method_1_code 191 = .ok (.getfield 40, 3) := by decide +kernel
theorem dn_11_194 : decode prog_1_method_1_code 194 = .ok (.iconst 5, 1) := by decide +kernel
theorem dn_11_195 : decode prog_1_method_1_code 195 = .ok (.new 78, 3) := by decide +kernel
theorem dn_11_198 : decode prog_1_method_1_code 198 = .ok (.dup, 1) := by decide +kernel
theorem dn_11_199 : decode prog_1_method_1_code 199 = .ok (.invokespecial 80, 3) := by decide +kernel
theorem dn_11_202 : decode prog_1_method_1_code 202 = .ok (.aastore, 1) := by decide +kernel
theorem dn_11_203 : decode prog_1_method_1_code 203 = .ok (.return_, 1) := by decide +kernel
theorem hc_11 : Cond.code (⟨"StraightTax", "<init>", "()V"⟩ : MethodName) prog_1_method_1_code 2 none ∈ q_tbl := q_wi_in (by decide +kernel)
theorem hi_11 : Cond.initialized "StraightTax" ∈ q_tbl := q_wi_in (by decide +kernel)
theorem hm_11 : Cond.instanceMethod (⟨"StraightTax", "<init>", "()V"⟩ : MethodName) ∈ q_tbl := q_wi_in (by decide +kernel)
theorem hz_11 : Cond.instantiable "StraightTax" 10 ∈ q_tbl := q_wi_in (by decide +kernel)
theorem dn_6_0 : decode prog_8_method_1_code 0 = .ok (.aload_n 0, 1) := by decide +kernel
theorem dn_6_1 : decode prog_8_method_1_code 1 = .ok (.invokespecial 3, 3) := by decide +kernel
theorem dn_6_4 : decode prog_8_method_1_code 4 = .ok (.aload_n 0, 1) := by decide +kernel
theorem dn_6_5 : decode prog_8_method_1_code 5 = .ok (.iconst 0, 1) := by decide +kernel
theorem dn_6_6 : decode prog_8_method_1_code 6 = .ok (.putfield 9, 3) := by decide +kernel
theorem dn_6_9 : decode prog_8_method_1_code 9 = .ok (.aload_n 0, 1) := by decide +kernel
theorem dn_6_10 : decode prog_8_method_1_code 10 = .ok (.sipush 200, 3) := by decide +kernel
theorem dn_6_13 : decode prog_8_method_1_code 13 = .ok (.newarray .byte, 2) := by decide +kernel
theorem dn_6_15 : decode prog_8_method_1_code 15 = .ok (.putfield 15, 3) := by decide +kernel
theorem dn_6_18 : decode prog_8_method_1_code 18 = .ok (.return_, 1) := by decide +kernel
theorem hc_6 : Cond.code (⟨"StraightTax$Text", "<init>", "()V"⟩ : MethodName) prog_8_method_1_code 1 none ∈ q_tbl := q_wi_in (by decide +kernel)
theorem hi_6 : Cond.initialized "StraightTax$Text" ∈ q_tbl := q_wi_in (by decide +kernel)
theorem hm_6 : Cond.instanceMethod (⟨"StraightTax$Text", "<init>", "()V"⟩ : MethodName) ∈ q_tbl := q_wi_in (by decide +kernel)
theorem hz_6 : Cond.instantiable "StraightTax$Text" 9 ∈ q_tbl := q_wi_in (by decide +kernel)
theorem dn_8_0 : decode prog_10_method_1_code 0 = .ok (.aload_n 0, 1) := by decide +kernel
theorem dn_8_1 : decode prog_10_method_1_code 1 = .ok (.invokespecial 3, 3) := by decide +kernel
theorem dn_8_4 : decode prog_10_method_1_code 4 = .ok (.aload_n 0, 1) := by decide +kernel
theorem dn_8_5 : decode prog_10_method_1_code 5 = .ok (.iconst (-1), 1) := by decide +kernel
theorem dn_8_6 : decode prog_10_method_1_code 6 = .ok (.putfield 9, 3) := by decide +kernel
theorem dn_8_9 : decode prog_10_method_1_code 9 = .ok (.aload_n 0, 1) := by decide +kernel
theorem dn_8_10 : decode prog_10_method_1_code 10 = .ok (.iconst 0, 1) := by decide +kernel
theorem dn_8_11 : decode prog_10_method_1_code 11 = .ok (.putfield 15, 3) := by decide +kernel
theorem dn_8_14 : decode prog_10_method_1_code 14 = .ok (.aload_n 0, 1) := by decide +kernel
theorem dn_8_15 : decode prog_10_method_1_code 15 = .ok (.iconst 0, 1) := by decide +kernel
theorem dn_8_16 : decode prog_10_method_1_code 16 = .ok (.putfield 18, 3) := by decide +kernel
theorem dn_8_19 : decode prog_10_method_1_code 19 = .ok (.aload_n 0, 1) := by decide +kernel
theorem dn_8_20 : decode prog_10_method_1_code 20 = .ok (.iconst 0, 1) := by decide +kernel
theorem dn_8_21 : decode prog_10_method_1_code 21 = .ok (.putfield 21, 3) := by decide +kernel
theorem dn_8_24 : decode prog_10_method_1_code 24 = .ok (.aload_n 0, 1) := by decide +kernel
theorem dn_8_25 : decode prog_10_method_1_code 25 = .ok (.bipush 60, 2) := by decide +kernel
theorem dn_8_27 : decode prog_10_method_1_code 27 = .ok (.newarray .int, 2) := by decide +kernel
theorem dn_8_29 : decode prog_10_method_1_code 29 = .ok (.putfield 25, 3) := by decide +kernel
theorem dn_8_32 : decode prog_10_method_1_code 32 = .ok (.aload_n 0, 1) := by decide +kernel
theorem dn_8_33 : decode prog_10_method_1_code 33 = .ok (.bipush 60, 2) := by decide +kernel
theorem dn_8_35 : decode prog_10_method_1_code 35 = .ok (.newarray .int, 2) := by decide +kernel
theorem dn_8_37 : decode prog_10_method_1_code 37 = .ok (.putfield 29, 3) := by decide +kernel
theorem dn_8_40 : decode prog_10_method_1_code 40 = .ok (.aload_n 0, 1) := by decide +kernel
theorem dn_8_41 : decode prog_10_method_1_code 41 = .ok (.bipush 60, 2) := by decide +kernel
theorem dn_8_43 : decode prog_10_method_1_code 43 = .ok (.newarray .int, 2) := by decide +kernel
theorem dn_8_45 : decode prog_10_method_1_code 45 = .ok (.putfield 32, 3) := by decide +kernel
theorem dn_8_48 : decode prog_10_method_1_code 48 = .ok (.aload_n 0, 1) := by decide +kernel
theorem dn_8_49 : decode prog_10_method_1_code 49 = .ok (.bipush 60, 2) := by decide +kernel
theorem dn_8_51 : decode prog_10_method_1_code 51 = .ok (.newarray .int, 2) := by decide +kernel
theorem dn_8_53 : decode prog_10_method_1_code 53 = .ok (.putfield 35, 3) := by decide +kernel
theorem dn_8_56 : decode prog_10_method_1_code 56 = .ok (.return_, 1) := by decide +kernel
theorem hc_8 : Cond.code (⟨"StraightTax$Walk", "<init>", "()V"⟩ : MethodName) prog_10_method_1_code 1 none ∈ q_tbl := q_wi_in (by decide +kernel)
theorem hi_8 : Cond.initialized "StraightTax$Walk" ∈ q_tbl := q_wi_in (by decide +kernel)
theorem hm_8 : Cond.instanceMethod (⟨"StraightTax$Walk", "<init>", "()V"⟩ : MethodName) ∈ q_tbl := q_wi_in (by decide +kernel)
theorem hz_8 : Cond.instantiable "StraightTax$Walk" 8 ∈ q_tbl := q_wi_in (by decide +kernel)
theorem dn_4_0 : decode prog_6_method_1_code 0 = .ok (.aload_n 0, 1) := by decide +kernel
theorem dn_4_1 : decode prog_6_method_1_code 1 = .ok (.invokespecial 3, 3) := by decide +kernel
theorem dn_4_4 : decode prog_6_method_1_code 4 = .ok (.aload_n 0, 1) := by decide +kernel
theorem dn_4_5 : decode prog_6_method_1_code 5 = .ok (.iconst 0, 1) := by decide +kernel
theorem dn_4_6 : decode prog_6_method_1_code 6 = .ok (.putfield 9, 3) := by decide +kernel
theorem dn_4_9 : decode prog_6_method_1_code 9 = .ok (.aload_n 0, 1) := by decide +kernel
theorem dn_4_10 : decode prog_6_method_1_code 10 = .ok (.bipush 6, 2) := by decide +kernel
theorem dn_4_12 : decode prog_6_method_1_code 12 = .ok (.newarray .int, 2) := by decide +kernel
theorem dn_4_14 : decode prog_6_method_1_code 14 = .ok (.putfield 15, 3) := by decide +kernel
theorem dn_4_17 : decode prog_6_method_1_code 17 = .ok (.aload_n 0, 1) := by decide +kernel
theorem dn_4_18 : decode prog_6_method_1_code 18 = .ok (.bipush 6, 2) := by decide +kernel
theorem dn_4_20 : decode prog_6_method_1_code 20 = .ok (.newarray .int, 2) := by decide +kernel
theorem dn_4_22 : decode prog_6_method_1_code 22 = .ok (.putfield 19, 3) := by decide +kernel
theorem dn_4_25 : decode prog_6_method_1_code 25 = .ok (.aload_n 0, 1) := by decide +kernel
theorem dn_4_26 : decode prog_6_method_1_code 26 = .ok (.bipush 6, 2) := by decide +kernel
theorem dn_4_28 : decode prog_6_method_1_code 28 = .ok (.newarray .int, 2) := by decide +kernel
theorem dn_4_30 : decode prog_6_method_1_code 30 = .ok (.putfield 22, 3) := by decide +kernel
theorem dn_4_33 : decode prog_6_method_1_code 33 = .ok (.aload_n 0, 1) := by decide +kernel
theorem dn_4_34 : decode prog_6_method_1_code 34 = .ok (.bipush 120, 2) := by decide +kernel
theorem dn_4_36 : decode prog_6_method_1_code 36 = .ok (.newarray .int, 2) := by decide +kernel
theorem dn_4_38 : decode prog_6_method_1_code 38 = .ok (.putfield 25, 3) := by decide +kernel
theorem dn_4_41 : decode prog_6_method_1_code 41 = .ok (.return_, 1) := by decide +kernel
theorem hc_4 : Cond.code (⟨"StraightTax$Errands", "<init>", "()V"⟩ : MethodName) prog_6_method_1_code 1 none ∈ q_tbl := q_wi_in (by decide +kernel)
theorem hi_4 : Cond.initialized "StraightTax$Errands" ∈ q_tbl := q_wi_in (by decide +kernel)
theorem hm_4 : Cond.instanceMethod (⟨"StraightTax$Errands", "<init>", "()V"⟩ : MethodName) ∈ q_tbl := q_wi_in (by decide +kernel)
theorem hz_4 : Cond.instantiable "StraightTax$Errands" 5 ∈ q_tbl := q_wi_in (by decide +kernel)
theorem dn_10_0 : decode prog_12_method_1_code 0 = .ok (.aload_n 0, 1) := by decide +kernel
theorem dn_10_1 : decode prog_12_method_1_code 1 = .ok (.invokespecial 3, 3) := by decide +kernel
theorem dn_10_4 : decode prog_12_method_1_code 4 = .ok (.aload_n 0, 1) := by decide +kernel
theorem dn_10_5 : decode prog_12_method_1_code 5 = .ok (.new 9, 3) := by decide +kernel
theorem dn_10_8 : decode prog_12_method_1_code 8 = .ok (.dup, 1) := by decide +kernel
theorem dn_10_9 : decode prog_12_method_1_code 9 = .ok (.invokespecial 11, 3) := by decide +kernel
theorem dn_10_12 : decode prog_12_method_1_code 12 = .ok (.putfield 12, 3) := by decide +kernel
theorem dn_10_15 : decode prog_12_method_1_code 15 = .ok (.aload_n 0, 1) := by decide +kernel
theorem dn_10_16 : decode prog_12_method_1_code 16 = .ok (.iconst 0, 1) := by decide +kernel
theorem dn_10_17 : decode prog_12_method_1_code 17 = .ok (.putfield 18, 3) := by decide +kernel
theorem dn_10_20 : decode prog_12_method_1_code 20 = .ok (.aload_n 0, 1) := by decide +kernel
theorem dn_10_21 : decode prog_12_method_1_code 21 = .ok (.iconst 0, 1) := by decide +kernel
theorem dn_10_22 : decode prog_12_method_1_code 22 = .ok (.putfield 22, 3) := by decide +kernel
theorem dn_10_25 : decode prog_12_method_1_code 25 = .ok (.aload_n 0, 1) := by decide +kernel
theorem dn_10_26 : decode prog_12_method_1_code 26 = .ok (.iconst 5, 1) := by decide +kernel
theorem dn_10_27 : decode prog_12_method_1_code 27 = .ok (.newarray .int, 2) := by decide +kernel
theorem dn_10_29 : decode prog_12_method_1_code 29 = .ok (.putfield 26, 3) := by decide +kernel
theorem dn_10_32 : decode prog_12_method_1_code 32 = .ok (.aload_n 0, 1) := by decide +kernel
theorem dn_10_33 : decode prog_12_method_1_code 33 = .ok (.iconst 5, 1) := by decide +kernel
theorem dn_10_34 : decode prog_12_method_1_code 34 = .ok (.newarray .int, 2) := by decide +kernel
theorem dn_10_36 : decode prog_12_method_1_code 36 = .ok (.putfield 30, 3) := by decide +kernel
theorem dn_10_39 : decode prog_12_method_1_code 39 = .ok (.aload_n 0, 1) := by decide +kernel
theorem dn_10_40 : decode prog_12_method_1_code 40 = .ok (.bipush 80, 2) := by decide +kernel
theorem dn_10_42 : decode prog_12_method_1_code 42 = .ok (.newarray .int, 2) := by decide +kernel
theorem dn_10_44 : decode prog_12_method_1_code 44 = .ok (.putfield 33, 3) := by decide +kernel
theorem dn_10_47 : decode prog_12_method_1_code 47 = .ok (.aload_n 0, 1) := by decide +kernel
theorem dn_10_48 : decode prog_12_method_1_code 48 = .ok (.bipush 80, 2) := by decide +kernel
theorem dn_10_50 : decode prog_12_method_1_code 50 = .ok (.newarray .int, 2) := by decide +kernel
theorem dn_10_52 : decode prog_12_method_1_code 52 = .ok (.putfield 36, 3) := by decide +kernel
theorem dn_10_55 : decode prog_12_method_1_code 55 = .ok (.aload_n 0, 1) := by decide +kernel
theorem dn_10_56 : decode prog_12_method_1_code 56 = .ok (.sipush 400, 3) := by decide +kernel
theorem dn_10_59 : decode prog_12_method_1_code 59 = .ok (.newarray .int, 2) := by decide +kernel
theorem dn_10_61 : decode prog_12_method_1_code 61 = .ok (.putfield 39, 3) := by decide +kernel
theorem dn_10_64 : decode prog_12_method_1_code 64 = .ok (.aload_n 0, 1) := by decide +kernel
theorem dn_10_65 : decode prog_12_method_1_code 65 = .ok (.bipush 9, 2) := by decide +kernel
theorem dn_10_67 : decode prog_12_method_1_code 67 = .ok (.newarray .int, 2) := by decide +kernel
theorem dn_10_69 : decode prog_12_method_1_code 69 = .ok (.putfield 42, 3) := by decide +kernel
theorem dn_10_72 : decode prog_12_method_1_code 72 = .ok (.aload_n 0, 1) := by decide +kernel
theorem dn_10_73 : decode prog_12_method_1_code 73 = .ok (.iconst 5, 1) := by decide +kernel
theorem dn_10_74 : decode prog_12_method_1_code 74 = .ok (.newarray .int, 2) := by decide +kernel
theorem dn_10_76 : decode prog_12_method_1_code 76 = .ok (.putfield 45, 3) := by decide +kernel
theorem dn_10_79 : decode prog_12_method_1_code 79 = .ok (.aload_n 0, 1) := by decide +kernel
theorem dn_10_80 : decode prog_12_method_1_code 80 = .ok (.bipush 25, 2) := by decide +kernel
theorem dn_10_82 : decode prog_12_method_1_code 82 = .ok (.newarray .int, 2) := by decide +kernel
theorem dn_10_84 : decode prog_12_method_1_code 84 = .ok (.putfield 48, 3) := by decide +kernel
theorem dn_10_87 : decode prog_12_method_1_code 87 = .ok (.return_, 1) := by decide +kernel
theorem hc_10 : Cond.code (⟨"StraightTax$Ways", "<init>", "()V"⟩ : MethodName) prog_12_method_1_code 1 none ∈ q_tbl := q_wi_in (by decide +kernel)
theorem hi_10 : Cond.initialized "StraightTax$Ways" ∈ q_tbl := q_wi_in (by decide +kernel)
theorem hm_10 : Cond.instanceMethod (⟨"StraightTax$Ways", "<init>", "()V"⟩ : MethodName) ∈ q_tbl := q_wi_in (by decide +kernel)
theorem hz_10 : Cond.instantiable "StraightTax$Ways" 11 ∈ q_tbl := q_wi_in (by decide +kernel)
theorem dn_7_0 : decode prog_9_method_1_code 0 = .ok (.aload_n 0, 1) := by decide +kernel
theorem dn_7_1 : decode prog_9_method_1_code 1 = .ok (.invokespecial 3, 3) := by decide +kernel
theorem dn_7_4 : decode prog_9_method_1_code 4 = .ok (.aload_n 0, 1) := by decide +kernel
theorem dn_7_5 : decode prog_9_method_1_code 5 = .ok (.bipush 20, 2) := by decide +kernel
theorem dn_7_7 : decode prog_9_method_1_code 7 = .ok (.newarray .int, 2) := by decide +kernel
theorem dn_7_9 : decode prog_9_method_1_code 9 = .ok (.putfield 9, 3) := by decide +kernel
theorem dn_7_12 : decode prog_9_method_1_code 12 = .ok (.aload_n 0, 1) := by decide +kernel
theorem dn_7_13 : decode prog_9_method_1_code 13 = .ok (.bipush 80, 2) := by decide +kernel
theorem dn_7_15 : decode prog_9_method_1_code 15 = .ok (.newarray .int, 2) := by decide +kernel
theorem dn_7_17 : decode prog_9_method_1_code 17 = .ok (.putfield 15, 3) := by decide +kernel
theorem dn_7_20 : decode prog_9_method_1_code 20 = .ok (.aload_n 0, 1) := by decide +kernel
theorem dn_7_21 : decode prog_9_method_1_code 21 = .ok (.invokevirtual 18, 3) := by decide +kernel
theorem dn_7_24 : decode prog_9_method_1_code 24 = .ok (.aload_n 0, 1) := by decide +kernel
theorem dn_7_25 : decode prog_9_method_1_code 25 = .ok (.invokevirtual 21, 3) := by decide +kernel
theorem dn_7_28 : decode prog_9_method_1_code 28 = .ok (.return_, 1) := by decide +kernel
theorem hc_7 : Cond.code (⟨"StraightTax$Town", "<init>", "()V"⟩ : MethodName) prog_9_method_1_code 1 none ∈ q_tbl := q_wi_in (by decide +kernel)
theorem hi_7 : Cond.initialized "StraightTax$Town" ∈ q_tbl := q_wi_in (by decide +kernel)
theorem hm_7 : Cond.instanceMethod (⟨"StraightTax$Town", "<init>", "()V"⟩ : MethodName) ∈ q_tbl := q_wi_in (by decide +kernel)
theorem hz_7 : Cond.instantiable "StraightTax$Town" 9 ∈ q_tbl := q_wi_in (by decide +kernel)
theorem dn_9_0 : decode prog_11_method_1_code 0 = .ok (.aload_n 0, 1) := by decide +kernel
theorem dn_9_1 : decode prog_11_method_1_code 1 = .ok (.invokespecial 1, 3) := by decide +kernel
theorem dn_9_4 : decode prog_11_method_1_code 4 = .ok (.return_, 1) := by decide +kernel
theorem hc_9 : Cond.code (⟨"StraightTax$Walker", "<init>", "()V"⟩ : MethodName) prog_11_method_1_code 1 none ∈ q_tbl := q_wi_in (by decide +kernel)
theorem hi_9 : Cond.initialized "StraightTax$Walker" ∈ q_tbl := q_wi_in (by decide +kernel)
theorem hm_9 : Cond.instanceMethod (⟨"StraightTax$Walker", "<init>", "()V"⟩ : MethodName) ∈ q_tbl := q_wi_in (by decide +kernel)
theorem hz_9 : Cond.instantiable "StraightTax$Walker" 0 ∈ q_tbl := q_wi_in (by decide +kernel)
theorem dn_3_0 : decode prog_5_method_1_code 0 = .ok (.aload_n 0, 1) := by decide +kernel
theorem dn_3_1 : decode prog_5_method_1_code 1 = .ok (.invokespecial 1, 3) := by decide +kernel
theorem dn_3_4 : decode prog_5_method_1_code 4 = .ok (.return_, 1) := by decide +kernel
theorem hc_3 : Cond.code (⟨"StraightTax$Drover", "<init>", "()V"⟩ : MethodName) prog_5_method_1_code 1 none ∈ q_tbl := q_wi_in (by decide +kernel)
theorem hi_3 : Cond.initialized "StraightTax$Drover" ∈ q_tbl := q_wi_in (by decide +kernel)
theorem hm_3 : Cond.instanceMethod (⟨"StraightTax$Drover", "<init>", "()V"⟩ : MethodName) ∈ q_tbl := q_wi_in (by decide +kernel)
theorem hz_3 : Cond.instantiable "StraightTax$Drover" 0 ∈ q_tbl := q_wi_in (by decide +kernel)
theorem dn_1_0 : decode prog_3_method_1_code 0 = .ok (.aload_n 0, 1) := by decide +kernel
theorem dn_1_1 : decode prog_3_method_1_code 1 = .ok (.invokespecial 1, 3) := by decide +kernel
theorem dn_1_4 : decode prog_3_method_1_code 4 = .ok (.return_, 1) := by decide +kernel
theorem hc_1 : Cond.code (⟨"StraightTax$Courtier", "<init>", "()V"⟩ : MethodName) prog_3_method_1_code 1 none ∈ q_tbl := q_wi_in (by decide +kernel)
theorem hi_1 : Cond.initialized "StraightTax$Courtier" ∈ q_tbl := q_wi_in (by decide +kernel)
theorem hm_1 : Cond.instanceMethod (⟨"StraightTax$Courtier", "<init>", "()V"⟩ : MethodName) ∈ q_tbl := q_wi_in (by decide +kernel)
theorem hz_1 : Cond.instantiable "StraightTax$Courtier" 0 ∈ q_tbl := q_wi_in (by decide +kernel)
theorem dn_2_0 : decode prog_4_method_1_code 0 = .ok (.aload_n 0, 1) := by decide +kernel
theorem dn_2_1 : decode prog_4_method_1_code 1 = .ok (.invokespecial 1, 3) := by decide +kernel
theorem dn_2_4 : decode prog_4_method_1_code 4 = .ok (.return_, 1) := by decide +kernel
theorem hc_2 : Cond.code (⟨"StraightTax$Dancer", "<init>", "()V"⟩ : MethodName) prog_4_method_1_code 1 none ∈ q_tbl := q_wi_in (by decide +kernel)
theorem hi_2 : Cond.initialized "StraightTax$Dancer" ∈ q_tbl := q_wi_in (by decide +kernel)
theorem hm_2 : Cond.instanceMethod (⟨"StraightTax$Dancer", "<init>", "()V"⟩ : MethodName) ∈ q_tbl := q_wi_in (by decide +kernel)
theorem hz_2 : Cond.instantiable "StraightTax$Dancer" 0 ∈ q_tbl := q_wi_in (by decide +kernel)
theorem dn_5_0 : decode prog_7_method_1_code 0 = .ok (.aload_n 0, 1) := by decide +kernel
theorem dn_5_1 : decode prog_7_method_1_code 1 = .ok (.invokespecial 1, 3) := by decide +kernel
theorem dn_5_4 : decode prog_7_method_1_code 4 = .ok (.return_, 1) := by decide +kernel
theorem hc_5 : Cond.code (⟨"StraightTax$Lawyer", "<init>", "()V"⟩ : MethodName) prog_7_method_1_code 1 none ∈ q_tbl := q_wi_in (by decide +kernel)
theorem hi_5 : Cond.initialized "StraightTax$Lawyer" ∈ q_tbl := q_wi_in (by decide +kernel)
theorem hm_5 : Cond.instanceMethod (⟨"StraightTax$Lawyer", "<init>", "()V"⟩ : MethodName) ∈ q_tbl := q_wi_in (by decide +kernel)
theorem hz_5 : Cond.instantiable "StraightTax$Lawyer" 0 ∈ q_tbl := q_wi_in (by decide +kernel)
theorem dn_0_0 : decode prog_2_method_1_code 0 = .ok (.aload_n 0, 1) := by decide +kernel
theorem dn_0_1 : decode prog_2_method_1_code 1 = .ok (.invokespecial 1, 3) := by decide +kernel
theorem dn_0_4 : decode prog_2_method_1_code 4 = .ok (.return_, 1) := by decide +kernel
theorem hc_0 : Cond.code (⟨"StraightTax$Beggar", "<init>", "()V"⟩ : MethodName) prog_2_method_1_code 1 none ∈ q_tbl := q_wi_in (by decide +kernel)
theorem hi_0 : Cond.initialized "StraightTax$Beggar" ∈ q_tbl := q_wi_in (by decide +kernel)
theorem hm_0 : Cond.instanceMethod (⟨"StraightTax$Beggar", "<init>", "()V"⟩ : MethodName) ∈ q_tbl := q_wi_in (by decide +kernel)
theorem hz_0 : Cond.instantiable "StraightTax$Beggar" 0 ∈ q_tbl := q_wi_in (by decide +kernel)
theorem dn_12_0 : decode prog_14_method_1_code 0 = .ok (.aload_n 0, 1) := by decide +kernel
theorem dn_12_1 : decode prog_14_method_1_code 1 = .ok (.invokespecial 1, 3) := by decide +kernel
theorem dn_12_4 : decode prog_14_method_1_code 4 = .ok (.aload_n 0, 1) := by decide +kernel
theorem dn_12_5 : decode prog_14_method_1_code 5 = .ok (.iconst 4, 1) := by decide +kernel
theorem dn_12_6 : decode prog_14_method_1_code 6 = .ok (.putfield 7, 3) := by decide +kernel
theorem dn_12_9 : decode prog_14_method_1_code 9 = .ok (.aload_n 0, 1) := by decide +kernel
theorem dn_12_10 : decode prog_14_method_1_code 10 = .ok (.iconst 3, 1) := by decide +kernel
theorem dn_12_11 : decode prog_14_method_1_code 11 = .ok (.putfield 13, 3) := by decide +kernel
theorem dn_12_14 : decode prog_14_method_1_code 14 = .ok (.aload_n 0, 1) := by decide +kernel
theorem dn_12_15 : decode prog_14_method_1_code 15 = .ok (.iconst 1, 1) := by decide +kernel
theorem dn_12_16 : decode prog_14_method_1_code 16 = .ok (.putfield 16, 3) := by decide +kernel
theorem dn_12_19 : decode prog_14_method_1_code 19 = .ok (.aload_n 0, 1) := by decide +kernel
theorem dn_12_20 : decode prog_14_method_1_code 20 = .ok (.iconst 1, 1) := by decide +kernel
theorem dn_12_21 : decode prog_14_method_1_code 21 = .ok (.putfield 19, 3) := by decide +kernel
theorem dn_12_24 : decode prog_14_method_1_code 24 = .ok (.aload_n 0, 1) := by decide +kernel
theorem dn_12_25 : decode prog_14_method_1_code 25 = .ok (.iconst 2, 1) := by decide +kernel
theorem dn_12_26 : decode prog_14_method_1_code 26 = .ok (.putfield 22, 3) := by decide +kernel
theorem dn_12_29 : decode prog_14_method_1_code 29 = .ok (.aload_n 0, 1) := by decide +kernel
theorem dn_12_30 : decode prog_14_method_1_code 30 = .ok (.sipush 200, 3) := by decide +kernel
theorem dn_12_33 : decode prog_14_method_1_code 33 = .ok (.newarray .int, 2) := by decide +kernel
theorem dn_12_35 : decode prog_14_method_1_code 35 = .ok (.putfield 25, 3) := by decide +kernel
theorem dn_12_38 : decode prog_14_method_1_code 38 = .ok (.aload_n 0, 1) := by decide +kernel
theorem dn_12_39 : decode prog_14_method_1_code 39 = .ok (.sipush 390, 3) := by decide +kernel
theorem dn_12_42 : decode prog_14_method_1_code 42 = .ok (.newarray .int, 2) := by decide +kernel
theorem dn_12_44 : decode prog_14_method_1_code 44 = .ok (.putfield 29, 3) := by decide +kernel
theorem dn_12_47 : decode prog_14_method_1_code 47 = .ok (.aload_n 0, 1) := by decide +kernel
theorem dn_12_48 : decode prog_14_method_1_code 48 = .ok (.iconst 2, 1) := by decide +kernel
theorem dn_12_49 : decode prog_14_method_1_code 49 = .ok (.newarray .boolean, 2) := by decide +kernel
theorem dn_12_51 : decode prog_14_method_1_code 51 = .ok (.putfield 32, 3) := by decide +kernel
theorem dn_12_54 : decode prog_14_method_1_code 54 = .ok (.aload_n 0, 1) := by decide +kernel
theorem dn_12_55 : decode prog_14_method_1_code 55 = .ok (.bipush 6, 2) := by decide +kernel
theorem dn_12_57 : decode prog_14_method_1_code 57 = .ok (.newarray .int, 2) := by decide +kernel
theorem dn_12_59 : decode prog_14_method_1_code 59 = .ok (.putfield 36, 3) := by decide +kernel
theorem dn_12_62 : decode prog_14_method_1_code 62 = .ok (.aload_n 0, 1) := by decide +kernel
theorem dn_12_63 : decode prog_14_method_1_code 63 = .ok (.bipush 6, 2) := by decide +kernel
theorem dn_12_65 : decode prog_14_method_1_code 65 = .ok (.newarray .int, 2) := by decide +kernel
theorem dn_12_67 : decode prog_14_method_1_code 67 = .ok (.putfield 39, 3) := by decide +kernel
theorem dn_12_70 : decode prog_14_method_1_code 70 = .ok (.aload_n 0, 1) := by decide +kernel
theorem dn_12_71 : decode prog_14_method_1_code 71 = .ok (.iconst 5, 1) := by decide +kernel
theorem dn_12_72 : decode prog_14_method_1_code 72 = .ok (.newarray .int, 2) := by decide +kernel
theorem dn_12_74 : decode prog_14_method_1_code 74 = .ok (.putfield 42, 3) := by decide +kernel
theorem dn_12_77 : decode prog_14_method_1_code 77 = .ok (.aload_n 0, 1) := by decide +kernel
theorem dn_12_78 : decode prog_14_method_1_code 78 = .ok (.sipush 340, 3) := by decide +kernel
theorem dn_12_81 : decode prog_14_method_1_code 81 = .ok (.newarray .int, 2) := by decide +kernel
theorem dn_12_83 : decode prog_14_method_1_code 83 = .ok (.putfield 45, 3) := by decide +kernel
theorem dn_12_86 : decode prog_14_method_1_code 86 = .ok (.aload_n 0, 1) := by decide +kernel
theorem dn_12_87 : decode prog_14_method_1_code 87 = .ok (.sipush 340, 3) := by decide +kernel
theorem dn_12_90 : decode prog_14_method_1_code 90 = .ok (.newarray .int, 2) := by decide +kernel
theorem dn_12_92 : decode prog_14_method_1_code 92 = .ok (.putfield 48, 3) := by decide +kernel
theorem dn_12_95 : decode prog_14_method_1_code 95 = .ok (.aload_n 0, 1) := by decide +kernel
theorem dn_12_96 : decode prog_14_method_1_code 96 = .ok (.bipush 61, 2) := by decide +kernel
theorem dn_12_98 : decode prog_14_method_1_code 98 = .ok (.newarray .int, 2) := by decide +kernel
theorem dn_12_100 : decode prog_14_method_1_code 100 = .ok (.putfield 51, 3) := by decide +kernel
theorem dn_12_103 : decode prog_14_method_1_code 103 = .ok (.aload_n 0, 1) := by decide +kernel
theorem dn_12_104 : decode prog_14_method_1_code 104 = .ok (.iconst 5, 1) := by decide +kernel
theorem dn_12_105 : decode prog_14_method_1_code 105 = .ok (.newarray .int, 2) := by decide +kernel
theorem dn_12_107 : decode prog_14_method_1_code 107 = .ok (.putfield 54, 3) := by decide +kernel
theorem dn_12_110 : decode prog_14_method_1_code 110 = .ok (.aload_n 0, 1) := by decide +kernel
theorem dn_12_111 : decode prog_14_method_1_code 111 = .ok (.bipush 25, 2) := by decide +kernel
theorem dn_12_113 : decode prog_14_method_1_code 113 = .ok (.newarray .int, 2) := by decide +kernel
theorem dn_12_115 : decode prog_14_method_1_code 115 = .ok (.putfield 57, 3) := by decide +kernel
theorem dn_12_118 : decode prog_14_method_1_code 118 = .ok (.aload_n 0, 1) := by decide +kernel
theorem dn_12_119 : decode prog_14_method_1_code 119 = .ok (.bipush 80, 2) := by decide +kernel
theorem dn_12_121 : decode prog_14_method_1_code 121 = .ok (.newarray .int, 2) := by decide +kernel
theorem dn_12_123 : decode prog_14_method_1_code 123 = .ok (.putfield 60, 3) := by decide +kernel
theorem dn_12_126 : decode prog_14_method_1_code 126 = .ok (.aload_n 0, 1) := by decide +kernel
theorem dn_12_127 : decode prog_14_method_1_code 127 = .ok (.bipush 9, 2) := by decide +kernel
theorem dn_12_129 : decode prog_14_method_1_code 129 = .ok (.newarray .int, 2) := by decide +kernel
theorem dn_12_131 : decode prog_14_method_1_code 131 = .ok (.putfield 63, 3) := by decide +kernel
theorem dn_12_134 : decode prog_14_method_1_code 134 = .ok (.aload_n 0, 1) := by decide +kernel
theorem dn_12_135 : decode prog_14_method_1_code 135 = .ok (.bipush 9, 2) := by decide +kernel
theorem dn_12_137 : decode prog_14_method_1_code 137 = .ok (.newarray .int, 2) := by decide +kernel
theorem dn_12_139 : decode prog_14_method_1_code 139 = .ok (.putfield 66, 3) := by decide +kernel
theorem dn_12_142 : decode prog_14_method_1_code 142 = .ok (.aload_n 0, 1) := by decide +kernel
theorem dn_12_143 : decode prog_14_method_1_code 143 = .ok (.bipush 9, 2) := by decide +kernel
theorem dn_12_145 : decode prog_14_method_1_code 145 = .ok (.newarray .int, 2) := by decide +kernel
theorem dn_12_147 : decode prog_14_method_1_code 147 = .ok (.putfield 69, 3) := by decide +kernel
theorem dn_12_150 : decode prog_14_method_1_code 150 = .ok (.aload_n 0, 1) := by decide +kernel
theorem dn_12_151 : decode prog_14_method_1_code 151 = .ok (.getfield 29, 3) := by decide +kernel
theorem dn_12_154 : decode prog_14_method_1_code 154 = .ok (.iconst 0, 1) := by decide +kernel
theorem dn_12_155 : decode prog_14_method_1_code 155 = .ok (.bipush (-9), 2) := by decide +kernel
theorem dn_12_157 : decode prog_14_method_1_code 157 = .ok (.iastore, 1) := by decide +kernel
theorem dn_12_158 : decode prog_14_method_1_code 158 = .ok (.return_, 1) := by decide +kernel
theorem hc_12 : Cond.code (⟨"StraightTaxModel", "<init>", "()V"⟩ : MethodName) prog_14_method_1_code 1 none ∈ q_tbl := q_wi_in (by decide +kernel)
theorem hi_12 : Cond.initialized "StraightTaxModel" ∈ q_tbl := q_wi_in (by decide +kernel)
theorem hm_12 : Cond.instanceMethod (⟨"StraightTaxModel", "<init>", "()V"⟩ : MethodName) ∈ q_tbl := q_wi_in (by decide +kernel)
theorem hz_12 : Cond.instantiable "StraightTaxModel" 35 ∈ q_tbl := q_wi_in (by decide +kernel)
theorem hw_7b1 : Cond.methodLink (q_cn 7) 18 ⟨"StraightTax$Town", "begin", "()V"⟩ ∈ q_tbl := q_wi_in (by decide +kernel)
theorem hw_7b2 : Cond.instanceMethod ⟨"StraightTax$Town", "begin", "()V"⟩ ∈ q_tbl := q_wi_in (by decide +kernel)
theorem hw_7b3 : Cond.selects "StraightTax$Town" ⟨"StraightTax$Town", "begin", "()V"⟩ ⟨"StraightTax$Town", "begin", "()V"⟩ ∈ q_tbl := q_wi_in (by decide +kernel)
theorem hw_7j1 : Cond.methodLink (q_cn 7) 21 ⟨"StraightTax$Town", "join", "()V"⟩ ∈ q_tbl := q_wi_in (by decide +kernel)
theorem hw_7j2 : Cond.instanceMethod ⟨"StraightTax$Town", "join", "()V"⟩ ∈ q_tbl := q_wi_in (by decide +kernel)
theorem hw_7j3 : Cond.selects "StraightTax$Town" ⟨"StraightTax$Town", "join", "()V"⟩ ⟨"StraightTax$Town", "join", "()V"⟩ ∈ q_tbl := q_wi_in (by decide +kernel)
theorem ho_11_3 : Cond.methodLink (q_cn 11) 3 objectInit ∈ q_tbl := q_wi_in (by decide +kernel)
theorem hk_11_9 : Cond.classLink (q_cn 11) 9 "StraightTax$Text" ∈ q_tbl := q_wi_in (by decide +kernel)
theorem ho_6_3 : Cond.methodLink (q_cn 6) 3 objectInit ∈ q_tbl := q_wi_in (by decide +kernel)
set_option maxRecDepth 100000 in
set_option maxHeartbeats 4000000 in
theorem ci_6_2 {I : Nat → Nat → Int} {L : Nat → Nat → Int64} {M : List ((Nat × Nat) × Nat)} : CM (⟨"StraightTax$Text", "<init>", "()V"⟩ : MethodName) prog_8_method_1_code 1 0 1 200 (gX.take 2) [.ref 1] (I, L, tb M) (gX.take 3) ((q_up I 1 0 (0)), L, tb (((1, 1), 2) :: M)) := by
  refine cm_start (o := 6) (by decide +kernel) (by decide +kernel) rfl (by decide +kernel) ?_
  intro p l e s m args below meth c A av ca D C hret hlk
  simp only [q_en, List.replicate]
  refine n_s (pc2 := 1) C dn_6_0 rfl ?_
  refine n_obj C dn_6_1 ho_6_3 (by decide) (by decide) ?_
  refine n_s (pc2 := 5) C dn_6_4 rfl ?_
  refine n_s (pc2 := 6) C dn_6_5 rfl ?_
  refine g_pfI (a := (0)) C dn_6_6 f_6_9 rfl rfl rfl ?_
  refine n_s (pc2 := 10) C dn_6_9 rfl ?_
  refine n_s (pc2 := 13) C dn_6_10 rfl ?_
  refine g_newa (kd := 101) (N := 200) (i := 2) (sh2 := (gX.take 3)) C dn_6_13 q_arrB (Or.inr (Or.inl ⟨rfl, rfl⟩)) (by decide +kernel) (by decide +kernel) (by decide +kernel) rfl rfl (by decide) rfl rfl (Nat.le_of_ble_eq_true rfl) (Nat.le_of_ble_eq_true rfl) (fun av ca => ?_)
  refine g_putF C dn_6_15 f_6_15 rfl rfl (by decide) rfl rfl (Or.inr ⟨_, rfl⟩) (Nat.le_of_ble_eq_true rfl) (Nat.le_of_ble_eq_true rfl) ?_
  exact n_ret C hret hlk dn_6_18
theorem hx_11_11 : Cond.methodLinkNest (q_cn 11) 11 (⟨"StraightTax$Text", "<init>", "()V"⟩ : MethodName) "StraightTax" ∈ qnestC := by decide +kernel
theorem hk_11_16 : Cond.classLink (q_cn 11) 16 "StraightTax$Walk" ∈ q_tbl := q_wi_in (by decide +kernel)
theorem ho_8_3 : Cond.methodLink (q_cn 8) 3 objectInit ∈ q_tbl := q_wi_in (by decide +kernel)
set_option maxRecDepth 100000 in
set_option maxHeartbeats 4000000 in
theorem ci_8_4 {I : Nat → Nat → Int} {L : Nat → Nat → Int64} {M : List ((Nat × Nat) × Nat)} : CM (⟨"StraightTax$Walk", "<init>", "()V"⟩ : MethodName) prog_10_method_1_code 1 0 4 240 (gX.take 4) [.ref 3] (I, L, tb M) (gX.take 8) ((q_up (q_up (q_up (q_up I 3 0 (-1)) 3 1 (0)) 3 2 (0)) 3 3 (0)), L, tb (((3, 7), 7) :: ((3, 6), 6) :: ((3, 5), 5) :: ((3, 4), 4) :: M)) := by
  refine cm_start (o := 8) (by decide +kernel) (by decide +kernel) rfl (by decide +kernel) ?_
  intro p l e s m args below meth c A av ca D C hret hlk
  simp only [q_en, List.replicate]
  refine n_s (pc2 := 1) C dn_8_0 rfl ?_
  refine n_obj C dn_8_1 ho_8_3 (by decide) (by decide) ?_
  refine n_s (pc2 := 5) C dn_8_4 rfl ?_
  refine n_s (pc2 := 6) C dn_8_5 rfl ?_
  refine g_pfI (a := (-1)) C dn_8_6 f_8_9 rfl rfl rfl ?_
  refine n_s (pc2 := 10) C dn_8_9 rfl ?_
  refine n_s (pc2 := 11) C dn_8_10 rfl ?_
  refine g_pfI (a := (0)) C dn_8_11 f_8_15 rfl rfl rfl ?_
  refine n_s (pc2 := 15) C dn_8_14 rfl ?_
  refine n_s (pc2 := 16) C dn_8_15 rfl ?_
  refine g_pfI (a := (0)) C dn_8_16 f_8_18 rfl rfl rfl ?_
  refine n_s (pc2 := 20) C dn_8_19 rfl ?_
  refine n_s (pc2 := 21) C dn_8_20 rfl ?_
  refine g_pfZ (a := 0) C dn_8_21 f_8_21 rfl rfl rfl (by decide) ?_
  refine n_s (pc2 := 25) C dn_8_24 rfl ?_
  refine n_s (pc2 := 27) C dn_8_25 rfl ?_
  refine g_newa (kd := 100) (N := 60) (i := 4) (sh2 := (gX.take 5)) C dn_8_27 q_arrI (Or.inl ⟨rfl, rfl⟩) (by decide +kernel) (by decide +kernel) (by decide +kernel) rfl rfl (by decide) rfl rfl (Nat.le_of_ble_eq_true rfl) (Nat.le_of_ble_eq_true rfl) (fun av ca => ?_)
  refine g_putF C dn_8_29 f_8_25 rfl rfl (by decide) rfl rfl (Or.inr ⟨_, rfl⟩) (Nat.le_of_ble_eq_true rfl) (Nat.le_of_ble_eq_true rfl) ?_
  refine n_s (pc2 := 33) C dn_8_32 rfl ?_
  refine n_s (pc2 := 35) C dn_8_33 rfl ?_
  refine g_newa (kd := 100) (N := 60) (i := 5) (sh2 := (gX.take 6)) C dn_8_35 q_arrI (Or.inl ⟨rfl, rfl⟩) (by decide +kernel) (by decide +kernel) (by decide +kernel) rfl rfl (by decide) rfl rfl (Nat.le_of_ble_eq_true rfl) (Nat.le_of_ble_eq_true rfl) (fun av ca => ?_)
  refine g_putF C dn_8_37 f_8_29 rfl rfl (by decide) rfl rfl (Or.inr ⟨_, rfl⟩) (Nat.le_of_ble_eq_true rfl) (Nat.le_of_ble_eq_true rfl) ?_
  refine n_s (pc2 := 41) C dn_8_40 rfl ?_
  refine n_s (pc2 := 43) C dn_8_41 rfl ?_
  refine g_newa (kd := 100) (N := 60) (i := 6) (sh2 := (gX.take 7)) C dn_8_43 q_arrI (Or.inl ⟨rfl, rfl⟩) (by decide +kernel) (by decide +kernel) (by decide +kernel) rfl rfl (by decide) rfl rfl (Nat.le_of_ble_eq_true rfl) (Nat.le_of_ble_eq_true rfl) (fun av ca => ?_)
  refine g_putF C dn_8_45 f_8_32 rfl rfl (by decide) rfl rfl (Or.inr ⟨_, rfl⟩) (Nat.le_of_ble_eq_true rfl) (Nat.le_of_ble_eq_true rfl) ?_
  refine n_s (pc2 := 49) C dn_8_48 rfl ?_
  refine n_s (pc2 := 51) C dn_8_49 rfl ?_
  refine g_newa (kd := 100) (N := 60) (i := 7) (sh2 := (gX.take 8)) C dn_8_51 q_arrI (Or.inl ⟨rfl, rfl⟩) (by decide +kernel) (by decide +kernel) (by decide +kernel) rfl rfl (by decide) rfl rfl (Nat.le_of_ble_eq_true rfl) (Nat.le_of_ble_eq_true rfl) (fun av ca => ?_)
  refine g_putF C dn_8_53 f_8_35 rfl rfl (by decide) rfl rfl (Or.inr ⟨_, rfl⟩) (Nat.le_of_ble_eq_true rfl) (Nat.le_of_ble_eq_true rfl) ?_
  exact n_ret C hret hlk dn_8_56
theorem hx_11_18 : Cond.methodLinkNest (q_cn 11) 18 (⟨"StraightTax$Walk", "<init>", "()V"⟩ : MethodName) "StraightTax" ∈ qnestC := by decide +kernel
theorem hk_11_31 : Cond.classLink (q_cn 11) 31 "StraightTax$Errands" ∈ q_tbl := q_wi_in (by decide +kernel)
theorem ho_4_3 : Cond.methodLink (q_cn 4) 3 objectInit ∈ q_tbl := q_wi_in (by decide +kernel)
set_option maxRecDepth 100000 in
set_option maxHeartbeats 4000000 in
theorem ci_4_11 {I : Nat → Nat → Int} {L : Nat → Nat → Int64} {M : List ((Nat × Nat) × Nat)} : CM (⟨"StraightTax$Errands", "<init>", "()V"⟩ : MethodName) prog_6_method_1_code 1 0 4 138 (gX.take 11) [.ref 10] (I, L, tb M) (gX.take 15) ((q_up I 10 0 (0)), L, tb (((10, 4), 14) :: ((10, 3), 13) :: ((10, 2), 12) :: ((10, 1), 11) :: M)) := by
  refine cm_start (o := 4) (by decide +kernel) (by decide +kernel) rfl (by decide +kernel) ?_
  intro p l e s m args below meth c A av ca D C hret hlk
  simp only [q_en, List.replicate]
  refine n_s (pc2 := 1) C dn_4_0 rfl ?_
  refine n_obj C dn_4_1 ho_4_3 (by decide) (by decide) ?_
  refine n_s (pc2 := 5) C dn_4_4 rfl ?_
  refine n_s (pc2 := 6) C dn_4_5 rfl ?_
  refine g_pfI (a := (0)) C dn_4_6 f_4_9 rfl rfl rfl ?_
  refine n_s (pc2 := 10) C dn_4_9 rfl ?_
  refine n_s (pc2 := 12) C dn_4_10 rfl ?_
  refine g_newa (kd := 100) (N := 6) (i := 11) (sh2 := (gX.take 12)) C dn_4_12 q_arrI (Or.inl ⟨rfl, rfl⟩) (by decide +kernel) (by decide +kernel) (by decide +kernel) rfl rfl (by decide) rfl rfl (Nat.le_of_ble_eq_true rfl) (Nat.le_of_ble_eq_true rfl) (fun av ca => ?_)
  refine g_putF C dn_4_14 f_4_15 rfl rfl (by decide) rfl rfl (Or.inr ⟨_, rfl⟩) (Nat.le_of_ble_eq_true rfl) (Nat.le_of_ble_eq_true rfl) ?_
  refine n_s (pc2 := 18) C dn_4_17 rfl ?_
  refine n_s (pc2 := 20) C dn_4_18 rfl ?_
  refine g_newa (kd := 100) (N := 6) (i := 12) (sh2 := (gX.take 13)) C dn_4_20 q_arrI (Or.inl ⟨rfl, rfl⟩) (by decide +kernel) (by decide +kernel) (by decide +kernel) rfl rfl (by decide) rfl rfl (Nat.le_of_ble_eq_true rfl) (Nat.le_of_ble_eq_true rfl) (fun av ca => ?_)
  refine g_putF C dn_4_22 f_4_19 rfl rfl (by decide) rfl rfl (Or.inr ⟨_, rfl⟩) (Nat.le_of_ble_eq_true rfl) (Nat.le_of_ble_eq_true rfl) ?_
  refine n_s (pc2 := 26) C dn_4_25 rfl ?_
  refine n_s (pc2 := 28) C dn_4_26 rfl ?_
  refine g_newa (kd := 100) (N := 6) (i := 13) (sh2 := (gX.take 14)) C dn_4_28 q_arrI (Or.inl ⟨rfl, rfl⟩) (by decide +kernel) (by decide +kernel) (by decide +kernel) rfl rfl (by decide) rfl rfl (Nat.le_of_ble_eq_true rfl) (Nat.le_of_ble_eq_true rfl) (fun av ca => ?_)
  refine g_putF C dn_4_30 f_4_22 rfl rfl (by decide) rfl rfl (Or.inr ⟨_, rfl⟩) (Nat.le_of_ble_eq_true rfl) (Nat.le_of_ble_eq_true rfl) ?_
  refine n_s (pc2 := 34) C dn_4_33 rfl ?_
  refine n_s (pc2 := 36) C dn_4_34 rfl ?_
  refine g_newa (kd := 100) (N := 120) (i := 14) (sh2 := (gX.take 15)) C dn_4_36 q_arrI (Or.inl ⟨rfl, rfl⟩) (by decide +kernel) (by decide +kernel) (by decide +kernel) rfl rfl (by decide) rfl rfl (Nat.le_of_ble_eq_true rfl) (Nat.le_of_ble_eq_true rfl) (fun av ca => ?_)
  refine g_putF C dn_4_38 f_4_25 rfl rfl (by decide) rfl rfl (Or.inr ⟨_, rfl⟩) (Nat.le_of_ble_eq_true rfl) (Nat.le_of_ble_eq_true rfl) ?_
  exact n_ret C hret hlk dn_4_41
theorem hx_11_33 : Cond.methodLinkNest (q_cn 11) 33 (⟨"StraightTax$Errands", "<init>", "()V"⟩ : MethodName) "StraightTax" ∈ qnestC := by decide +kernel
theorem hk_11_38 : Cond.classLink (q_cn 11) 38 "StraightTax$Walker" ∈ q_tbl := q_wi_in (by decide +kernel)
theorem hk_11_44 : Cond.classLink (q_cn 11) 44 "StraightTax$Ways" ∈ q_tbl := q_wi_in (by decide +kernel)
theorem ho_10_3 : Cond.methodLink (q_cn 10) 3 objectInit ∈ q_tbl := q_wi_in (by decide +kernel)
theorem hk_10_9 : Cond.classLink (q_cn 10) 9 "StraightTax$Town" ∈ q_tbl := q_wi_in (by decide +kernel)
theorem ho_7_3 : Cond.methodLink (q_cn 7) 3 objectInit ∈ q_tbl := q_wi_in (by decide +kernel)
set_option maxRecDepth 100000 in
set_option maxHeartbeats 4000000 in
theorem ci_7_18 {I : Nat → Nat → Int} {L : Nat → Nat → Int64} {M : List ((Nat × Nat) × Nat)} : CM (⟨"StraightTax$Town", "<init>", "()V"⟩ : MethodName) prog_9_method_1_code 1 4 2 100 (gX.take 18) [.ref 17] (I, L, tb M) (gX.take 20) ((jn T00 (bgn I 17) 17 ((tN T00).toNat * 4)), L, tb (((17, 8), 19) :: ((17, 7), 18) :: M)) := by
  refine cm_start (o := 7) (by decide +kernel) (by decide +kernel) rfl (by decide +kernel) ?_
  intro p l e s m args below meth c A av ca D C hret hlk
  simp only [q_en, List.replicate]
  refine n_s (pc2 := 1) C dn_7_0 rfl ?_
  refine n_obj C dn_7_1 ho_7_3 (by decide) (by decide) ?_
  refine n_s (pc2 := 5) C dn_7_4 rfl ?_
  refine n_s (pc2 := 7) C dn_7_5 rfl ?_
  refine g_newa (kd := 100) (N := 20) (i := 18) (sh2 := (gX.take 19)) C dn_7_7 q_arrI (Or.inl ⟨rfl, rfl⟩) (by decide +kernel) (by decide +kernel) (by decide +kernel) rfl rfl (by decide) rfl rfl (Nat.le_of_ble_eq_true rfl) (Nat.le_of_ble_eq_true rfl) (fun av ca => ?_)
  refine g_putF C dn_7_9 f_7_9 rfl rfl (by decide) rfl rfl (Or.inr ⟨_, rfl⟩) (Nat.le_of_ble_eq_true rfl) (Nat.le_of_ble_eq_true rfl) ?_
  refine n_s (pc2 := 13) C dn_7_12 rfl ?_
  refine n_s (pc2 := 15) C dn_7_13 rfl ?_
  refine g_newa (kd := 100) (N := 80) (i := 19) (sh2 := (gX.take 20)) C dn_7_15 q_arrI (Or.inl ⟨rfl, rfl⟩) (by decide +kernel) (by decide +kernel) (by decide +kernel) rfl rfl (by decide) rfl rfl (Nat.le_of_ble_eq_true rfl) (Nat.le_of_ble_eq_true rfl) (fun av ca => ?_)
  refine g_putF C dn_7_17 f_7_15 rfl rfl (by decide) rfl rfl (Or.inr ⟨_, rfl⟩) (Nat.le_of_ble_eq_true rfl) (Nat.le_of_ble_eq_true rfl) ?_
  refine n_s (pc2 := 21) C dn_7_20 rfl ?_
  refine n_callv (d2 := 1) C dn_7_21 (show qmt[23]? = some _ from rfl) rfl rfl rfl rfl (by decide) hw_7b1 hw_7b2 hw_7b3 hi_7 (e_begin rfl rfl rfl) (Nat.le_of_ble_eq_true rfl) (Nat.le_of_ble_eq_true rfl) (by decide) (fun h => h.upB (Nat.le_of_ble_eq_true rfl)) ⟨Nat.le_of_ble_eq_true rfl, Nat.le_of_ble_eq_true rfl⟩ ?_
  refine n_s (pc2 := 25) C dn_7_24 rfl ?_
  refine n_callv (d2 := 3) C dn_7_25 (show qmt[24]? = some _ from rfl) rfl rfl rfl rfl (by decide) hw_7j1 hw_7j2 hw_7j3 hi_7 (e_join (bgn_at rfl rfl rfl rfl rfl) T00_ok.1 rfl rfl) (Nat.le_of_ble_eq_true rfl) (Nat.le_of_ble_eq_true rfl) (by decide) (fun h => h.upJ (Nat.le_of_ble_eq_true rfl)) ⟨Nat.le_of_ble_eq_true rfl, Nat.le_of_ble_eq_true rfl⟩ ?_
  exact n_ret C hret hlk dn_7_28
theorem hl_10_11 : Cond.methodLink (q_cn 10) 11 (⟨"StraightTax$Town", "<init>", "()V"⟩ : MethodName) ∈ q_tbl := q_wi_in (by decide +kernel)
set_option maxRecDepth 100000 in
set_option maxHeartbeats 4000000 in
theorem ci_10_17 {I : Nat → Nat → Int} {L : Nat → Nat → Int64} {M : List ((Nat × Nat) × Nat)} : CM (⟨"StraightTax$Ways", "<init>", "()V"⟩ : MethodName) prog_12_method_1_code 1 5 11 718 (gX.take 17) [.ref 16] (I, L, tb M) (gX.take 28) ((q_up (q_up (jn T00 (bgn I 17) 17 ((tN T00).toNat * 4)) 16 1 (0)) 16 2 (0)), L, tb (((16, 10), 27) :: ((16, 9), 26) :: ((16, 8), 25) :: ((16, 7), 24) :: ((16, 6), 23) :: ((16, 5), 22) :: ((16, 4), 21) :: ((16, 3), 20) :: ((16, 0), 17) :: ((17, 8), 19) :: ((17, 7), 18) :: M)) := by
  refine cm_start (o := 10) (by decide +kernel) (by decide +kernel) rfl (by decide +kernel) ?_
  intro p l e s m args below meth c A av ca D C hret hlk
  simp only [q_en, List.replicate]
  refine n_s (pc2 := 1) C dn_10_0 rfl ?_
  refine n_obj C dn_10_1 ho_10_3 (by decide) (by decide) ?_
  refine n_s (pc2 := 5) C dn_10_4 rfl ?_
  refine g_new (ci := 7) (i := 17) (sh2 := (gX.take 18)) C dn_10_5 rfl hk_10_9 hz_7 hi_7 rfl rfl (by decide) rfl rfl (Nat.le_of_ble_eq_true rfl) (Nat.le_of_ble_eq_true rfl) (fun av => ?_)
  refine n_s (pc2 := 9) C dn_10_8 rfl ?_
  refine n_init (As := []) C dn_10_9 (Or.inl hl_10_11) hc_7 hi_7 hm_7 rfl ⟨by decide +kernel, by decide +kernel⟩ (np := 0) (by decide +kernel) rfl ci_7_18 (Nat.le_of_ble_eq_true rfl) (Nat.le_of_ble_eq_true rfl) (by decide) (by decide) (Nat.le_of_ble_eq_true rfl) (Nat.le_of_ble_eq_true rfl) (Nat.le_of_ble_eq_true rfl) rfl rfl rfl (fun av ca => ?_)
  refine g_pfR C dn_10_12 f_10_12 rfl rfl rfl (Nat.le_of_ble_eq_true rfl) (by decide) ?_
  refine n_s (pc2 := 16) C dn_10_15 rfl ?_
  refine n_s (pc2 := 17) C dn_10_16 rfl ?_
  refine g_pfZ (a := 0) C dn_10_17 f_10_18 rfl rfl rfl (by decide) ?_
  refine n_s (pc2 := 21) C dn_10_20 rfl ?_
  refine n_s (pc2 := 22) C dn_10_21 rfl ?_
  refine g_pfI (a := (0)) C dn_10_22 f_10_22 rfl rfl rfl ?_
  refine n_s (pc2 := 26) C dn_10_25 rfl ?_
  refine n_s (pc2 := 27) C dn_10_26 rfl ?_
  refine g_newa (kd := 100) (N := 5) (i := 20) (sh2 := (gX.take 21)) C dn_10_27 q_arrI (Or.inl ⟨rfl, rfl⟩) (by decide +kernel) (by decide +kernel) (by decide +kernel) rfl rfl (by decide) rfl rfl (Nat.le_of_ble_eq_true rfl) (Nat.le_of_ble_eq_true rfl) (fun av ca => ?_)
  refine g_putF C dn_10_29 f_10_26 rfl rfl (by decide) rfl rfl (Or.inr ⟨_, rfl⟩) (Nat.le_of_ble_eq_true rfl) (Nat.le_of_ble_eq_true rfl) ?_
  refine n_s (pc2 := 33) C dn_10_32 rfl ?_
  refine n_s (pc2 := 34) C dn_10_33 rfl ?_
  refine g_newa (kd := 100) (N := 5) (i := 21) (sh2 := (gX.take 22)) C dn_10_34 q_arrI (Or.inl ⟨rfl, rfl⟩) (by decide +kernel) (by decide +kernel) (by decide +kernel) rfl rfl (by decide) rfl rfl (Nat.le_of_ble_eq_true rfl) (Nat.le_of_ble_eq_true rfl) (fun av ca => ?_)
  refine g_putF C dn_10_36 f_10_30 rfl rfl (by decide) rfl rfl (Or.inr ⟨_, rfl⟩) (Nat.le_of_ble_eq_true rfl) (Nat.le_of_ble_eq_true rfl) ?_
  refine n_s (pc2 := 40) C dn_10_39 rfl ?_
  refine n_s (pc2 := 42) C dn_10_40 rfl ?_
  refine g_newa (kd := 100) (N := 80) (i := 22) (sh2 := (gX.take 23)) C dn_10_42 q_arrI (Or.inl ⟨rfl, rfl⟩) (by decide +kernel) (by decide +kernel) (by decide +kernel) rfl rfl (by decide) rfl rfl (Nat.le_of_ble_eq_true rfl) (Nat.le_of_ble_eq_true rfl) (fun av ca => ?_)
  refine g_putF C dn_10_44 f_10_33 rfl rfl (by decide) rfl rfl (Or.inr ⟨_, rfl⟩) (Nat.le_of_ble_eq_true rfl) (Nat.le_of_ble_eq_true rfl) ?_
  refine n_s (pc2 := 48) C dn_10_47 rfl ?_
  refine n_s (pc2 := 50) C dn_10_48 rfl ?_
  refine g_newa (kd := 100) (N := 80) (i := 23) (sh2 := (gX.take 24)) C dn_10_50 q_arrI (Or.inl ⟨rfl, rfl⟩) (by decide +kernel) (by decide +kernel) (by decide +kernel) rfl rfl (by decide) rfl rfl (Nat.le_of_ble_eq_true rfl) (Nat.le_of_ble_eq_true rfl) (fun av ca => ?_)
  refine g_putF C dn_10_52 f_10_36 rfl rfl (by decide) rfl rfl (Or.inr ⟨_, rfl⟩) (Nat.le_of_ble_eq_true rfl) (Nat.le_of_ble_eq_true rfl) ?_
  refine n_s (pc2 := 56) C dn_10_55 rfl ?_
  refine n_s (pc2 := 59) C dn_10_56 rfl ?_
  refine g_newa (kd := 100) (N := 400) (i := 24) (sh2 := (gX.take 25)) C dn_10_59 q_arrI (Or.inl ⟨rfl, rfl⟩) (by decide +kernel) (by decide +kernel) (by decide +kernel) rfl rfl (by decide) rfl rfl (Nat.le_of_ble_eq_true rfl) (Nat.le_of_ble_eq_true rfl) (fun av ca => ?_)
  refine g_putF C dn_10_61 f_10_39 rfl rfl (by decide) rfl rfl (Or.inr ⟨_, rfl⟩) (Nat.le_of_ble_eq_true rfl) (Nat.le_of_ble_eq_true rfl) ?_
  refine n_s (pc2 := 65) C dn_10_64 rfl ?_
  refine n_s (pc2 := 67) C dn_10_65 rfl ?_
  refine g_newa (kd := 100) (N := 9) (i := 25) (sh2 := (gX.take 26)) C dn_10_67 q_arrI (Or.inl ⟨rfl, rfl⟩) (by decide +kernel) (by decide +kernel) (by decide +kernel) rfl rfl (by decide) rfl rfl (Nat.le_of_ble_eq_true rfl) (Nat.le_of_ble_eq_true rfl) (fun av ca => ?_)
  refine g_putF C dn_10_69 f_10_42 rfl rfl (by decide) rfl rfl (Or.inr ⟨_, rfl⟩) (Nat.le_of_ble_eq_true rfl) (Nat.le_of_ble_eq_true rfl) ?_
  refine n_s (pc2 := 73) C dn_10_72 rfl ?_
  refine n_s (pc2 := 74) C dn_10_73 rfl ?_
  refine g_newa (kd := 100) (N := 5) (i := 26) (sh2 := (gX.take 27)) C dn_10_74 q_arrI (Or.inl ⟨rfl, rfl⟩) (by decide +kernel) (by decide +kernel) (by decide +kernel) rfl rfl (by decide) rfl rfl (Nat.le_of_ble_eq_true rfl) (Nat.le_of_ble_eq_true rfl) (fun av ca => ?_)
  refine g_putF C dn_10_76 f_10_45 rfl rfl (by decide) rfl rfl (Or.inr ⟨_, rfl⟩) (Nat.le_of_ble_eq_true rfl) (Nat.le_of_ble_eq_true rfl) ?_
  refine n_s (pc2 := 80) C dn_10_79 rfl ?_
  refine n_s (pc2 := 82) C dn_10_80 rfl ?_
  refine g_newa (kd := 100) (N := 25) (i := 27) (sh2 := (gX.take 28)) C dn_10_82 q_arrI (Or.inl ⟨rfl, rfl⟩) (by decide +kernel) (by decide +kernel) (by decide +kernel) rfl rfl (by decide) rfl rfl (Nat.le_of_ble_eq_true rfl) (Nat.le_of_ble_eq_true rfl) (fun av ca => ?_)
  refine g_putF C dn_10_84 f_10_48 rfl rfl (by decide) rfl rfl (Or.inr ⟨_, rfl⟩) (Nat.le_of_ble_eq_true rfl) (Nat.le_of_ble_eq_true rfl) ?_
  exact n_ret C hret hlk dn_10_87
theorem hx_11_46 : Cond.methodLinkNest (q_cn 11) 46 (⟨"StraightTax$Ways", "<init>", "()V"⟩ : MethodName) "StraightTax" ∈ qnestC := by decide +kernel
theorem hk_11_51 : Cond.classLink (q_cn 11) 51 "StraightTax$Town" ∈ q_tbl := q_wi_in (by decide +kernel)
set_option maxRecDepth 100000 in
set_option maxHeartbeats 4000000 in
theorem ci_7_29 {I : Nat → Nat → Int} {L : Nat → Nat → Int64} {M : List ((Nat × Nat) × Nat)} : CM (⟨"StraightTax$Town", "<init>", "()V"⟩ : MethodName) prog_9_method_1_code 1 4 2 100 (gX.take 29) [.ref 28] (I, L, tb M) (gX.take 31) ((jn T00 (bgn I 28) 28 ((tN T00).toNat * 4)), L, tb (((28, 8), 30) :: ((28, 7), 29) :: M)) := by
  refine cm_start (o := 7) (by decide +kernel) (by decide +kernel) rfl (by decide +kernel) ?_
  intro p l e s m args below meth c A av ca D C hret hlk
  simp only [q_en, List.replicate]
  refine n_s (pc2 := 1) C dn_7_0 rfl ?_
  refine n_obj C dn_7_1 ho_7_3 (by decide) (by decide) ?_
  refine n_s (pc2 := 5) C dn_7_4 rfl ?_
  refine n_s (pc2 := 7) C dn_7_5 rfl ?_
  refine g_newa (kd := 100) (N := 20) (i := 29) (sh2 := (gX.take 30)) C dn_7_7 q_arrI (Or.inl ⟨rfl, rfl⟩) (by decide +kernel) (by decide +kernel) (by decide +kernel) rfl rfl (by decide) rfl rfl (Nat.le_of_ble_eq_true rfl) (Nat.le_of_ble_eq_true rfl) (fun av ca => ?_)
  refine g_putF C dn_7_9 f_7_9 rfl rfl (by decide) rfl rfl (Or.inr ⟨_, rfl⟩) (Nat.le_of_ble_eq_true rfl) (Nat.le_of_ble_eq_true rfl) ?_
  refine n_s (pc2 := 13) C dn_7_12 rfl ?_
  refine n_s (pc2 := 15) C dn_7_13 rfl ?_
  refine g_newa (kd := 100) (N := 80) (i := 30) (sh2 := (gX.take 31)) C dn_7_15 q_arrI (Or.inl ⟨rfl, rfl⟩) (by decide +kernel) (by decide +kernel) (by decide +kernel) rfl rfl (by decide) rfl rfl (Nat.le_of_ble_eq_true rfl) (Nat.le_of_ble_eq_true rfl) (fun av ca => ?_)
  refine g_putF C dn_7_17 f_7_15 rfl rfl (by decide) rfl rfl (Or.inr ⟨_, rfl⟩) (Nat.le_of_ble_eq_true rfl) (Nat.le_of_ble_eq_true rfl) ?_
  refine n_s (pc2 := 21) C dn_7_20 rfl ?_
  refine n_callv (d2 := 1) C dn_7_21 (show qmt[23]? = some _ from rfl) rfl rfl rfl rfl (by decide) hw_7b1 hw_7b2 hw_7b3 hi_7 (e_begin rfl rfl rfl) (Nat.le_of_ble_eq_true rfl) (Nat.le_of_ble_eq_true rfl) (by decide) (fun h => h.upB (Nat.le_of_ble_eq_true rfl)) ⟨Nat.le_of_ble_eq_true rfl, Nat.le_of_ble_eq_true rfl⟩ ?_
  refine n_s (pc2 := 25) C dn_7_24 rfl ?_
  refine n_callv (d2 := 3) C dn_7_25 (show qmt[24]? = some _ from rfl) rfl rfl rfl rfl (by decide) hw_7j1 hw_7j2 hw_7j3 hi_7 (e_join (bgn_at rfl rfl rfl rfl rfl) T00_ok.1 rfl rfl) (Nat.le_of_ble_eq_true rfl) (Nat.le_of_ble_eq_true rfl) (by decide) (fun h => h.upJ (Nat.le_of_ble_eq_true rfl)) ⟨Nat.le_of_ble_eq_true rfl, Nat.le_of_ble_eq_true rfl⟩ ?_
  exact n_ret C hret hlk dn_7_28
theorem hl_11_53 : Cond.methodLink (q_cn 11) 53 (⟨"StraightTax$Town", "<init>", "()V"⟩ : MethodName) ∈ q_tbl := q_wi_in (by decide +kernel)
set_option maxRecDepth 100000 in
set_option maxHeartbeats 4000000 in
theorem ci_7_32 {I : Nat → Nat → Int} {L : Nat → Nat → Int64} {M : List ((Nat × Nat) × Nat)} : CM (⟨"StraightTax$Town", "<init>", "()V"⟩ : MethodName) prog_9_method_1_code 1 4 2 100 (gX.take 32) [.ref 31] (I, L, tb M) (gX.take 34) ((jn T00 (bgn I 31) 31 ((tN T00).toNat * 4)), L, tb (((31, 8), 33) :: ((31, 7), 32) :: M)) := by
  refine cm_start (o := 7) (by decide +kernel) (by decide +kernel) rfl (by decide +kernel) ?_
  intro p l e s m args below meth c A av ca D C hret hlk
  simp only [q_en, List.replicate]
  refine n_s (pc2 := 1) C dn_7_0 rfl ?_
  refine n_obj C dn_7_1 ho_7_3 (by decide) (by decide) ?_
  refine n_s (pc2 := 5) C dn_7_4 rfl ?_
  refine n_s (pc2 := 7) C dn_7_5 rfl ?_
  refine g_newa (kd := 100) (N := 20) (i := 32) (sh2 := (gX.take 33)) C dn_7_7 q_arrI (Or.inl ⟨rfl, rfl⟩) (by decide +kernel) (by decide +kernel) (by decide +kernel) rfl rfl (by decide) rfl rfl (Nat.le_of_ble_eq_true rfl) (Nat.le_of_ble_eq_true rfl) (fun av ca => ?_)
  refine g_putF C dn_7_9 f_7_9 rfl rfl (by decide) rfl rfl (Or.inr ⟨_, rfl⟩) (Nat.le_of_ble_eq_true rfl) (Nat.le_of_ble_eq_true rfl) ?_
  refine n_s (pc2 := 13) C dn_7_12 rfl ?_
  refine n_s (pc2 := 15) C dn_7_13 rfl ?_
  refine g_newa (kd := 100) (N := 80) (i := 33) (sh2 := (gX.take 34)) C dn_7_15 q_arrI (Or.inl ⟨rfl, rfl⟩) (by decide +kernel) (by decide +kernel) (by decide +kernel) rfl rfl (by decide) rfl rfl (Nat.le_of_ble_eq_true rfl) (Nat.le_of_ble_eq_true rfl) (fun av ca => ?_)
  refine g_putF C dn_7_17 f_7_15 rfl rfl (by decide) rfl rfl (Or.inr ⟨_, rfl⟩) (Nat.le_of_ble_eq_true rfl) (Nat.le_of_ble_eq_true rfl) ?_
  refine n_s (pc2 := 21) C dn_7_20 rfl ?_
  refine n_callv (d2 := 1) C dn_7_21 (show qmt[23]? = some _ from rfl) rfl rfl rfl rfl (by decide) hw_7b1 hw_7b2 hw_7b3 hi_7 (e_begin rfl rfl rfl) (Nat.le_of_ble_eq_true rfl) (Nat.le_of_ble_eq_true rfl) (by decide) (fun h => h.upB (Nat.le_of_ble_eq_true rfl)) ⟨Nat.le_of_ble_eq_true rfl, Nat.le_of_ble_eq_true rfl⟩ ?_
  refine n_s (pc2 := 25) C dn_7_24 rfl ?_
  refine n_callv (d2 := 3) C dn_7_25 (show qmt[24]? = some _ from rfl) rfl rfl rfl rfl (by decide) hw_7j1 hw_7j2 hw_7j3 hi_7 (e_join (bgn_at rfl rfl rfl rfl rfl) T00_ok.1 rfl rfl) (Nat.le_of_ble_eq_true rfl) (Nat.le_of_ble_eq_true rfl) (by decide) (fun h => h.upJ (Nat.le_of_ble_eq_true rfl)) ⟨Nat.le_of_ble_eq_true rfl, Nat.le_of_ble_eq_true rfl⟩ ?_
  exact n_ret C hret hlk dn_7_28
set_option maxRecDepth 100000 in
set_option maxHeartbeats 4000000 in
theorem ci_8_35 {I : Nat → Nat → Int} {L : Nat → Nat → Int64} {M : List ((Nat × Nat) × Nat)} : CM (⟨"StraightTax$Walk", "<init>", "()V"⟩ : MethodName) prog_10_method_1_code 1 0 4 240 (gX.take 35) [.ref 34] (I, L, tb M) (gX.take 39) ((q_up (q_up (q_up (q_up I 34 0 (-1)) 34 1 (0)) 34 2 (0)) 34 3 (0)), L, tb (((34, 7), 38) :: ((34, 6), 37) :: ((34, 5), 36) :: ((34, 4), 35) :: M)) := by
  refine cm_start (o := 8) (by decide +kernel) (by decide +kernel) rfl (by decide +kernel) ?_
  intro p l e s m args below meth c A av ca D C hret hlk
  simp only [q_en, List.replicate]
  refine n_s (pc2 := 1) C dn_8_0 rfl ?_
  refine n_obj C dn_8_1 ho_8_3 (by decide) (by decide) ?_
  refine n_s (pc2 := 5) C dn_8_4 rfl ?_
  refine n_s (pc2 := 6) C dn_8_5 rfl ?_
  refine g_pfI (a := (-1)) C dn_8_6 f_8_9 rfl rfl rfl ?_
  refine n_s (pc2 := 10) C dn_8_9 rfl ?_
  refine n_s (pc2 := 11) C dn_8_10 rfl ?_
  refine g_pfI (a := (0)) C dn_8_11 f_8_15 rfl rfl rfl ?_
  refine n_s (pc2 := 15) C dn_8_14 rfl ?_
  refine n_s (pc2 := 16) C dn_8_15 rfl ?_
  refine g_pfI (a := (0)) C dn_8_16 f_8_18 rfl rfl rfl ?_
  refine n_s (pc2 := 20) C dn_8_19 rfl ?_
  refine n_s (pc2 := 21) C dn_8_20 rfl ?_
  refine g_pfZ (a := 0) C dn_8_21 f_8_21 rfl rfl rfl (by decide) ?_
  refine n_s (pc2 := 25) C dn_8_24 rfl ?_
  refine n_s (pc2 := 27) C dn_8_25 rfl ?_
  refine g_newa (kd := 100) (N := 60) (i := 35) (sh2 := (gX.take 36)) C dn_8_27 q_arrI (Or.inl ⟨rfl, rfl⟩) (by decide +kernel) (by decide +kernel) (by decide +kernel) rfl rfl (by decide) rfl rfl (Nat.le_of_ble_eq_true rfl) (Nat.le_of_ble_eq_true rfl) (fun av ca => ?_)
  refine g_putF C dn_8_29 f_8_25 rfl rfl (by decide) rfl rfl (Or.inr ⟨_, rfl⟩) (Nat.le_of_ble_eq_true rfl) (Nat.le_of_ble_eq_true rfl) ?_
  refine n_s (pc2 := 33) C dn_8_32 rfl ?_
  refine n_s (pc2 := 35) C dn_8_33 rfl ?_
  refine g_newa (kd := 100) (N := 60) (i := 36) (sh2 := (gX.take 37)) C dn_8_35 q_arrI (Or.inl ⟨rfl, rfl⟩) (by decide +kernel) (by decide +kernel) (by decide +kernel) rfl rfl (by decide) rfl rfl (Nat.le_of_ble_eq_true rfl) (Nat.le_of_ble_eq_true rfl) (fun av ca => ?_)
  refine g_putF C dn_8_37 f_8_29 rfl rfl (by decide) rfl rfl (Or.inr ⟨_, rfl⟩) (Nat.le_of_ble_eq_true rfl) (Nat.le_of_ble_eq_true rfl) ?_
  refine n_s (pc2 := 41) C dn_8_40 rfl ?_
  refine n_s (pc2 := 43) C dn_8_41 rfl ?_
  refine g_newa (kd := 100) (N := 60) (i := 37) (sh2 := (gX.take 38)) C dn_8_43 q_arrI (Or.inl ⟨rfl, rfl⟩) (by decide +kernel) (by decide +kernel) (by decide +kernel) rfl rfl (by decide) rfl rfl (Nat.le_of_ble_eq_true rfl) (Nat.le_of_ble_eq_true rfl) (fun av ca => ?_)
  refine g_putF C dn_8_45 f_8_32 rfl rfl (by decide) rfl rfl (Or.inr ⟨_, rfl⟩) (Nat.le_of_ble_eq_true rfl) (Nat.le_of_ble_eq_true rfl) ?_
  refine n_s (pc2 := 49) C dn_8_48 rfl ?_
  refine n_s (pc2 := 51) C dn_8_49 rfl ?_
  refine g_newa (kd := 100) (N := 60) (i := 38) (sh2 := (gX.take 39)) C dn_8_51 q_arrI (Or.inl ⟨rfl, rfl⟩) (by decide +kernel) (by decide +kernel) (by decide +kernel) rfl rfl (by decide) rfl rfl (Nat.le_of_ble_eq_true rfl) (Nat.le_of_ble_eq_true rfl) (fun av ca => ?_)
  refine g_putF C dn_8_53 f_8_35 rfl rfl (by decide) rfl rfl (Or.inr ⟨_, rfl⟩) (Nat.le_of_ble_eq_true rfl) (Nat.le_of_ble_eq_true rfl) ?_
  exact n_ret C hret hlk dn_8_56
set_option maxRecDepth 100000 in
set_option maxHeartbeats 4000000 in
theorem ci_8_40 {I : Nat → Nat → Int} {L : Nat → Nat → Int64} {M : List ((Nat × Nat) × Nat)} : CM (⟨"StraightTax$Walk", "<init>", "()V"⟩ : MethodName) prog_10_method_1_code 1 0 4 240 (gX.take 40) [.ref 39] (I, L, tb M) (gX.take 44) ((q_up (q_up (q_up (q_up I 39 0 (-1)) 39 1 (0)) 39 2 (0)) 39 3 (0)), L, tb (((39, 7), 43) :: ((39, 6), 42) :: ((39, 5), 41) :: ((39, 4), 40) :: M)) := by
  refine cm_start (o := 8) (by decide +kernel) (by decide +kernel) rfl (by decide +kernel) ?_
  intro p l e s m args below meth c A av ca D C hret hlk
  simp only [q_en, List.replicate]
  refine n_s (pc2 := 1) C dn_8_0 rfl ?_
  refine n_obj C dn_8_1 ho_8_3 (by decide) (by decide) ?_
  refine n_s (pc2 := 5) C dn_8_4 rfl ?_
  refine n_s (pc2 := 6) C dn_8_5 rfl ?_
  refine g_pfI (a := (-1)) C dn_8_6 f_8_9 rfl rfl rfl ?_
  refine n_s (pc2 := 10) C dn_8_9 rfl ?_
  refine n_s (pc2 := 11) C dn_8_10 rfl ?_
  refine g_pfI (a := (0)) C dn_8_11 f_8_15 rfl rfl rfl ?_
  refine n_s (pc2 := 15) C dn_8_14 rfl ?_
  refine n_s (pc2 := 16) C dn_8_15 rfl ?_
  refine g_pfI (a := (0)) C dn_8_16 f_8_18 rfl rfl rfl ?_
  refine n_s (pc2 := 20) C dn_8_19 rfl ?_
  refine n_s (pc2 := 21) C dn_8_20 rfl ?_
  refine g_pfZ (a := 0) C dn_8_21 f_8_21 rfl rfl rfl (by decide) ?_
  refine n_s (pc2 := 25) C dn_8_24 rfl ?_
  refine n_s (pc2 := 27) C dn_8_25 rfl ?_
  refine g_newa (kd := 100) (N := 60) (i := 40) (sh2 := (gX.take 41)) C dn_8_27 q_arrI (Or.inl ⟨rfl, rfl⟩) (by decide +kernel) (by decide +kernel) (by decide +kernel) rfl rfl (by decide) rfl rfl (Nat.le_of_ble_eq_true rfl) (Nat.le_of_ble_eq_true rfl) (fun av ca => ?_)
  refine g_putF C dn_8_29 f_8_25 rfl rfl (by decide) rfl rfl (Or.inr ⟨_, rfl⟩) (Nat.le_of_ble_eq_true rfl) (Nat.le_of_ble_eq_true rfl) ?_
  refine n_s (pc2 := 33) C dn_8_32 rfl ?_
  refine n_s (pc2 := 35) C dn_8_33 rfl ?_
  refine g_newa (kd := 100) (N := 60) (i := 41) (sh2 := (gX.take 42)) C dn_8_35 q_arrI (Or.inl ⟨rfl, rfl⟩) (by decide +kernel) (by decide +kernel) (by decide +kernel) rfl rfl (by decide) rfl rfl (Nat.le_of_ble_eq_true rfl) (Nat.le_of_ble_eq_true rfl) (fun av ca => ?_)
  refine g_putF C dn_8_37 f_8_29 rfl rfl (by decide) rfl rfl (Or.inr ⟨_, rfl⟩) (Nat.le_of_ble_eq_true rfl) (Nat.le_of_ble_eq_true rfl) ?_
  refine n_s (pc2 := 41) C dn_8_40 rfl ?_
  refine n_s (pc2 := 43) C dn_8_41 rfl ?_
  refine g_newa (kd := 100) (N := 60) (i := 42) (sh2 := (gX.take 43)) C dn_8_43 q_arrI (Or.inl ⟨rfl, rfl⟩) (by decide +kernel) (by decide +kernel) (by decide +kernel) rfl rfl (by decide) rfl rfl (Nat.le_of_ble_eq_true rfl) (Nat.le_of_ble_eq_true rfl) (fun av ca => ?_)
  refine g_putF C dn_8_45 f_8_32 rfl rfl (by decide) rfl rfl (Or.inr ⟨_, rfl⟩) (Nat.le_of_ble_eq_true rfl) (Nat.le_of_ble_eq_true rfl) ?_
  refine n_s (pc2 := 49) C dn_8_48 rfl ?_
  refine n_s (pc2 := 51) C dn_8_49 rfl ?_
  refine g_newa (kd := 100) (N := 60) (i := 43) (sh2 := (gX.take 44)) C dn_8_51 q_arrI (Or.inl ⟨rfl, rfl⟩) (by decide +kernel) (by decide +kernel) (by decide +kernel) rfl rfl (by decide) rfl rfl (Nat.le_of_ble_eq_true rfl) (Nat.le_of_ble_eq_true rfl) (fun av ca => ?_)
  refine g_putF C dn_8_53 f_8_35 rfl rfl (by decide) rfl rfl (Or.inr ⟨_, rfl⟩) (Nat.le_of_ble_eq_true rfl) (Nat.le_of_ble_eq_true rfl) ?_
  exact n_ret C hret hlk dn_8_56
theorem ho_9_1 : Cond.methodLink (q_cn 9) 1 objectInit ∈ q_tbl := q_wi_in (by decide +kernel)
set_option maxRecDepth 100000 in
set_option maxHeartbeats 4000000 in
theorem ci_9_45 {I : Nat → Nat → Int} {L : Nat → Nat → Int64} {M : List ((Nat × Nat) × Nat)} : CM (⟨"StraightTax$Walker", "<init>", "()V"⟩ : MethodName) prog_11_method_1_code 1 0 0 0 (gX.take 45) [.ref 44] (I, L, tb M) (gX.take 45) (I, L, tb (M)) := by
  refine cm_start (o := 9) (by decide +kernel) (by decide +kernel) rfl (by decide +kernel) ?_
  intro p l e s m args below meth c A av ca D C hret hlk
  simp only [q_en, List.replicate]
  refine n_s (pc2 := 1) C dn_9_0 rfl ?_
  refine n_obj C dn_9_1 ho_9_1 (by decide) (by decide) ?_
  exact n_ret C hret hlk dn_9_4
theorem hx_11_65 : Cond.methodLinkNest (q_cn 11) 65 (⟨"StraightTax$Walker", "<init>", "()V"⟩ : MethodName) "StraightTax" ∈ qnestC := by decide +kernel
theorem hk_11_66 : Cond.classLink (q_cn 11) 66 "StraightTax$Drover" ∈ q_tbl := q_wi_in (by decide +kernel)
set_option maxRecDepth 100000 in
set_option maxHeartbeats 4000000 in
theorem ci_9_46 {I : Nat → Nat → Int} {L : Nat → Nat → Int64} {M : List ((Nat × Nat) × Nat)} : CM (⟨"StraightTax$Walker", "<init>", "()V"⟩ : MethodName) prog_11_method_1_code 1 0 0 0 (gX.take 46) [.ref 45] (I, L, tb M) (gX.take 46) (I, L, tb (M)) := by
  refine cm_start (o := 9) (by decide +kernel) (by decide +kernel) rfl (by decide +kernel) ?_
  intro p l e s m args below meth c A av ca D C hret hlk
  simp only [q_en, List.replicate]
  refine n_s (pc2 := 1) C dn_9_0 rfl ?_
  refine n_obj C dn_9_1 ho_9_1 (by decide) (by decide) ?_
  exact n_ret C hret hlk dn_9_4
theorem hx_3_1 : Cond.methodLinkNest (q_cn 3) 1 (⟨"StraightTax$Walker", "<init>", "()V"⟩ : MethodName) "StraightTax" ∈ qnestC := by decide +kernel
set_option maxRecDepth 100000 in
set_option maxHeartbeats 4000000 in
theorem ci_3_46 {I : Nat → Nat → Int} {L : Nat → Nat → Int64} {M : List ((Nat × Nat) × Nat)} : CM (⟨"StraightTax$Drover", "<init>", "()V"⟩ : MethodName) prog_5_method_1_code 1 1 0 0 (gX.take 46) [.ref 45] (I, L, tb M) (gX.take 46) (I, L, tb (M)) := by
  refine cm_start (o := 3) (by decide +kernel) (by decide +kernel) rfl (by decide +kernel) ?_
  intro p l e s m args below meth c A av ca D C hret hlk
  simp only [q_en, List.replicate]
  refine n_s (pc2 := 1) C dn_3_0 rfl ?_
  refine n_init (As := []) C dn_3_1 (Or.inr hx_3_1) hc_9 hi_9 hm_9 rfl ⟨by decide +kernel, by decide +kernel⟩ (np := 0) (by decide +kernel) rfl ci_9_46 (Nat.le_of_ble_eq_true rfl) (Nat.le_of_ble_eq_true rfl) (by decide) (by decide) (Nat.le_of_ble_eq_true rfl) (Nat.le_of_ble_eq_true rfl) (Nat.le_of_ble_eq_true rfl) rfl rfl rfl (fun av ca => ?_)
  exact n_ret C hret hlk dn_3_4
theorem hx_11_68 : Cond.methodLinkNest (q_cn 11) 68 (⟨"StraightTax$Drover", "<init>", "()V"⟩ : MethodName) "StraightTax" ∈ qnestC := by decide +kernel
theorem hk_11_69 : Cond.classLink (q_cn 11) 69 "StraightTax$Courtier" ∈ q_tbl := q_wi_in (by decide +kernel)
set_option maxRecDepth 100000 in
set_option maxHeartbeats 4000000 in
theorem ci_9_47 {I : Nat → Nat → Int} {L : Nat → Nat → Int64} {M : List ((Nat × Nat) × Nat)} : CM (⟨"StraightTax$Walker", "<init>", "()V"⟩ : MethodName) prog_11_method_1_code 1 0 0 0 (gX.take 47) [.ref 46] (I, L, tb M) (gX.take 47) (I, L, tb (M)) := by
  refine cm_start (o := 9) (by decide +kernel) (by decide +kernel) rfl (by decide +kernel) ?_
  intro p l e s m args below meth c A av ca D C hret hlk
  simp only [q_en, List.replicate]
  refine n_s (pc2 := 1) C dn_9_0 rfl ?_
  refine n_obj C dn_9_1 ho_9_1 (by decide) (by decide) ?_
  exact n_ret C hret hlk dn_9_4
theorem hx_1_1 : Cond.methodLinkNest (q_cn 1) 1 (⟨"StraightTax$Walker", "<init>", "()V"⟩ : MethodName) "StraightTax" ∈ qnestC := by decide +kernel
set_option maxRecDepth 100000 in
set_option maxHeartbeats 4000000 in
theorem ci_1_47 {I : Nat → Nat → Int} {L : Nat → Nat → Int64} {M : List ((Nat × Nat) × Nat)} : CM (⟨"StraightTax$Courtier", "<init>", "()V"⟩ : MethodName) prog_3_method_1_code 1 1 0 0 (gX.take 47) [.ref 46] (I, L, tb M) (gX.take 47) (I, L, tb (M)) := by
  refine cm_start (o := 1) (by decide +kernel) (by decide +kernel) rfl (by decide +kernel) ?_
  intro p l e s m args below meth c A av ca D C hret hlk
  simp only [q_en, List.replicate]
  refine n_s (pc2 := 1) C dn_1_0 rfl ?_
  refine n_init (As := []) C dn_1_1 (Or.inr hx_1_1) hc_9 hi_9 hm_9 rfl ⟨by decide +kernel, by decide +kernel⟩ (np := 0) (by decide +kernel) rfl ci_9_47 (Nat.le_of_ble_eq_true rfl) (Nat.le_of_ble_eq_true rfl) (by decide) (by decide) (Nat.le_of_ble_eq_true rfl) (Nat.le_of_ble_eq_true rfl) (Nat.le_of_ble_eq_true rfl) rfl rfl rfl (fun av ca => ?_)
  exact n_ret C hret hlk dn_1_4
theorem hx_11_71 : Cond.methodLinkNest (q_cn 11) 71 (⟨"StraightTax$Courtier", "<init>", "()V"⟩ : MethodName) "StraightTax" ∈ qnestC := by decide +kernel
theorem hk_11_72 : Cond.classLink (q_cn 11) 72 "StraightTax$Dancer" ∈ q_tbl := q_wi_in (by decide +kernel)
set_option maxRecDepth 100000 in
set_option maxHeartbeats 4000000 in
theorem ci_9_48 {I : Nat → Nat → Int} {L : Nat → Nat → Int64} {M : List ((Nat × Nat) × Nat)} : CM (⟨"StraightTax$Walker", "<init>", "()V"⟩ : MethodName) prog_11_method_1_code 1 0 0 0 (gX.take 48) [.ref 47] (I, L, tb M) (gX.take 48) (I, L, tb (M)) := by
  refine cm_start (o := 9) (by decide +kernel) (by decide +kernel) rfl (by decide +kernel) ?_
  intro p l e s m args below meth c A av ca D C hret hlk
  simp only [q_en, List.replicate]
  refine n_s (pc2 := 1) C dn_9_0 rfl ?_
  refine n_obj C dn_9_1 ho_9_1 (by decide) (by decide) ?_
  exact n_ret C hret hlk dn_9_4
set_option maxRecDepth 100000 in
set_option maxHeartbeats 4000000 in
theorem ci_3_48 {I : Nat → Nat → Int} {L : Nat → Nat → Int64} {M : List ((Nat × Nat) × Nat)} : CM (⟨"StraightTax$Drover", "<init>", "()V"⟩ : MethodName) prog_5_method_1_code 1 1 0 0 (gX.take 48) [.ref 47] (I, L, tb M) (gX.take 48) (I, L, tb (M)) := by
  refine cm_start (o := 3) (by decide +kernel) (by decide +kernel) rfl (by decide +kernel) ?_
  intro p l e s m args below meth c A av ca D C hret hlk
  simp only [q_en, List.replicate]
  refine n_s (pc2 := 1) C dn_3_0 rfl ?_
  refine n_init (As := []) C dn_3_1 (Or.inr hx_3_1) hc_9 hi_9 hm_9 rfl ⟨by decide +kernel, by decide +kernel⟩ (np := 0) (by decide +kernel) rfl ci_9_48 (Nat.le_of_ble_eq_true rfl) (Nat.le_of_ble_eq_true rfl) (by decide) (by decide) (Nat.le_of_ble_eq_true rfl) (Nat.le_of_ble_eq_true rfl) (Nat.le_of_ble_eq_true rfl) rfl rfl rfl (fun av ca => ?_)
  exact n_ret C hret hlk dn_3_4
theorem hx_2_1 : Cond.methodLinkNest (q_cn 2) 1 (⟨"StraightTax$Drover", "<init>", "()V"⟩ : MethodName) "StraightTax" ∈ qnestC := by decide +kernel
set_option maxRecDepth 100000 in
set_option maxHeartbeats 4000000 in
theorem ci_2_48 {I : Nat → Nat → Int} {L : Nat → Nat → Int64} {M : List ((Nat × Nat) × Nat)} : CM (⟨"StraightTax$Dancer", "<init>", "()V"⟩ : MethodName) prog_4_method_1_code 1 2 0 0 (gX.take 48) [.ref 47] (I, L, tb M) (gX.take 48) (I, L, tb (M)) := by
  refine cm_start (o := 2) (by decide +kernel) (by decide +kernel) rfl (by decide +kernel) ?_
  intro p l e s m args below meth c A av ca D C hret hlk
  simp only [q_en, List.replicate]
  refine n_s (pc2 := 1) C dn_2_0 rfl ?_
  refine n_init (As := []) C dn_2_1 (Or.inr hx_2_1) hc_3 hi_3 hm_3 rfl ⟨by decide +kernel, by decide +kernel⟩ (np := 0) (by decide +kernel) rfl ci_3_48 (Nat.le_of_ble_eq_true rfl) (Nat.le_of_ble_eq_true rfl) (by decide) (by decide) (Nat.le_of_ble_eq_true rfl) (Nat.le_of_ble_eq_true rfl) (Nat.le_of_ble_eq_true rfl) rfl rfl rfl (fun av ca => ?_)
  exact n_ret C hret hlk dn_2_4
theorem hx_11_74 : Cond.methodLinkNest (q_cn 11) 74 (⟨"StraightTax$Dancer", "<init>", "()V"⟩ : MethodName) "StraightTax" ∈ qnestC := by decide +kernel
theorem hk_11_75 : Cond.classLink (q_cn 11) 75 "StraightTax$Lawyer" ∈ q_tbl := q_wi_in (by decide +kernel)
set_option maxRecDepth 100000 in
set_option maxHeartbeats 4000000 in
theorem ci_9_49 {I : Nat → Nat → Int} {L : Nat → Nat → Int64} {M : List ((Nat × Nat) × Nat)} : CM (⟨"StraightTax$Walker", "<init>", "()V"⟩ : MethodName) prog_11_method_1_code 1 0 0 0 (gX.take 49) [.ref 48] (I, L, tb M) (gX.take 49) (I, L, tb (M)) := by
  refine cm_start (o := 9) (by decide +kernel) (by decide +kernel) rfl (by decide +kernel) ?_
  intro p l e s m args below meth c A av ca D C hret hlk
  simp only [q_en, List.replicate]
  refine n_s (pc2 := 1) C dn_9_0 rfl ?_
  refine n_obj C dn_9_1 ho_9_1 (by decide) (by decide) ?_
  exact n_ret C hret hlk dn_9_4
set_option maxRecDepth 100000 in
set_option maxHeartbeats 4000000 in
theorem ci_1_49 {I : Nat → Nat → Int} {L : Nat → Nat → Int64} {M : List ((Nat × Nat) × Nat)} : CM (⟨"StraightTax$Courtier", "<init>", "()V"⟩ : MethodName) prog_3_method_1_code 1 1 0 0 (gX.take 49) [.ref 48] (I, L, tb M) (gX.take 49) (I, L, tb (M)) := by
  refine cm_start (o := 1) (by decide +kernel) (by decide +kernel) rfl (by decide +kernel) ?_
  intro p l e s m args below meth c A av ca D C hret hlk
  simp only [q_en, List.replicate]
  refine n_s (pc2 := 1) C dn_1_0 rfl ?_
  refine n_init (As := []) C dn_1_1 (Or.inr hx_1_1) hc_9 hi_9 hm_9 rfl ⟨by decide +kernel, by decide +kernel⟩ (np := 0) (by decide +kernel) rfl ci_9_49 (Nat.le_of_ble_eq_true rfl) (Nat.le_of_ble_eq_true rfl) (by decide) (by decide) (Nat.le_of_ble_eq_true rfl) (Nat.le_of_ble_eq_true rfl) (Nat.le_of_ble_eq_true rfl) rfl rfl rfl (fun av ca => ?_)
  exact n_ret C hret hlk dn_1_4
theorem hx_5_1 : Cond.methodLinkNest (q_cn 5) 1 (⟨"StraightTax$Courtier", "<init>", "()V"⟩ : MethodName) "StraightTax" ∈ qnestC := by decide +kernel
set_option maxRecDepth 100000 in
set_option maxHeartbeats 4000000 in
theorem ci_5_49 {I : Nat → Nat → Int} {L : Nat → Nat → Int64} {M : List ((Nat × Nat) × Nat)} : CM (⟨"StraightTax$Lawyer", "<init>", "()V"⟩ : MethodName) prog_7_method_1_code 1 2 0 0 (gX.take 49) [.ref 48] (I, L, tb M) (gX.take 49) (I, L, tb (M)) := by
  refine cm_start (o := 5) (by decide +kernel) (by decide +kernel) rfl (by decide +kernel) ?_
  intro p l e s m args below meth c A av ca D C hret hlk
  simp only [q_en, List.replicate]
  refine n_s (pc2 := 1) C dn_5_0 rfl ?_
  refine n_init (As := []) C dn_5_1 (Or.inr hx_5_1) hc_1 hi_1 hm_1 rfl ⟨by decide +kernel, by decide +kernel⟩ (np := 0) (by decide +kernel) rfl ci_1_49 (Nat.le_of_ble_eq_true rfl) (Nat.le_of_ble_eq_true rfl) (by decide) (by decide) (Nat.le_of_ble_eq_true rfl) (Nat.le_of_ble_eq_true rfl) (Nat.le_of_ble_eq_true rfl) rfl rfl rfl (fun av ca => ?_)
  exact n_ret C hret hlk dn_5_4
theorem hx_11_77 : Cond.methodLinkNest (q_cn 11) 77 (⟨"StraightTax$Lawyer", "<init>", "()V"⟩ : MethodName) "StraightTax" ∈ qnestC := by decide +kernel
theorem hk_11_78 : Cond.classLink (q_cn 11) 78 "StraightTax$Beggar" ∈ q_tbl := q_wi_in (by decide +kernel)
set_option maxRecDepth 100000 in
set_option maxHeartbeats 4000000 in
theorem ci_9_50 {I : Nat → Nat → Int} {L : Nat → Nat → Int64} {M : List ((Nat × Nat) × Nat)} : CM (⟨"StraightTax$Walker", "<init>", "()V"⟩ : MethodName) prog_11_method_1_code 1 0 0 0 (gX.take 50) [.ref 49] (I, L, tb M) (gX.take 50) (I, L, tb (M)) := by
  refine cm_start (o := 9) (by decide +kernel) (by decide +kernel) rfl (by decide +kernel) ?_
  intro p l e s m args below meth c A av ca D C hret hlk
  simp only [q_en, List.replicate]
  refine n_s (pc2 := 1) C dn_9_0 rfl ?_
  refine n_obj C dn_9_1 ho_9_1 (by decide) (by decide) ?_
  exact n_ret C hret hlk dn_9_4
theorem hx_0_1 : Cond.methodLinkNest (q_cn 0) 1 (⟨"StraightTax$Walker", "<init>", "()V"⟩ : MethodName) "StraightTax" ∈ qnestC := by decide +kernel
set_option maxRecDepth 100000 in
set_option maxHeartbeats 4000000 in
theorem ci_0_50 {I : Nat → Nat → Int} {L : Nat → Nat → Int64} {M : List ((Nat × Nat) × Nat)} : CM (⟨"StraightTax$Beggar", "<init>", "()V"⟩ : MethodName) prog_2_method_1_code 1 1 0 0 (gX.take 50) [.ref 49] (I, L, tb M) (gX.take 50) (I, L, tb (M)) := by
  refine cm_start (o := 0) (by decide +kernel) (by decide +kernel) rfl (by decide +kernel) ?_
  intro p l e s m args below meth c A av ca D C hret hlk
  simp only [q_en, List.replicate]
  refine n_s (pc2 := 1) C dn_0_0 rfl ?_
  refine n_init (As := []) C dn_0_1 (Or.inr hx_0_1) hc_9 hi_9 hm_9 rfl ⟨by decide +kernel, by decide +kernel⟩ (np := 0) (by decide +kernel) rfl ci_9_50 (Nat.le_of_ble_eq_true rfl) (Nat.le_of_ble_eq_true rfl) (by decide) (by decide) (Nat.le_of_ble_eq_true rfl) (Nat.le_of_ble_eq_true rfl) (Nat.le_of_ble_eq_true rfl) rfl rfl rfl (fun av ca => ?_)
  exact n_ret C hret hlk dn_0_4
theorem hx_11_80 : Cond.methodLinkNest (q_cn 11) 80 (⟨"StraightTax$Beggar", "<init>", "()V"⟩ : MethodName) "StraightTax" ∈ qnestC := by decide +kernel
set_option maxRecDepth 100000 in
set_option maxHeartbeats 4000000 in
theorem ci_11_1 {I : Nat → Nat → Int} {L : Nat → Nat → Int64} {M : List ((Nat × Nat) × Nat)} : CM (⟨"StraightTax", "<init>", "()V"⟩ : MethodName) prog_1_method_1_code 2 6 49 2053 (gX.take 1) [.ref 0] (I, L, tb M) (gX.take 50) ((q_up (q_up (q_up (q_up (q_up (q_up (q_up (q_up (jn T00 (bgn (jn T00 (bgn (q_up (q_up (jn T00 (bgn (q_up (q_up (q_up (q_up (q_up (q_up I 1 0 (0)) 3 0 (-1)) 3 1 (0)) 3 2 (0)) 3 3 (0)) 10 0 (0)) 17) 17 ((tN T00).toNat * 4)) 16 1 (0)) 16 2 (0)) 28) 28 ((tN T00).toNat * 4)) 31) 31 ((tN T00).toNat * 4)) 34 0 (-1)) 34 1 (0)) 34 2 (0)) 34 3 (0)) 39 0 (-1)) 39 1 (0)) 39 2 (0)) 39 3 (0)), (q_up L 0 9 (Int64.ofNat 0)), tb (((15, 5), 49) :: ((15, 4), 48) :: ((15, 3), 47) :: ((15, 2), 46) :: ((15, 1), 45) :: ((15, 0), 44) :: ((8, 1), 39) :: ((39, 7), 43) :: ((39, 6), 42) :: ((39, 5), 41) :: ((39, 4), 40) :: ((8, 0), 34) :: ((34, 7), 38) :: ((34, 6), 37) :: ((34, 5), 36) :: ((34, 4), 35) :: ((0, 8), 31) :: ((31, 8), 33) :: ((31, 7), 32) :: ((0, 7), 28) :: ((28, 8), 30) :: ((28, 7), 29) :: ((0, 6), 16) :: ((16, 10), 27) :: ((16, 9), 26) :: ((16, 8), 25) :: ((16, 7), 24) :: ((16, 6), 23) :: ((16, 5), 22) :: ((16, 4), 21) :: ((16, 3), 20) :: ((16, 0), 17) :: ((17, 8), 19) :: ((17, 7), 18) :: ((0, 5), 15) :: ((0, 4), 10) :: ((10, 4), 14) :: ((10, 3), 13) :: ((10, 2), 12) :: ((10, 1), 11) :: ((0, 3), 9) :: ((0, 2), 8) :: ((0, 1), 3) :: ((3, 7), 7) :: ((3, 6), 6) :: ((3, 5), 5) :: ((3, 4), 4) :: ((0, 0), 1) :: ((1, 1), 2) :: M)) := by
  refine cm_start (o := 11) (by decide +kernel) (by decide +kernel) rfl (by decide +kernel) ?_
  intro p l e s m args below meth c A av ca D C hret hlk
  simp only [q_en, List.replicate]
  refine n_s (pc2 := 1) C dn_11_0 rfl ?_
  refine n_obj C dn_11_1 ho_11_3 (by decide) (by decide) ?_
  refine n_s (pc2 := 5) C dn_11_4 rfl ?_
  refine g_new (ci := 6) (i := 1) (sh2 := (gX.take 2)) C dn_11_5 rfl hk_11_9 hz_6 hi_6 rfl rfl (by decide) rfl rfl (Nat.le_of_ble_eq_true rfl) (Nat.le_of_ble_eq_true rfl) (fun av => ?_)
  refine n_s (pc2 := 9) C dn_11_8 rfl ?_
  refine n_init (As := []) C dn_11_9 (Or.inr hx_11_11) hc_6 hi_6 hm_6 rfl ⟨by decide +kernel, by decide +kernel⟩ (np := 0) (by decide +kernel) rfl ci_6_2 (Nat.le_of_ble_eq_true rfl) (Nat.le_of_ble_eq_true rfl) (by decide) (by decide) (Nat.le_of_ble_eq_true rfl) (Nat.le_of_ble_eq_true rfl) (Nat.le_of_ble_eq_true rfl) rfl rfl rfl (fun av ca => ?_)
  refine g_putF C dn_11_12 f_11_12 rfl rfl (by decide) rfl rfl (Or.inl ⟨_, rfl⟩) (Nat.le_of_ble_eq_true rfl) (Nat.le_of_ble_eq_true rfl) ?_
  refine n_s (pc2 := 16) C dn_11_15 rfl ?_
  refine g_new (ci := 8) (i := 3) (sh2 := (gX.take 4)) C dn_11_16 rfl hk_11_16 hz_8 hi_8 rfl rfl (by decide) rfl rfl (Nat.le_of_ble_eq_true rfl) (Nat.le_of_ble_eq_true rfl) (fun av => ?_)
  refine n_s (pc2 := 20) C dn_11_19 rfl ?_
  refine n_init (As := []) C dn_11_20 (Or.inr hx_11_18) hc_8 hi_8 hm_8 rfl ⟨by decide +kernel, by decide +kernel⟩ (np := 0) (by decide +kernel) rfl ci_8_4 (Nat.le_of_ble_eq_true rfl) (Nat.le_of_ble_eq_true rfl) (by decide) (by decide) (Nat.le_of_ble_eq_true rfl) (Nat.le_of_ble_eq_true rfl) (Nat.le_of_ble_eq_true rfl) rfl rfl rfl (fun av ca => ?_)
  refine g_putF C dn_11_23 f_11_19 rfl rfl (by decide) rfl rfl (Or.inl ⟨_, rfl⟩) (Nat.le_of_ble_eq_true rfl) (Nat.le_of_ble_eq_true rfl) ?_
  refine n_s (pc2 := 27) C dn_11_26 rfl ?_
  refine n_s (pc2 := 28) C dn_11_27 rfl ?_
  refine g_newq (kd := 103) (N := 2) (i := 8) (sh2 := (gX.take 9)) C dn_11_28 hk_11_16 C.2.2.2.2.2.2.2.2.2.2.1 (Or.inl ⟨rfl, rfl⟩) (by decide +kernel) (by decide +kernel) (by decide +kernel) rfl rfl (by decide) rfl rfl (Nat.le_of_ble_eq_true rfl) (Nat.le_of_ble_eq_true rfl) (fun av ca => ?_)
  refine g_putF C dn_11_31 f_11_23 rfl rfl (by decide) rfl rfl (Or.inr ⟨_, rfl⟩) (Nat.le_of_ble_eq_true rfl) (Nat.le_of_ble_eq_true rfl) ?_
  refine n_s (pc2 := 35) C dn_11_34 rfl ?_
  refine n_s (pc2 := 36) C dn_11_35 rfl ?_
  refine g_newa (kd := 102) (N := 2) (i := 9) (sh2 := (gX.take 10)) C dn_11_36 q_arrZ (Or.inr (Or.inr ⟨rfl, rfl⟩)) (by decide +kernel) (by decide +kernel) (by decide +kernel) rfl rfl (by decide) rfl rfl (Nat.le_of_ble_eq_true rfl) (Nat.le_of_ble_eq_true rfl) (fun av ca => ?_)
  refine g_putF C dn_11_38 f_11_27 rfl rfl (by decide) rfl rfl (Or.inr ⟨_, rfl⟩) (Nat.le_of_ble_eq_true rfl) (Nat.le_of_ble_eq_true rfl) ?_
  refine n_s (pc2 := 42) C dn_11_41 rfl ?_
  refine g_new (ci := 4) (i := 10) (sh2 := (gX.take 11)) C dn_11_42 rfl hk_11_31 hz_4 hi_4 rfl rfl (by decide) rfl rfl (Nat.le_of_ble_eq_true rfl) (Nat.le_of_ble_eq_true rfl) (fun av => ?_)
  refine n_s (pc2 := 46) C dn_11_45 rfl ?_
  refine n_init (As := []) C dn_11_46 (Or.inr hx_11_33) hc_4 hi_4 hm_4 rfl ⟨by decide +kernel, by decide +kernel⟩ (np := 0) (by decide +kernel) rfl ci_4_11 (Nat.le_of_ble_eq_true rfl) (Nat.le_of_ble_eq_true rfl) (by decide) (by decide) (Nat.le_of_ble_eq_true rfl) (Nat.le_of_ble_eq_true rfl) (Nat.le_of_ble_eq_true rfl) rfl rfl rfl (fun av ca => ?_)
  refine g_putF C dn_11_49 f_11_34 rfl rfl (by decide) rfl rfl (Or.inl ⟨_, rfl⟩) (Nat.le_of_ble_eq_true rfl) (Nat.le_of_ble_eq_true rfl) ?_
  refine n_s (pc2 := 53) C dn_11_52 rfl ?_
  refine n_s (pc2 := 55) C dn_11_53 rfl ?_
  refine g_newq (kd := 104) (N := 6) (i := 15) (sh2 := (gX.take 16)) C dn_11_55 hk_11_38 C.2.2.2.2.2.2.2.2.2.2.2.1 (Or.inr ⟨rfl, rfl⟩) (by decide +kernel) (by decide +kernel) (by decide +kernel) rfl rfl (by decide) rfl rfl (Nat.le_of_ble_eq_true rfl) (Nat.le_of_ble_eq_true rfl) (fun av ca => ?_)
  refine g_putF C dn_11_58 f_11_40 rfl rfl (by decide) rfl rfl (Or.inr ⟨_, rfl⟩) (Nat.le_of_ble_eq_true rfl) (Nat.le_of_ble_eq_true rfl) ?_
  refine n_s (pc2 := 62) C dn_11_61 rfl ?_
  refine g_new (ci := 10) (i := 16) (sh2 := (gX.take 17)) C dn_11_62 rfl hk_11_44 hz_10 hi_10 rfl rfl (by decide) rfl rfl (Nat.le_of_ble_eq_true rfl) (Nat.le_of_ble_eq_true rfl) (fun av => ?_)
  refine n_s (pc2 := 66) C dn_11_65 rfl ?_
  refine n_init (As := []) C dn_11_66 (Or.inr hx_11_46) hc_10 hi_10 hm_10 rfl ⟨by decide +kernel, by decide +kernel⟩ (np := 0) (by decide +kernel) rfl ci_10_17 (Nat.le_of_ble_eq_true rfl) (Nat.le_of_ble_eq_true rfl) (by decide) (by decide) (Nat.le_of_ble_eq_true rfl) (Nat.le_of_ble_eq_true rfl) (Nat.le_of_ble_eq_true rfl) rfl rfl rfl (fun av ca => ?_)
  refine g_putF C dn_11_69 f_11_47 rfl rfl (by decide) rfl rfl (Or.inl ⟨_, rfl⟩) (Nat.le_of_ble_eq_true rfl) (Nat.le_of_ble_eq_true rfl) ?_
  refine n_s (pc2 := 73) C dn_11_72 rfl ?_
  refine g_new (ci := 7) (i := 28) (sh2 := (gX.take 29)) C dn_11_73 rfl hk_11_51 hz_7 hi_7 rfl rfl (by decide) rfl rfl (Nat.le_of_ble_eq_true rfl) (Nat.le_of_ble_eq_true rfl) (fun av => ?_)
  refine n_s (pc2 := 77) C dn_11_76 rfl ?_
  refine n_init (As := []) C dn_11_77 (Or.inl hl_11_53) hc_7 hi_7 hm_7 rfl ⟨by decide +kernel, by decide +kernel⟩ (np := 0) (by decide +kernel) rfl ci_7_29 (Nat.le_of_ble_eq_true rfl) (Nat.le_of_ble_eq_true rfl) (by decide) (by decide) (Nat.le_of_ble_eq_true rfl) (Nat.le_of_ble_eq_true rfl) (Nat.le_of_ble_eq_true rfl) rfl rfl rfl (fun av ca => ?_)
  refine g_pfR C dn_11_80 f_11_54 rfl rfl rfl (Nat.le_of_ble_eq_true rfl) (by decide) ?_
  refine n_s (pc2 := 84) C dn_11_83 rfl ?_
  refine g_new (ci := 7) (i := 31) (sh2 := (gX.take 32)) C dn_11_84 rfl hk_11_51 hz_7 hi_7 rfl rfl (by decide) rfl rfl (Nat.le_of_ble_eq_true rfl) (Nat.le_of_ble_eq_true rfl) (fun av => ?_)
  refine n_s (pc2 := 88) C dn_11_87 rfl ?_
  refine n_init (As := []) C dn_11_88 (Or.inl hl_11_53) hc_7 hi_7 hm_7 rfl ⟨by decide +kernel, by decide +kernel⟩ (np := 0) (by decide +kernel) rfl ci_7_32 (Nat.le_of_ble_eq_true rfl) (Nat.le_of_ble_eq_true rfl) (by decide) (by decide) (Nat.le_of_ble_eq_true rfl) (Nat.le_of_ble_eq_true rfl) (Nat.le_of_ble_eq_true rfl) rfl rfl rfl (fun av ca => ?_)
  refine g_pfR C dn_11_91 f_11_58 rfl rfl rfl (Nat.le_of_ble_eq_true rfl) (by decide) ?_
  refine n_s (pc2 := 95) C dn_11_94 rfl ?_
  refine n_s (pc2 := 96) C dn_11_95 rfl ?_
  refine g_pfL C dn_11_96 f_11_61 rfl rfl rfl ?_
  refine n_s (pc2 := 100) C dn_11_99 rfl ?_
  refine n_s (pc2 := 101) C dn_11_100 rfl ?_
  dsimp only [q_st1, q_unl]
  refine n_s (pc2 := 102) C dn_11_101 rfl ?_
  refine n_s (pc2 := 103) C dn_11_102 rfl ?_
  refine g_ic (b := false) (t := 106) C dn_11_103 (by decide +kernel) (by decide) rfl ?_
  refine n_s (pc2 := 107) C dn_11_106 rfl ?_
  refine n_gfR (a := 8) C dn_11_107 f_11_23 rfl (by decide) rfl (Or.inr ⟨_, rfl⟩) rfl ?_
  refine n_s (pc2 := 111) C dn_11_110 rfl ?_
  refine g_new (ci := 8) (i := 34) (sh2 := (gX.take 35)) C dn_11_111 rfl hk_11_16 hz_8 hi_8 rfl rfl (by decide) rfl rfl (Nat.le_of_ble_eq_true rfl) (Nat.le_of_ble_eq_true rfl) (fun av => ?_)
  refine n_s (pc2 := 115) C dn_11_114 rfl ?_
  refine n_init (As := []) C dn_11_115 (Or.inr hx_11_18) hc_8 hi_8 hm_8 rfl ⟨by decide +kernel, by decide +kernel⟩ (np := 0) (by decide +kernel) rfl ci_8_35 (Nat.le_of_ble_eq_true rfl) (Nat.le_of_ble_eq_true rfl) (by decide) (by decide) (Nat.le_of_ble_eq_true rfl) (Nat.le_of_ble_eq_true rfl) (Nat.le_of_ble_eq_true rfl) rfl rfl rfl (fun av ca => ?_)
  refine g_aast (j := 0) C dn_11_118 rfl (Or.inl ⟨rfl, rfl⟩) rfl rfl (by decide) (by decide) (by decide) (Nat.le_of_ble_eq_true rfl) rfl ?_
  refine g_iinc C dn_11_119 rfl (by decide) ?_
  dsimp only [q_st1, q_unl]
  refine g_goto (t := 101) C dn_11_122 (by decide) rfl ?_
  refine n_s (pc2 := 102) C dn_11_101 rfl ?_
  refine n_s (pc2 := 103) C dn_11_102 rfl ?_
  refine g_ic (b := false) (t := 106) C dn_11_103 (by decide +kernel) (by decide) rfl ?_
  refine n_s (pc2 := 107) C dn_11_106 rfl ?_
  refine n_gfR (a := 8) C dn_11_107 f_11_23 rfl (by decide) rfl (Or.inr ⟨_, rfl⟩) rfl ?_
  refine n_s (pc2 := 111) C dn_11_110 rfl ?_
  refine g_new (ci := 8) (i := 39) (sh2 := (gX.take 40)) C dn_11_111 rfl hk_11_16 hz_8 hi_8 rfl rfl (by decide) rfl rfl (Nat.le_of_ble_eq_true rfl) (Nat.le_of_ble_eq_true rfl) (fun av => ?_)
  refine n_s (pc2 := 115) C dn_11_114 rfl ?_
  refine n_init (As := []) C dn_11_115 (Or.inr hx_11_18) hc_8 hi_8 hm_8 rfl ⟨by decide +kernel, by decide +kernel⟩ (np := 0) (by decide +kernel) rfl ci_8_40 (Nat.le_of_ble_eq_true rfl) (Nat.le_of_ble_eq_true rfl) (by decide) (by decide) (Nat.le_of_ble_eq_true rfl) (Nat.le_of_ble_eq_true rfl) (Nat.le_of_ble_eq_true rfl) rfl rfl rfl (fun av ca => ?_)
  refine g_aast (j := 1) C dn_11_118 rfl (Or.inl ⟨rfl, rfl⟩) rfl rfl (by decide) (by decide) (by decide) (Nat.le_of_ble_eq_true rfl) rfl ?_
  refine g_iinc C dn_11_119 rfl (by decide) ?_
  dsimp only [q_st1, q_unl]
  refine g_goto (t := 101) C dn_11_122 (by decide) rfl ?_
  refine n_s (pc2 := 102) C dn_11_101 rfl ?_
  refine n_s (pc2 := 103) C dn_11_102 rfl ?_
  refine g_ic (b := true) (t := 125) C dn_11_103 (by decide +kernel) (by decide) rfl ?_
  refine n_s (pc2 := 126) C dn_11_125 rfl ?_
  refine n_gfR (a := 15) C dn_11_126 f_11_40 rfl (by decide) rfl (Or.inr ⟨_, rfl⟩) rfl ?_
  refine n_s (pc2 := 130) C dn_11_129 rfl ?_
  refine g_new (ci := 9) (i := 44) (sh2 := (gX.take 45)) C dn_11_130 rfl hk_11_38 hz_9 hi_9 rfl rfl (by decide) rfl rfl (Nat.le_of_ble_eq_true rfl) (Nat.le_of_ble_eq_true rfl) (fun av => ?_)
  refine n_s (pc2 := 134) C dn_11_133 rfl ?_
  refine n_init (As := []) C dn_11_134 (Or.inr hx_11_65) hc_9 hi_9 hm_9 rfl ⟨by decide +kernel, by decide +kernel⟩ (np := 0) (by decide +kernel) rfl ci_9_45 (Nat.le_of_ble_eq_true rfl) (Nat.le_of_ble_eq_true rfl) (by decide) (by decide) (Nat.le_of_ble_eq_true rfl) (Nat.le_of_ble_eq_true rfl) (Nat.le_of_ble_eq_true rfl) rfl rfl rfl (fun av ca => ?_)
  refine g_aast (j := 0) C dn_11_137 rfl (Or.inr (Or.inl ⟨rfl, rfl⟩)) rfl rfl (by decide) (by decide) (by decide) (Nat.le_of_ble_eq_true rfl) rfl ?_
  refine n_s (pc2 := 139) C dn_11_138 rfl ?_
  refine n_gfR (a := 15) C dn_11_139 f_11_40 rfl (by decide) rfl (Or.inr ⟨_, rfl⟩) rfl ?_
  refine n_s (pc2 := 143) C dn_11_142 rfl ?_
  refine g_new (ci := 3) (i := 45) (sh2 := (gX.take 46)) C dn_11_143 rfl hk_11_66 hz_3 hi_3 rfl rfl (by decide) rfl rfl (Nat.le_of_ble_eq_true rfl) (Nat.le_of_ble_eq_true rfl) (fun av => ?_)
  refine n_s (pc2 := 147) C dn_11_146 rfl ?_
  refine n_init (As := []) C dn_11_147 (Or.inr hx_11_68) hc_3 hi_3 hm_3 rfl ⟨by decide +kernel, by decide +kernel⟩ (np := 0) (by decide +kernel) rfl ci_3_46 (Nat.le_of_ble_eq_true rfl) (Nat.le_of_ble_eq_true rfl) (by decide) (by decide) (Nat.le_of_ble_eq_true rfl) (Nat.le_of_ble_eq_true rfl) (Nat.le_of_ble_eq_true rfl) rfl rfl rfl (fun av ca => ?_)
  refine g_aast (j := 1) C dn_11_150 rfl (Or.inr (Or.inr ⟨rfl, C.2.2.2.2.2.2.2.2.2.2.2.2 _ (by decide +kernel)⟩)) rfl rfl (by decide) (by decide) (by decide) (Nat.le_of_ble_eq_true rfl) rfl ?_
  refine n_s (pc2 := 152) C dn_11_151 rfl ?_
  refine n_gfR (a := 15) C dn_11_152 f_11_40 rfl (by decide) rfl (Or.inr ⟨_, rfl⟩) rfl ?_
  refine n_s (pc2 := 156) C dn_11_155 rfl ?_
  refine g_new (ci := 1) (i := 46) (sh2 := (gX.take 47)) C dn_11_156 rfl hk_11_69 hz_1 hi_1 rfl rfl (by decide) rfl rfl (Nat.le_of_ble_eq_true rfl) (Nat.le_of_ble_eq_true rfl) (fun av => ?_)
  refine n_s (pc2 := 160) C dn_11_159 rfl ?_
  refine n_init (As := []) C dn_11_160 (Or.inr hx_11_71) hc_1 hi_1 hm_1 rfl ⟨by decide +kernel, by decide +kernel⟩ (np := 0) (by decide +kernel) rfl ci_1_47 (Nat.le_of_ble_eq_true rfl) (Nat.le_of_ble_eq_true rfl) (by decide) (by decide) (Nat.le_of_ble_eq_true rfl) (Nat.le_of_ble_eq_true rfl) (Nat.le_of_ble_eq_true rfl) rfl rfl rfl (fun av ca => ?_)
  refine g_aast (j := 2) C dn_11_163 rfl (Or.inr (Or.inr ⟨rfl, C.2.2.2.2.2.2.2.2.2.2.2.2 _ (by decide +kernel)⟩)) rfl rfl (by decide) (by decide) (by decide) (Nat.le_of_ble_eq_true rfl) rfl ?_
  refine n_s (pc2 := 165) C dn_11_164 rfl ?_
  refine n_gfR (a := 15) C dn_11_165 f_11_40 rfl (by decide) rfl (Or.inr ⟨_, rfl⟩) rfl ?_
  refine n_s (pc2 := 169) C dn_11_168 rfl ?_
  refine g_new (ci := 2) (i := 47) (sh2 := (gX.take 48)) C dn_11_169 rfl hk_11_72 hz_2 hi_2 rfl rfl (by decide) rfl rfl (Nat.le_of_ble_eq_true rfl) (Nat.le_of_ble_eq_true rfl) (fun av => ?_)
  refine n_s (pc2 := 173) C dn_11_172 rfl ?_
  refine n_init (As := []) C dn_11_173 (Or.inr hx_11_74) hc_2 hi_2 hm_2 rfl ⟨by decide +kernel, by decide +kernel⟩ (np := 0) (by decide +kernel) rfl ci_2_48 (Nat.le_of_ble_eq_true rfl) (Nat.le_of_ble_eq_true rfl) (by decide) (by decide) (Nat.le_of_ble_eq_true rfl) (Nat.le_of_ble_eq_true rfl) (Nat.le_of_ble_eq_true rfl) rfl rfl rfl (fun av ca => ?_)
  refine g_aast (j := 3) C dn_11_176 rfl (Or.inr (Or.inr ⟨rfl, C.2.2.2.2.2.2.2.2.2.2.2.2 _ (by decide +kernel)⟩)) rfl rfl (by decide) (by decide) (by decide) (Nat.le_of_ble_eq_true rfl) rfl ?_
  refine n_s (pc2 := 178) C dn_11_177 rfl ?_
  refine n_gfR (a := 15) C dn_11_178 f_11_40 rfl (by decide) rfl (Or.inr ⟨_, rfl⟩) rfl ?_
  refine n_s (pc2 := 182) C dn_11_181 rfl ?_
  refine g_new (ci := 5) (i := 48) (sh2 := (gX.take 49)) C dn_11_182 rfl hk_11_75 hz_5 hi_5 rfl rfl (by decide) rfl rfl (Nat.le_of_ble_eq_true rfl) (Nat.le_of_ble_eq_true rfl) (fun av => ?_)
  refine n_s (pc2 := 186) C dn_11_185 rfl ?_
  refine n_init (As := []) C dn_11_186 (Or.inr hx_11_77) hc_5 hi_5 hm_5 rfl ⟨by decide +kernel, by decide +kernel⟩ (np := 0) (by decide +kernel) rfl ci_5_49 (Nat.le_of_ble_eq_true rfl) (Nat.le_of_ble_eq_true rfl) (by decide) (by decide) (Nat.le_of_ble_eq_true rfl) (Nat.le_of_ble_eq_true rfl) (Nat.le_of_ble_eq_true rfl) rfl rfl rfl (fun av ca => ?_)
  refine g_aast (j := 4) C dn_11_189 rfl (Or.inr (Or.inr ⟨rfl, C.2.2.2.2.2.2.2.2.2.2.2.2 _ (by decide +kernel)⟩)) rfl rfl (by decide) (by decide) (by decide) (Nat.le_of_ble_eq_true rfl) rfl ?_
  refine n_s (pc2 := 191) C dn_11_190 rfl ?_
  refine n_gfR (a := 15) C dn_11_191 f_11_40 rfl (by decide) rfl (Or.inr ⟨_, rfl⟩) rfl ?_
  refine n_s (pc2 := 195) C dn_11_194 rfl ?_
  refine g_new (ci := 0) (i := 49) (sh2 := (gX.take 50)) C dn_11_195 rfl hk_11_78 hz_0 hi_0 rfl rfl (by decide) rfl rfl (Nat.le_of_ble_eq_true rfl) (Nat.le_of_ble_eq_true rfl) (fun av => ?_)
  refine n_s (pc2 := 199) C dn_11_198 rfl ?_
  refine n_init (As := []) C dn_11_199 (Or.inr hx_11_80) hc_0 hi_0 hm_0 rfl ⟨by decide +kernel, by decide +kernel⟩ (np := 0) (by decide +kernel) rfl ci_0_50 (Nat.le_of_ble_eq_true rfl) (Nat.le_of_ble_eq_true rfl) (by decide) (by decide) (Nat.le_of_ble_eq_true rfl) (Nat.le_of_ble_eq_true rfl) (Nat.le_of_ble_eq_true rfl) rfl rfl rfl (fun av ca => ?_)
  refine g_aast (j := 5) C dn_11_202 rfl (Or.inr (Or.inr ⟨rfl, C.2.2.2.2.2.2.2.2.2.2.2.2 _ (by decide +kernel)⟩)) rfl rfl (by decide) (by decide) (by decide) (Nat.le_of_ble_eq_true rfl) rfl ?_
  exact n_ret C hret hlk dn_11_203
theorem ho_12_1 : Cond.methodLink (q_cn 12) 1 objectInit ∈ q_tbl := q_wi_in (by decide +kernel)
set_option maxRecDepth 100000 in
set_option maxHeartbeats 4000000 in
theorem ci_12_1 {I : Nat → Nat → Int} {L : Nat → Nat → Int64} {M : List ((Nat × Nat) × Nat)} : CM (⟨"StraightTaxModel", "<init>", "()V"⟩ : MethodName) prog_14_method_1_code 1 0 15 1487 (shM.take 1) [.ref 0] (I, L, tb M) (shM.take 16) ((q_up (q_up (q_up (q_up (q_up (q_up I 0 0 (4)) 0 1 (3)) 0 4 (1)) 0 5 (1)) 0 6 (2)) 2 0 (-9)), L, tb (((0, 34), 15) :: ((0, 33), 14) :: ((0, 32), 13) :: ((0, 31), 12) :: ((0, 30), 11) :: ((0, 29), 10) :: ((0, 28), 9) :: ((0, 27), 8) :: ((0, 26), 7) :: ((0, 21), 6) :: ((0, 15), 5) :: ((0, 14), 4) :: ((0, 12), 3) :: ((0, 11), 2) :: ((0, 9), 1) :: M)) := by
  refine cm_start (o := 12) (by decide +kernel) (by decide +kernel) rfl (by decide +kernel) ?_
  intro p l e s m args below meth c A av ca D C hret hlk
  simp only [q_en, List.replicate]
  refine n_s (pc2 := 1) C dn_12_0 rfl ?_
  refine n_obj C dn_12_1 ho_12_1 (by decide) (by decide) ?_
  refine n_s (pc2 := 5) C dn_12_4 rfl ?_
  refine n_s (pc2 := 6) C dn_12_5 rfl ?_
  refine g_pfI (a := (4)) C dn_12_6 f_12_7 rfl rfl rfl ?_
  refine n_s (pc2 := 10) C dn_12_9 rfl ?_
  refine n_s (pc2 := 11) C dn_12_10 rfl ?_
  refine g_pfI (a := (3)) C dn_12_11 f_12_13 rfl rfl rfl ?_
  refine n_s (pc2 := 15) C dn_12_14 rfl ?_
  refine n_s (pc2 := 16) C dn_12_15 rfl ?_
  refine g_pfI (a := (1)) C dn_12_16 f_12_16 rfl rfl rfl ?_
  refine n_s (pc2 := 20) C dn_12_19 rfl ?_
  refine n_s (pc2 := 21) C dn_12_20 rfl ?_
  refine g_pfI (a := (1)) C dn_12_21 f_12_19 rfl rfl rfl ?_
  refine n_s (pc2 := 25) C dn_12_24 rfl ?_
  refine n_s (pc2 := 26) C dn_12_25 rfl ?_
  refine g_pfI (a := (2)) C dn_12_26 f_12_22 rfl rfl rfl ?_
  refine n_s (pc2 := 30) C dn_12_29 rfl ?_
  refine n_s (pc2 := 33) C dn_12_30 rfl ?_
  refine g_newa (kd := 100) (N := 200) (i := 1) (sh2 := (shM.take 2)) C dn_12_33 q_arrI (Or.inl ⟨rfl, rfl⟩) (by decide +kernel) (by decide +kernel) (by decide +kernel) rfl rfl (by decide) rfl rfl (Nat.le_of_ble_eq_true rfl) (Nat.le_of_ble_eq_true rfl) (fun av ca => ?_)
  refine g_putF C dn_12_35 f_12_25 rfl rfl (by decide) rfl rfl (Or.inr ⟨_, rfl⟩) (Nat.le_of_ble_eq_true rfl) (Nat.le_of_ble_eq_true rfl) ?_
  refine n_s (pc2 := 39) C dn_12_38 rfl ?_
  refine n_s (pc2 := 42) C dn_12_39 rfl ?_
  refine g_newa (kd := 100) (N := 390) (i := 2) (sh2 := (shM.take 3)) C dn_12_42 q_arrI (Or.inl ⟨rfl, rfl⟩) (by decide +kernel) (by decide +kernel) (by decide +kernel) rfl rfl (by decide) rfl rfl (Nat.le_of_ble_eq_true rfl) (Nat.le_of_ble_eq_true rfl) (fun av ca => ?_)
  refine g_putF C dn_12_44 f_12_29 rfl rfl (by decide) rfl rfl (Or.inr ⟨_, rfl⟩) (Nat.le_of_ble_eq_true rfl) (Nat.le_of_ble_eq_true rfl) ?_
  refine n_s (pc2 := 48) C dn_12_47 rfl ?_
  refine n_s (pc2 := 49) C dn_12_48 rfl ?_
  refine g_newa (kd := 102) (N := 2) (i := 3) (sh2 := (shM.take 4)) C dn_12_49 q_arrZ (Or.inr (Or.inr ⟨rfl, rfl⟩)) (by decide +kernel) (by decide +kernel) (by decide +kernel) rfl rfl (by decide) rfl rfl (Nat.le_of_ble_eq_true rfl) (Nat.le_of_ble_eq_true rfl) (fun av ca => ?_)
  refine g_putF C dn_12_51 f_12_32 rfl rfl (by decide) rfl rfl (Or.inr ⟨_, rfl⟩) (Nat.le_of_ble_eq_true rfl) (Nat.le_of_ble_eq_true rfl) ?_
  refine n_s (pc2 := 55) C dn_12_54 rfl ?_
  refine n_s (pc2 := 57) C dn_12_55 rfl ?_
  refine g_newa (kd := 100) (N := 6) (i := 4) (sh2 := (shM.take 5)) C dn_12_57 q_arrI (Or.inl ⟨rfl, rfl⟩) (by decide +kernel) (by decide +kernel) (by decide +kernel) rfl rfl (by decide) rfl rfl (Nat.le_of_ble_eq_true rfl) (Nat.le_of_ble_eq_true rfl) (fun av ca => ?_)
  refine g_putF C dn_12_59 f_12_36 rfl rfl (by decide) rfl rfl (Or.inr ⟨_, rfl⟩) (Nat.le_of_ble_eq_true rfl) (Nat.le_of_ble_eq_true rfl) ?_
  refine n_s (pc2 := 63) C dn_12_62 rfl ?_
  refine n_s (pc2 := 65) C dn_12_63 rfl ?_
  refine g_newa (kd := 100) (N := 6) (i := 5) (sh2 := (shM.take 6)) C dn_12_65 q_arrI (Or.inl ⟨rfl, rfl⟩) (by decide +kernel) (by decide +kernel) (by decide +kernel) rfl rfl (by decide) rfl rfl (Nat.le_of_ble_eq_true rfl) (Nat.le_of_ble_eq_true rfl) (fun av ca => ?_)
  refine g_putF C dn_12_67 f_12_39 rfl rfl (by decide) rfl rfl (Or.inr ⟨_, rfl⟩) (Nat.le_of_ble_eq_true rfl) (Nat.le_of_ble_eq_true rfl) ?_
  refine n_s (pc2 := 71) C dn_12_70 rfl ?_
  refine n_s (pc2 := 72) C dn_12_71 rfl ?_
  refine g_newa (kd := 100) (N := 5) (i := 6) (sh2 := (shM.take 7)) C dn_12_72 q_arrI (Or.inl ⟨rfl, rfl⟩) (by decide +kernel) (by decide +kernel) (by decide +kernel) rfl rfl (by decide) rfl rfl (Nat.le_of_ble_eq_true rfl) (Nat.le_of_ble_eq_true rfl) (fun av ca => ?_)
  refine g_putF C dn_12_74 f_12_42 rfl rfl (by decide) rfl rfl (Or.inr ⟨_, rfl⟩) (Nat.le_of_ble_eq_true rfl) (Nat.le_of_ble_eq_true rfl) ?_
  refine n_s (pc2 := 78) C dn_12_77 rfl ?_
  refine n_s (pc2 := 81) C dn_12_78 rfl ?_
  refine g_newa (kd := 100) (N := 340) (i := 7) (sh2 := (shM.take 8)) C dn_12_81 q_arrI (Or.inl ⟨rfl, rfl⟩) (by decide +kernel) (by decide +kernel) (by decide +kernel) rfl rfl (by decide) rfl rfl (Nat.le_of_ble_eq_true rfl) (Nat.le_of_ble_eq_true rfl) (fun av ca => ?_)
  refine g_putF C dn_12_83 f_12_45 rfl rfl (by decide) rfl rfl (Or.inr ⟨_, rfl⟩) (Nat.le_of_ble_eq_true rfl) (Nat.le_of_ble_eq_true rfl) ?_
  refine n_s (pc2 := 87) C dn_12_86 rfl ?_
  refine n_s (pc2 := 90) C dn_12_87 rfl ?_
  refine g_newa (kd := 100) (N := 340) (i := 8) (sh2 := (shM.take 9)) C dn_12_90 q_arrI (Or.inl ⟨rfl, rfl⟩) (by decide +kernel) (by decide +kernel) (by decide +kernel) rfl rfl (by decide) rfl rfl (Nat.le_of_ble_eq_true rfl) (Nat.le_of_ble_eq_true rfl) (fun av ca => ?_)
  refine g_putF C dn_12_92 f_12_48 rfl rfl (by decide) rfl rfl (Or.inr ⟨_, rfl⟩) (Nat.le_of_ble_eq_true rfl) (Nat.le_of_ble_eq_true rfl) ?_
  refine n_s (pc2 := 96) C dn_12_95 rfl ?_
  refine n_s (pc2 := 98) C dn_12_96 rfl ?_
  refine g_newa (kd := 100) (N := 61) (i := 9) (sh2 := (shM.take 10)) C dn_12_98 q_arrI (Or.inl ⟨rfl, rfl⟩) (by decide +kernel) (by decide +kernel) (by decide +kernel) rfl rfl (by decide) rfl rfl (Nat.le_of_ble_eq_true rfl) (Nat.le_of_ble_eq_true rfl) (fun av ca => ?_)
  refine g_putF C dn_12_100 f_12_51 rfl rfl (by decide) rfl rfl (Or.inr ⟨_, rfl⟩) (Nat.le_of_ble_eq_true rfl) (Nat.le_of_ble_eq_true rfl) ?_
  refine n_s (pc2 := 104) C dn_12_103 rfl ?_
  refine n_s (pc2 := 105) C dn_12_104 rfl ?_
  refine g_newa (kd := 100) (N := 5) (i := 10) (sh2 := (shM.take 11)) C dn_12_105 q_arrI (Or.inl ⟨rfl, rfl⟩) (by decide +kernel) (by decide +kernel) (by decide +kernel) rfl rfl (by decide) rfl rfl (Nat.le_of_ble_eq_true rfl) (Nat.le_of_ble_eq_true rfl) (fun av ca => ?_)
  refine g_putF C dn_12_107 f_12_54 rfl rfl (by decide) rfl rfl (Or.inr ⟨_, rfl⟩) (Nat.le_of_ble_eq_true rfl) (Nat.le_of_ble_eq_true rfl) ?_
  refine n_s (pc2 := 111) C dn_12_110 rfl ?_
  refine n_s (pc2 := 113) C dn_12_111 rfl ?_
  refine g_newa (kd := 100) (N := 25) (i := 11) (sh2 := (shM.take 12)) C dn_12_113 q_arrI (Or.inl ⟨rfl, rfl⟩) (by decide +kernel) (by decide +kernel) (by decide +kernel) rfl rfl (by decide) rfl rfl (Nat.le_of_ble_eq_true rfl) (Nat.le_of_ble_eq_true rfl) (fun av ca => ?_)
  refine g_putF C dn_12_115 f_12_57 rfl rfl (by decide) rfl rfl (Or.inr ⟨_, rfl⟩) (Nat.le_of_ble_eq_true rfl) (Nat.le_of_ble_eq_true rfl) ?_
  refine n_s (pc2 := 119) C dn_12_118 rfl ?_
  refine n_s (pc2 := 121) C dn_12_119 rfl ?_
  refine g_newa (kd := 100) (N := 80) (i := 12) (sh2 := (shM.take 13)) C dn_12_121 q_arrI (Or.inl ⟨rfl, rfl⟩) (by decide +kernel) (by decide +kernel) (by decide +kernel) rfl rfl (by decide) rfl rfl (Nat.le_of_ble_eq_true rfl) (Nat.le_of_ble_eq_true rfl) (fun av ca => ?_)
  refine g_putF C dn_12_123 f_12_60 rfl rfl (by decide) rfl rfl (Or.inr ⟨_, rfl⟩) (Nat.le_of_ble_eq_true rfl) (Nat.le_of_ble_eq_true rfl) ?_
  refine n_s (pc2 := 127) C dn_12_126 rfl ?_
  refine n_s (pc2 := 129) C dn_12_127 rfl ?_
  refine g_newa (kd := 100) (N := 9) (i := 13) (sh2 := (shM.take 14)) C dn_12_129 q_arrI (Or.inl ⟨rfl, rfl⟩) (by decide +kernel) (by decide +kernel) (by decide +kernel) rfl rfl (by decide) rfl rfl (Nat.le_of_ble_eq_true rfl) (Nat.le_of_ble_eq_true rfl) (fun av ca => ?_)
  refine g_putF C dn_12_131 f_12_63 rfl rfl (by decide) rfl rfl (Or.inr ⟨_, rfl⟩) (Nat.le_of_ble_eq_true rfl) (Nat.le_of_ble_eq_true rfl) ?_
  refine n_s (pc2 := 135) C dn_12_134 rfl ?_
  refine n_s (pc2 := 137) C dn_12_135 rfl ?_
  refine g_newa (kd := 100) (N := 9) (i := 14) (sh2 := (shM.take 15)) C dn_12_137 q_arrI (Or.inl ⟨rfl, rfl⟩) (by decide +kernel) (by decide +kernel) (by decide +kernel) rfl rfl (by decide) rfl rfl (Nat.le_of_ble_eq_true rfl) (Nat.le_of_ble_eq_true rfl) (fun av ca => ?_)
  refine g_putF C dn_12_139 f_12_66 rfl rfl (by decide) rfl rfl (Or.inr ⟨_, rfl⟩) (Nat.le_of_ble_eq_true rfl) (Nat.le_of_ble_eq_true rfl) ?_
  refine n_s (pc2 := 143) C dn_12_142 rfl ?_
  refine n_s (pc2 := 145) C dn_12_143 rfl ?_
  refine g_newa (kd := 100) (N := 9) (i := 15) (sh2 := (shM.take 16)) C dn_12_145 q_arrI (Or.inl ⟨rfl, rfl⟩) (by decide +kernel) (by decide +kernel) (by decide +kernel) rfl rfl (by decide) rfl rfl (Nat.le_of_ble_eq_true rfl) (Nat.le_of_ble_eq_true rfl) (fun av ca => ?_)
  refine g_putF C dn_12_147 f_12_69 rfl rfl (by decide) rfl rfl (Or.inr ⟨_, rfl⟩) (Nat.le_of_ble_eq_true rfl) (Nat.le_of_ble_eq_true rfl) ?_
  refine n_s (pc2 := 151) C dn_12_150 rfl ?_
  refine n_gfR (a := 2) C dn_12_151 f_12_29 rfl (by decide) rfl (Or.inr ⟨_, rfl⟩) rfl ?_
  refine n_s (pc2 := 155) C dn_12_154 rfl ?_
  refine n_s (pc2 := 157) C dn_12_155 rfl ?_
  refine g_iast (a := -9) (j := 0) C dn_12_157 rfl (by decide) (by decide) (by decide) rfl (by decide +kernel) ?_
  exact n_ret C hret hlk dn_12_158
