def qcn : List String := ["StraightTax$Beggar", "StraightTax$Courtier", "StraightTax$Dancer", "StraightTax$Drover", "StraightTax$Errands", "StraightTax$Lawyer", "StraightTax$Text", "StraightTax$Town", "StraightTax$Walk", "StraightTax$Walker", "StraightTax$Ways", "StraightTax", "StraightTaxModel", "java/lang/String", "java/lang/StringLatin1", "jdk/internal/util/Preconditions", "java/lang/Math", "java/lang/Integer", "java/util/Arrays"]
/-- a method: its class, code, locals, name, answer, how many it takes (the receiver not counted) -/
abbrev QRow : Type := Nat × ByteArray × Nat × MethodName × Option FieldType × Nat
def qr_0 : QRow := (0, prog_2_method_2_code, 2, ⟨"StraightTax$Beggar", "rate", "(LStraightTax;)I"⟩, (some .int), 1)
def qr_1 : QRow := (1, prog_3_method_2_code, 2, ⟨"StraightTax$Courtier", "rate", "(LStraightTax;)I"⟩, (some .int), 1)
def qr_2 : QRow := (2, prog_4_method_2_code, 2, ⟨"StraightTax$Dancer", "rate", "(LStraightTax;)I"⟩, (some .int), 1)
def qr_3 : QRow := (3, prog_5_method_2_code, 2, ⟨"StraightTax$Drover", "rate", "(LStraightTax;)I"⟩, (some .int), 1)
def qr_4 : QRow := (4, prog_6_method_2_code, 3, ⟨"StraightTax$Errands", "add", "(II)Z"⟩, (some .boolean), 2)
def qr_5 : QRow := (4, prog_6_method_3_code, 4, ⟨"StraightTax$Errands", "haveWays", "(LStraightTax$Ways;)Z"⟩, (some .boolean), 1)
def qr_6 : QRow := (4, prog_6_method_4_code, 7, ⟨"StraightTax$Errands", "withElbow", "(ILStraightTax$Ways;)I"⟩, (some .int), 2)
def qr_7 : QRow := (5, prog_7_method_2_code, 2, ⟨"StraightTax$Lawyer", "rate", "(LStraightTax;)I"⟩, (some .int), 1)
def qr_8 : QRow := (6, prog_8_method_2_code, 5, ⟨"StraightTax$Text", "add", "(JI)I"⟩, (some .int), 2)
def qr_9 : QRow := (6, prog_8_method_3_code, 4, ⟨"StraightTax$Text", "tell", "(LStraightTax$Town;)I"⟩, (some .int), 1)
def qr_10 : QRow := (6, prog_8_method_11_code, 1, ⟨"StraightTax$Text", "advance", "()V"⟩, none, 0)
def qr_11 : QRow := (6, prog_8_method_15_code, 1, ⟨"StraightTax$Text", "isLetter", "(B)Z"⟩, (some .boolean), 1)
def qr_12 : QRow := (6, prog_8_method_12_code, 1, ⟨"StraightTax$Text", "readWord", "()V"⟩, none, 0)
def qr_13 : QRow := (6, prog_8_method_13_code, 3, ⟨"StraightTax$Text", "isWord", "(Ljava/lang/String;)Z"⟩, (some .boolean), 1)
def qr_14 : QRow := (6, prog_8_method_16_code, 1, ⟨"StraightTax$Text", "isFigure", "(B)Z"⟩, (some .boolean), 1)
def qr_15 : QRow := (6, prog_8_method_14_code, 2, ⟨"StraightTax$Text", "readNumber", "()V"⟩, none, 0)
def qr_16 : QRow := (6, prog_8_method_4_code, 2, ⟨"StraightTax$Text", "isSize", "(LStraightTax$Town;)Z"⟩, (some .boolean), 1)
def qr_17 : QRow := (6, prog_8_method_9_code, 3, ⟨"StraightTax$Text", "isNumber", "(II)Z"⟩, (some .boolean), 2)
def qr_18 : QRow := (6, prog_8_method_5_code, 5, ⟨"StraightTax$Text", "isThing", "(LStraightTax$Town;I)Z"⟩, (some .boolean), 2)
def qr_19 : QRow := (6, prog_8_method_6_code, 2, ⟨"StraightTax$Text", "isTax", "(LStraightTax$Town;)Z"⟩, (some .boolean), 1)
def qr_20 : QRow := (6, prog_8_method_7_code, 2, ⟨"StraightTax$Text", "isDouble", "(LStraightTax$Town;)Z"⟩, (some .boolean), 1)
def qr_21 : QRow := (6, prog_8_method_8_code, 2, ⟨"StraightTax$Text", "isHaste", "(LStraightTax$Town;)Z"⟩, (some .boolean), 1)
def qr_22 : QRow := (6, prog_8_method_10_code, 1, ⟨"StraightTax$Text", "isStop", "()Z"⟩, (some .boolean), 0)
def qr_23 : QRow := (7, prog_9_method_2_code, 1, ⟨"StraightTax$Town", "begin", "()V"⟩, none, 0)
def qr_24 : QRow := (7, prog_9_method_3_code, 5, ⟨"StraightTax$Town", "join", "()V"⟩, none, 0)
def qr_25 : QRow := (7, prog_9_method_4_code, 3, ⟨"StraightTax$Town", "squareAt", "(II)I"⟩, (some .int), 2)
def qr_26 : QRow := (7, prog_9_method_9_code, 2, ⟨"StraightTax$Town", "isOpen", "(I)Z"⟩, (some .boolean), 1)
def qr_27 : QRow := (7, prog_9_method_6_code, 2, ⟨"StraightTax$Town", "has", "(I)Z"⟩, (some .boolean), 1)
def qr_28 : QRow := (7, prog_9_method_5_code, 1, ⟨"StraightTax$Town", "squares", "()I"⟩, (some .int), 0)
def qr_29 : QRow := (7, prog_9_method_7_code, 2, ⟨"StraightTax$Town", "thingOn", "(I)I"⟩, (some .int), 1)
def qr_30 : QRow := (7, prog_9_method_13_code, 1, ⟨"StraightTax$Town", "isHeld", "(I)Z"⟩, (some .boolean), 1)
def qr_31 : QRow := (7, prog_9_method_8_code, 3, ⟨"StraightTax$Town", "put", "(II)V"⟩, none, 2)
def qr_32 : QRow := (7, prog_9_method_12_code, 3, ⟨"StraightTax$Town", "ahead", "(II)I"⟩, (some .int), 2)
def qr_33 : QRow := (7, prog_9_method_17_code, 5, ⟨"StraightTax$Town", "runOf", "(IIII)I"⟩, (some .int), 4)
def qr_34 : QRow := (7, prog_9_method_10_code, 2, ⟨"StraightTax$Town", "isElbow", "(I)Z"⟩, (some .boolean), 1)
def qr_35 : QRow := (7, prog_9_method_18_code, 5, ⟨"StraightTax$Town", "price", "(IZ)I"⟩, (some .int), 2)
def qr_36 : QRow := (7, prog_9_method_16_code, 6, ⟨"StraightTax$Town", "straightFrom", "(I)I"⟩, (some .int), 1)
def qr_37 : QRow := (7, prog_9_method_14_code, 6, ⟨"StraightTax$Town", "shifted", "(II)I"⟩, (some .int), 2)
def qr_38 : QRow := (7, prog_9_method_15_code, 4, ⟨"StraightTax$Town", "around", "(I)I"⟩, (some .int), 1)
def qr_39 : QRow := (7, prog_9_method_11_code, 4, ⟨"StraightTax$Town", "countOf", "(I)I"⟩, (some .int), 1)
def qr_40 : QRow := (8, prog_10_method_2_code, 1, ⟨"StraightTax$Walk", "leave", "()V"⟩, none, 0)
def qr_41 : QRow := (8, prog_10_method_3_code, 1, ⟨"StraightTax$Walk", "lastDirection", "()I"⟩, (some .int), 0)
def qr_42 : QRow := (8, prog_10_method_4_code, 1, ⟨"StraightTax$Walk", "lastRun", "()I"⟩, (some .int), 0)
def qr_43 : QRow := (8, prog_10_method_5_code, 5, ⟨"StraightTax$Walk", "go", "(IIII)V"⟩, none, 4)
def qr_44 : QRow := (8, prog_10_method_6_code, 1, ⟨"StraightTax$Walk", "takeBack", "()I"⟩, (some .int), 0)
def qr_45 : QRow := (8, prog_10_method_7_code, 2, ⟨"StraightTax$Walk", "become", "(LStraightTax$Walk;)V"⟩, none, 1)
def qr_46 : QRow := (9, prog_11_method_2_code, 2, ⟨"StraightTax$Walker", "rate", "(LStraightTax;)I"⟩, (some .int), 1)
def qr_47 : QRow := (10, prog_12_method_2_code, 4, ⟨"StraightTax$Ways", "look", "(LStraightTax$Town;Z)V"⟩, none, 2)
def qr_48 : QRow := (10, prog_12_method_5_code, 12, ⟨"StraightTax$Ways", "told", "(II)I"⟩, (some .int), 2)
def qr_49 : QRow := (10, prog_12_method_6_code, 6, ⟨"StraightTax$Ways", "aim", "(I)V"⟩, none, 1)
def qr_50 : QRow := (10, prog_12_method_7_code, 5, ⟨"StraightTax$Ways", "makesLess", "(I)Z"⟩, (some .boolean), 1)
def qr_51 : QRow := (10, prog_12_method_8_code, 7, ⟨"StraightTax$Ways", "straightOn", "(III)I"⟩, (some .int), 3)
def qr_52 : QRow := (10, prog_12_method_9_code, 5, ⟨"StraightTax$Ways", "turning", "(II)I"⟩, (some .int), 2)
def qr_53 : QRow := (10, prog_12_method_10_code, 2, ⟨"StraightTax$Ways", "burdenFrom", "(I)I"⟩, (some .int), 1)
def qr_54 : QRow := (10, prog_12_method_3_code, 1, ⟨"StraightTax$Ways", "penceOf", "(I)I"⟩, (some .int), 1)
def qr_55 : QRow := (10, prog_12_method_4_code, 1, ⟨"StraightTax$Ways", "stepsOf", "(I)I"⟩, (some .int), 1)
def qr_56 : QRow := (10, prog_12_method_13_code, 9, ⟨"StraightTax$Ways", "stepAlong", "(II)I"⟩, (some .int), 2)
def qr_57 : QRow := (10, prog_12_method_14_code, 6, ⟨"StraightTax$Ways", "firstOfBest", "(IIII)I"⟩, (some .int), 4)
def qr_58 : QRow := (10, prog_12_method_12_code, 3, ⟨"StraightTax$Ways", "leastPence", "(II)I"⟩, (some .int), 2)
def qr_59 : QRow := (10, prog_12_method_11_code, 3, ⟨"StraightTax$Ways", "penceFrom", "(I)I"⟩, (some .int), 1)
def qr_60 : QRow := (10, prog_12_method_15_code, 6, ⟨"StraightTax$Ways", "leastIn", "(III)I"⟩, (some .int), 3)
def qr_61 : QRow := (10, prog_12_method_16_code, 7, ⟨"StraightTax$Ways", "comingIn", "(III)I"⟩, (some .int), 3)
def qr_62 : QRow := (10, prog_12_method_17_code, 7, ⟨"StraightTax$Ways", "turned", "(III)I"⟩, (some .int), 3)
def qr_63 : QRow := (10, prog_12_method_18_code, 7, ⟨"StraightTax$Ways", "tour", "(II)I"⟩, (some .int), 2)
def qr_64 : QRow := (10, prog_12_method_19_code, 6, ⟨"StraightTax$Ways", "tourOn", "(II)I"⟩, (some .int), 2)
def qr_65 : QRow := (10, prog_12_method_20_code, 6, ⟨"StraightTax$Ways", "fitting", "(IIII)I"⟩, (some .int), 4)
def qr_66 : QRow := (10, prog_12_method_21_code, 10, ⟨"StraightTax$Ways", "fittingOn", "(IIIII)I"⟩, (some .int), 5)
def qr_67 : QRow := (11, prog_1_method_2_code, 4, ⟨"StraightTax", "type", "(JI)I"⟩, (some .int), 2)
def qr_68 : QRow := (11, prog_1_method_3_code, 2, ⟨"StraightTax", "clear", "()I"⟩, (some .int), 0)
def qr_69 : QRow := (11, prog_1_method_4_code, 4, ⟨"StraightTax", "town", "()I"⟩, (some .int), 0)
def qr_70 : QRow := (11, prog_1_method_5_code, 2, ⟨"StraightTax", "square", "(I)I"⟩, (some .int), 1)
def qr_71 : QRow := (11, prog_1_method_6_code, 2, ⟨"StraightTax", "law", "(I)I"⟩, (some .int), 1)
def qr_72 : QRow := (11, prog_1_method_7_code, 2, ⟨"StraightTax", "stand", "(I)I"⟩, (some .int), 1)
def qr_73 : QRow := (11, prog_1_method_8_code, 5, ⟨"StraightTax", "step", "(I)I"⟩, (some .int), 1)
def qr_74 : QRow := (11, prog_1_method_27_code, 1, ⟨"StraightTax", "isDirection", "(I)Z"⟩, (some .boolean), 1)
def qr_75 : QRow := (11, prog_1_method_9_code, 1, ⟨"StraightTax", "undo", "()I"⟩, (some .int), 0)
def qr_76 : QRow := (11, prog_1_method_10_code, 2, ⟨"StraightTax", "one", "(I)I"⟩, (some .int), 1)
def qr_77 : QRow := (11, prog_1_method_11_code, 3, ⟨"StraightTax", "dusk", "(I)I"⟩, (some .int), 1)
def qr_78 : QRow := (11, prog_1_method_28_code, 1, ⟨"StraightTax", "isFlag", "(I)Z"⟩, (some .boolean), 1)
def qr_79 : QRow := (11, prog_1_method_12_code, 3, ⟨"StraightTax", "cost", "(II)I"⟩, (some .int), 2)
def qr_80 : QRow := (11, prog_1_method_32_code, 3, ⟨"StraightTax", "areFigures", "(I)Z"⟩, (some .boolean), 1)
def qr_81 : QRow := (11, prog_1_method_13_code, 5, ⟨"StraightTax", "cheapest", "(III)I"⟩, (some .int), 3)
def qr_82 : QRow := (11, prog_1_method_31_code, 3, ⟨"StraightTax", "areEnds", "(II)Z"⟩, (some .boolean), 2)
def qr_83 : QRow := (11, prog_1_method_14_code, 6, ⟨"StraightTax", "quickest", "(III)I"⟩, (some .int), 3)
def qr_84 : QRow := (11, prog_1_method_15_code, 10, ⟨"StraightTax", "line", "(IIII)I"⟩, (some .int), 4)
def qr_85 : QRow := (11, prog_1_method_16_code, 6, ⟨"StraightTax", "fewTurns", "(II)I"⟩, (some .int), 2)
def qr_86 : QRow := (11, prog_1_method_30_code, 2, ⟨"StraightTax", "isIn", "(II)Z"⟩, (some .boolean), 2)
def qr_87 : QRow := (11, prog_1_method_17_code, 3, ⟨"StraightTax", "round", "(II)I"⟩, (some .int), 2)
def qr_88 : QRow := (11, prog_1_method_33_code, 3, ⟨"StraightTax", "arePlaces", "(I)Z"⟩, (some .boolean), 1)
def qr_89 : QRow := (11, prog_1_method_18_code, 3, ⟨"StraightTax", "errand", "(II)I"⟩, (some .int), 2)
def qr_90 : QRow := (11, prog_1_method_19_code, 2, ⟨"StraightTax", "home", "()I"⟩, (some .int), 0)
def qr_91 : QRow := (11, prog_1_method_20_code, 6, ⟨"StraightTax", "help", "(I)I"⟩, (some .int), 1)
def qr_92 : QRow := (11, prog_1_method_21_code, 5, ⟨"StraightTax", "fits", "(IIII)I"⟩, (some .int), 4)
def qr_93 : QRow := (11, prog_1_method_22_code, 2, ⟨"StraightTax", "rating", "(I)I"⟩, (some .int), 1)
def qr_94 : QRow := (11, prog_1_method_23_code, 2, ⟨"StraightTax", "keep", "(I)I"⟩, (some .int), 1)
def qr_95 : QRow := (11, prog_1_method_29_code, 1, ⟨"StraightTax", "isImage", "(I)Z"⟩, (some .boolean), 1)
def qr_96 : QRow := (11, prog_1_method_24_code, 2, ⟨"StraightTax", "back", "(I)I"⟩, (some .int), 1)
def qr_97 : QRow := (11, prog_1_method_25_code, 2, ⟨"StraightTax", "count", "(I)I"⟩, (some .int), 1)
def qr_98 : QRow := (11, prog_1_method_26_code, 1, ⟨"StraightTax", "trace", "()J"⟩, (some .long), 0)
def qr_99 : QRow := (12, prog_14_method_9_code, 5, ⟨"StraightTaxModel", "type", "(JI)I"⟩, (some .int), 2)
def qr_100 : QRow := (12, prog_14_method_3_code, 6, ⟨"StraightTaxModel", "in", "(JJJ)Z"⟩, (some .boolean), 3)
def qr_101 : QRow := (12, prog_14_method_10_code, 2, ⟨"StraightTaxModel", "clear", "()I"⟩, (some .int), 0)
def qr_102 : QRow := (12, prog_14_method_17_code, 1, ⟨"StraightTaxModel", "town", "()I"⟩, (some .int), 0)
def qr_103 : QRow := (12, prog_14_method_11_code, 1, ⟨"StraightTaxModel", "isEnd", "()Z"⟩, (some .boolean), 0)
def qr_104 : QRow := (12, prog_14_method_16_code, 4, ⟨"StraightTaxModel", "takeItem", "()V"⟩, none, 0)
def qr_105 : QRow := (12, prog_14_method_13_code, 4, ⟨"StraightTaxModel", "takeLetters", "()J"⟩, (some .long), 0)
def qr_106 : QRow := (12, prog_14_method_12_code, 6, ⟨"StraightTaxModel", "takeNumber", "(II)I"⟩, (some .int), 2)
def qr_107 : QRow := (12, prog_14_method_6_code, 2, ⟨"StraightTaxModel", "lesser", "(II)I"⟩, (some .int), 2)
def qr_108 : QRow := (12, prog_14_method_14_code, 5, ⟨"StraightTaxModel", "takeSquare", "(Z)V"⟩, none, 1)
def qr_109 : QRow := (12, prog_14_method_4_code, 2, ⟨"StraightTaxModel", "has", "(II)Z"⟩, (some .boolean), 2)
def qr_110 : QRow := (12, prog_14_method_15_code, 4, ⟨"StraightTaxModel", "isAgain", "(II)Z"⟩, (some .boolean), 2)
def qr_111 : QRow := (12, prog_14_method_18_code, 2, ⟨"StraightTaxModel", "square", "(I)I"⟩, (some .int), 1)
def qr_112 : QRow := (12, prog_14_method_7_code, 2, ⟨"StraightTaxModel", "isSquare", "(I)Z"⟩, (some .boolean), 1)
def qr_113 : QRow := (12, prog_14_method_19_code, 2, ⟨"StraightTaxModel", "law", "(I)I"⟩, (some .int), 1)
def qr_114 : QRow := (12, prog_14_method_24_code, 2, ⟨"StraightTaxModel", "stand", "(I)I"⟩, (some .int), 1)
def qr_115 : QRow := (12, prog_14_method_8_code, 2, ⟨"StraightTaxModel", "isOpen", "(I)Z"⟩, (some .boolean), 1)
def qr_116 : QRow := (12, prog_14_method_25_code, 6, ⟨"StraightTaxModel", "step", "(I)I"⟩, (some .int), 1)
def qr_117 : QRow := (12, prog_14_method_20_code, 6, ⟨"StraightTaxModel", "to", "(II)I"⟩, (some .int), 2)
def qr_118 : QRow := (12, prog_14_method_22_code, 5, ⟨"StraightTaxModel", "runNow", "()I"⟩, (some .int), 0)
def qr_119 : QRow := (12, prog_14_method_23_code, 3, ⟨"StraightTaxModel", "behind", "(II)I"⟩, (some .int), 2)
def qr_120 : QRow := (12, prog_14_method_21_code, 4, ⟨"StraightTaxModel", "priceOf", "(I)I"⟩, (some .int), 1)
def qr_121 : QRow := (12, prog_14_method_26_code, 2, ⟨"StraightTaxModel", "undo", "()I"⟩, (some .int), 0)
def qr_122 : QRow := (12, prog_14_method_27_code, 2, ⟨"StraightTaxModel", "one", "(I)I"⟩, (some .int), 1)
def qr_123 : QRow := (12, prog_14_method_28_code, 3, ⟨"StraightTaxModel", "dusk", "(I)I"⟩, (some .int), 1)
def qr_124 : QRow := (12, prog_14_method_29_code, 10, ⟨"StraightTaxModel", "cost", "(II)I"⟩, (some .int), 2)
def qr_125 : QRow := (12, prog_14_method_34_code, 8, ⟨"StraightTaxModel", "cheapest", "(III)I"⟩, (some .int), 3)
def qr_126 : QRow := (12, prog_14_method_33_code, 3, ⟨"StraightTaxModel", "areOpen", "(II)Z"⟩, (some .boolean), 2)
def qr_127 : QRow := (12, prog_14_method_32_code, 10, ⟨"StraightTaxModel", "findRest", "(II)V"⟩, none, 2)
def qr_128 : QRow := (12, prog_14_method_31_code, 4, ⟨"StraightTaxModel", "runBehind", "(II)I"⟩, (some .int), 2)
def qr_129 : QRow := (12, prog_14_method_30_code, 8, ⟨"StraightTaxModel", "onward", "(III)I"⟩, (some .int), 3)
def qr_130 : QRow := (12, prog_14_method_35_code, 5, ⟨"StraightTaxModel", "isFirst", "(II)Z"⟩, (some .boolean), 2)
def qr_131 : QRow := (12, prog_14_method_37_code, 5, ⟨"StraightTaxModel", "quickest", "(III)I"⟩, (some .int), 3)
def qr_132 : QRow := (12, prog_14_method_36_code, 9, ⟨"StraightTaxModel", "findLine", "(II)V"⟩, none, 2)
def qr_133 : QRow := (12, prog_14_method_38_code, 8, ⟨"StraightTaxModel", "line", "(IIII)I"⟩, (some .int), 4)
def qr_134 : QRow := (12, prog_14_method_39_code, 9, ⟨"StraightTaxModel", "fewTurns", "(II)I"⟩, (some .int), 2)
def qr_135 : QRow := (12, prog_14_method_41_code, 8, ⟨"StraightTaxModel", "round", "(II)I"⟩, (some .int), 2)
def qr_136 : QRow := (12, prog_14_method_5_code, 3, ⟨"StraightTaxModel", "ones", "(I)I"⟩, (some .int), 1)
def qr_137 : QRow := (12, prog_14_method_40_code, 5, ⟨"StraightTaxModel", "costOf", "(III)I"⟩, (some .int), 3)
def qr_138 : QRow := (12, prog_14_method_42_code, 3, ⟨"StraightTaxModel", "errand", "(II)I"⟩, (some .int), 2)
def qr_139 : QRow := (12, prog_14_method_43_code, 2, ⟨"StraightTaxModel", "home", "()I"⟩, (some .int), 0)
def qr_140 : QRow := (12, prog_14_method_44_code, 7, ⟨"StraightTaxModel", "help", "(I)I"⟩, (some .int), 1)
def qr_141 : QRow := (12, prog_14_method_45_code, 9, ⟨"StraightTaxModel", "fits", "(IIII)I"⟩, (some .int), 4)
def qr_142 : QRow := (12, prog_14_method_46_code, 2, ⟨"StraightTaxModel", "rating", "(I)I"⟩, (some .int), 1)
def qr_143 : QRow := (12, prog_14_method_48_code, 2, ⟨"StraightTaxModel", "keep", "(I)I"⟩, (some .int), 1)
def qr_144 : QRow := (12, prog_14_method_47_code, 4, ⟨"StraightTaxModel", "copy", "(II)V"⟩, none, 2)
def qr_145 : QRow := (12, prog_14_method_49_code, 2, ⟨"StraightTaxModel", "back", "(I)I"⟩, (some .int), 1)
def qr_146 : QRow := (12, prog_14_method_50_code, 2, ⟨"StraightTaxModel", "count", "(I)I"⟩, (some .int), 1)
def qr_147 : QRow := (12, prog_14_method_51_code, 1, ⟨"StraightTaxModel", "trace", "()J"⟩, (some .long), 0)
def qr_148 : QRow := (13, prog_17_method_54_code, 1, ⟨"java/lang/String", "length", "()I"⟩, (some .int), 0)
def qr_149 : QRow := (13, prog_17_method_152_code, 1, ⟨"java/lang/String", "coder", "()B"⟩, (some .byte), 0)
def qr_150 : QRow := (13, prog_17_method_56_code, 2, ⟨"java/lang/String", "charAt", "(I)C"⟩, (some .char), 1)
def qr_151 : QRow := (13, prog_17_method_154_code, 1, ⟨"java/lang/String", "isLatin1", "()Z"⟩, (some .boolean), 0)
def qr_152 : QRow := (13, prog_17_method_155_code, 2, ⟨"java/lang/String", "checkIndex", "(II)V"⟩, none, 2)
def qr_153 : QRow := (14, prog_18_method_2_code, 2, ⟨"java/lang/StringLatin1", "charAt", "([BI)C"⟩, (some .char), 2)
def qr_154 : QRow := (15, prog_22_method_11_code, 3, ⟨"jdk/internal/util/Preconditions", "checkIndex", "(IILjava/util/function/BiFunction;)I"⟩, (some .int), 3)
def qr_155 : QRow := (16, prog_16_method_69_code, 2, ⟨"java/lang/Math", "min", "(II)I"⟩, (some .int), 2)
def qr_156 : QRow := (16, prog_16_method_65_code, 2, ⟨"java/lang/Math", "max", "(II)I"⟩, (some .int), 2)
def qr_157 : QRow := (17, prog_15_method_49_code, 1, ⟨"java/lang/Integer", "bitCount", "(I)I"⟩, (some .int), 1)
def qr_158 : QRow := (18, prog_21_method_103_code, 4, ⟨"java/util/Arrays", "fill", "([II)V"⟩, none, 2)
def qmt : List QRow := [qr_0, qr_1, qr_2, qr_3, qr_4, qr_5, qr_6, qr_7, qr_8, qr_9, qr_10, qr_11, qr_12, qr_13, qr_14, qr_15, qr_16, qr_17, qr_18, qr_19, qr_20, qr_21, qr_22, qr_23, qr_24, qr_25, qr_26, qr_27, qr_28, qr_29, qr_30, qr_31, qr_32, qr_33, qr_34, qr_35, qr_36, qr_37, qr_38, qr_39, qr_40, qr_41, qr_42, qr_43, qr_44, qr_45, qr_46, qr_47, qr_48, qr_49, qr_50, qr_51, qr_52, qr_53, qr_54, qr_55, qr_56, qr_57, qr_58, qr_59, qr_60, qr_61, qr_62, qr_63, qr_64, qr_65, qr_66, qr_67, qr_68, qr_69, qr_70, qr_71, qr_72, qr_73, qr_74, qr_75, qr_76, qr_77, qr_78, qr_79, qr_80, qr_81, qr_82, qr_83, qr_84, qr_85, qr_86, qr_87, qr_88, qr_89, qr_90, qr_91, qr_92, qr_93, qr_94, qr_95, qr_96, qr_97, qr_98, qr_99, qr_100, qr_101, qr_102, qr_103, qr_104, qr_105, qr_106, qr_107, qr_108, qr_109, qr_110, qr_111, qr_112, qr_113, qr_114, qr_115, qr_116, qr_117, qr_118, qr_119, qr_120, qr_121, qr_122, qr_123, qr_124, qr_125, qr_126, qr_127, qr_128, qr_129, qr_130, qr_131, qr_132, qr_133, qr_134, qr_135, qr_136, qr_137, qr_138, qr_139, qr_140, qr_141, qr_142, qr_143, qr_144, qr_145, qr_146, qr_147, qr_148, qr_149, qr_150, qr_151, qr_152, qr_153, qr_154, qr_155, qr_156, qr_157, qr_158]
set_option maxRecDepth 20000 in
theorem qi_0 : Cond.code qr_0.2.2.2.1 qr_0.2.1 qr_0.2.2.1 qr_0.2.2.2.2.1 ∈ lw_tbl := List.mem_of_getElem? (i := 791) rfl
set_option maxRecDepth 20000 in
theorem qi_1 : Cond.code qr_1.2.2.2.1 qr_1.2.1 qr_1.2.2.1 qr_1.2.2.2.2.1 ∈ lw_tbl := List.mem_of_getElem? (i := 796) rfl
set_option maxRecDepth 20000 in
theorem qi_2 : Cond.code qr_2.2.2.2.1 qr_2.2.1 qr_2.2.2.1 qr_2.2.2.2.2.1 ∈ lw_tbl := List.mem_of_getElem? (i := 802) rfl
set_option maxRecDepth 20000 in
theorem qi_3 : Cond.code qr_3.2.2.2.1 qr_3.2.1 qr_3.2.2.1 qr_3.2.2.2.2.1 ∈ lw_tbl := List.mem_of_getElem? (i := 806) rfl
set_option maxRecDepth 20000 in
theorem qi_4 : Cond.code qr_4.2.2.2.1 qr_4.2.1 qr_4.2.2.1 qr_4.2.2.2.2.1 ∈ lw_tbl := List.mem_of_getElem? (i := 744) rfl
set_option maxRecDepth 20000 in
theorem qi_5 : Cond.code qr_5.2.2.2.1 qr_5.2.1 qr_5.2.2.1 qr_5.2.2.2.2.1 ∈ lw_tbl := List.mem_of_getElem? (i := 756) rfl
set_option maxRecDepth 20000 in
theorem qi_6 : Cond.code qr_6.2.2.2.1 qr_6.2.1 qr_6.2.2.1 qr_6.2.2.2.2.1 ∈ lw_tbl := List.mem_of_getElem? (i := 763) rfl
set_option maxRecDepth 20000 in
theorem qi_7 : Cond.code qr_7.2.2.2.1 qr_7.2.1 qr_7.2.2.1 qr_7.2.2.2.2.1 ∈ lw_tbl := List.mem_of_getElem? (i := 812) rfl
set_option maxRecDepth 20000 in
theorem qi_8 : Cond.code qr_8.2.2.2.1 qr_8.2.1 qr_8.2.2.1 qr_8.2.2.2.2.1 ∈ lw_tbl := List.mem_of_getElem? (i := 392) rfl
set_option maxRecDepth 20000 in
theorem qi_9 : Cond.code qr_9.2.2.2.1 qr_9.2.1 qr_9.2.2.1 qr_9.2.2.2.2.1 ∈ lw_tbl := List.mem_of_getElem? (i := 404) rfl
set_option maxRecDepth 20000 in
theorem qi_10 : Cond.code qr_10.2.2.2.1 qr_10.2.1 qr_10.2.2.1 qr_10.2.2.2.2.1 ∈ lw_tbl := List.mem_of_getElem? (i := 409) rfl
set_option maxRecDepth 20000 in
theorem qi_11 : Cond.code qr_11.2.2.2.1 qr_11.2.1 qr_11.2.2.1 qr_11.2.2.2.2.1 ∈ lw_tbl := List.mem_of_getElem? (i := 412) rfl
set_option maxRecDepth 20000 in
theorem qi_12 : Cond.code qr_12.2.2.2.1 qr_12.2.1 qr_12.2.2.1 qr_12.2.2.2.2.1 ∈ lw_tbl := List.mem_of_getElem? (i := 416) rfl
set_option maxRecDepth 20000 in
theorem qi_13 : Cond.code qr_13.2.2.2.1 qr_13.2.1 qr_13.2.2.1 qr_13.2.2.2.2.1 ∈ lw_tbl := List.mem_of_getElem? (i := 421) rfl
set_option maxRecDepth 20000 in
theorem qi_14 : Cond.code qr_14.2.2.2.1 qr_14.2.1 qr_14.2.2.1 qr_14.2.2.2.2.1 ∈ lw_tbl := List.mem_of_getElem? (i := 477) rfl
set_option maxRecDepth 20000 in
theorem qi_15 : Cond.code qr_15.2.2.2.1 qr_15.2.1 qr_15.2.2.1 qr_15.2.2.2.2.1 ∈ lw_tbl := List.mem_of_getElem? (i := 481) rfl
set_option maxRecDepth 20000 in
theorem qi_16 : Cond.code qr_16.2.2.2.1 qr_16.2.1 qr_16.2.2.1 qr_16.2.2.2.2.1 ∈ lw_tbl := List.mem_of_getElem? (i := 488) rfl
set_option maxRecDepth 20000 in
theorem qi_17 : Cond.code qr_17.2.2.2.1 qr_17.2.1 qr_17.2.2.1 qr_17.2.2.2.2.1 ∈ lw_tbl := List.mem_of_getElem? (i := 492) rfl
set_option maxRecDepth 20000 in
theorem qi_18 : Cond.code qr_18.2.2.2.1 qr_18.2.1 qr_18.2.2.1 qr_18.2.2.2.2.1 ∈ lw_tbl := List.mem_of_getElem? (i := 496) rfl
set_option maxRecDepth 20000 in
theorem qi_19 : Cond.code qr_19.2.2.2.1 qr_19.2.1 qr_19.2.2.1 qr_19.2.2.2.2.1 ∈ lw_tbl := List.mem_of_getElem? (i := 506) rfl
set_option maxRecDepth 20000 in
theorem qi_20 : Cond.code qr_20.2.2.2.1 qr_20.2.1 qr_20.2.2.1 qr_20.2.2.2.2.1 ∈ lw_tbl := List.mem_of_getElem? (i := 510) rfl
set_option maxRecDepth 20000 in
theorem qi_21 : Cond.code qr_21.2.2.2.1 qr_21.2.1 qr_21.2.2.1 qr_21.2.2.2.2.1 ∈ lw_tbl := List.mem_of_getElem? (i := 514) rfl
set_option maxRecDepth 20000 in
theorem qi_22 : Cond.code qr_22.2.2.2.1 qr_22.2.1 qr_22.2.2.1 qr_22.2.2.2.2.1 ∈ lw_tbl := List.mem_of_getElem? (i := 518) rfl
set_option maxRecDepth 20000 in
theorem qi_23 : Cond.code qr_23.2.2.2.1 qr_23.2.1 qr_23.2.2.1 qr_23.2.2.2.2.1 ∈ lw_tbl := List.mem_of_getElem? (i := 189) rfl
set_option maxRecDepth 20000 in
theorem qi_24 : Cond.code qr_24.2.2.2.1 qr_24.2.1 qr_24.2.2.1 qr_24.2.2.2.2.1 ∈ lw_tbl := List.mem_of_getElem? (i := 196) rfl
set_option maxRecDepth 20000 in
theorem qi_25 : Cond.code qr_25.2.2.2.1 qr_25.2.1 qr_25.2.2.1 qr_25.2.2.2.2.1 ∈ lw_tbl := List.mem_of_getElem? (i := 204) rfl
set_option maxRecDepth 20000 in
theorem qi_26 : Cond.code qr_26.2.2.2.1 qr_26.2.1 qr_26.2.2.1 qr_26.2.2.2.2.1 ∈ lw_tbl := List.mem_of_getElem? (i := 208) rfl
set_option maxRecDepth 20000 in
theorem qi_27 : Cond.code qr_27.2.2.2.1 qr_27.2.1 qr_27.2.2.1 qr_27.2.2.2.2.1 ∈ lw_tbl := List.mem_of_getElem? (i := 212) rfl
set_option maxRecDepth 20000 in
theorem qi_28 : Cond.code qr_28.2.2.2.1 qr_28.2.1 qr_28.2.2.1 qr_28.2.2.2.2.1 ∈ lw_tbl := List.mem_of_getElem? (i := 216) rfl
set_option maxRecDepth 20000 in
theorem qi_29 : Cond.code qr_29.2.2.2.1 qr_29.2.1 qr_29.2.2.1 qr_29.2.2.2.2.1 ∈ lw_tbl := List.mem_of_getElem? (i := 220) rfl
set_option maxRecDepth 20000 in
theorem qi_30 : Cond.code qr_30.2.2.2.1 qr_30.2.1 qr_30.2.2.1 qr_30.2.2.2.2.1 ∈ lw_tbl := List.mem_of_getElem? (i := 223) rfl
set_option maxRecDepth 20000 in
theorem qi_31 : Cond.code qr_31.2.2.2.1 qr_31.2.1 qr_31.2.2.1 qr_31.2.2.2.2.1 ∈ lw_tbl := List.mem_of_getElem? (i := 502) rfl
set_option maxRecDepth 20000 in
theorem qi_32 : Cond.code qr_32.2.2.2.1 qr_32.2.1 qr_32.2.2.1 qr_32.2.2.2.2.1 ∈ lw_tbl := List.mem_of_getElem? (i := 549) rfl
set_option maxRecDepth 20000 in
theorem qi_33 : Cond.code qr_33.2.2.2.1 qr_33.2.1 qr_33.2.2.1 qr_33.2.2.2.2.1 ∈ lw_tbl := List.mem_of_getElem? (i := 562) rfl
set_option maxRecDepth 20000 in
theorem qi_34 : Cond.code qr_34.2.2.2.1 qr_34.2.1 qr_34.2.2.1 qr_34.2.2.2.2.1 ∈ lw_tbl := List.mem_of_getElem? (i := 566) rfl
set_option maxRecDepth 20000 in
theorem qi_35 : Cond.code qr_35.2.2.2.1 qr_35.2.1 qr_35.2.2.1 qr_35.2.2.2.2.1 ∈ lw_tbl := List.mem_of_getElem? (i := 570) rfl
set_option maxRecDepth 20000 in
theorem qi_36 : Cond.code qr_36.2.2.2.1 qr_36.2.1 qr_36.2.2.1 qr_36.2.2.2.2.1 ∈ lw_tbl := List.mem_of_getElem? (i := 703) rfl
set_option maxRecDepth 20000 in
theorem qi_37 : Cond.code qr_37.2.2.2.1 qr_37.2.1 qr_37.2.2.1 qr_37.2.2.2.2.1 ∈ lw_tbl := List.mem_of_getElem? (i := 707) rfl
set_option maxRecDepth 20000 in
theorem qi_38 : Cond.code qr_38.2.2.2.1 qr_38.2.1 qr_38.2.2.1 qr_38.2.2.2.2.1 ∈ lw_tbl := List.mem_of_getElem? (i := 776) rfl
set_option maxRecDepth 20000 in
theorem qi_39 : Cond.code qr_39.2.2.2.1 qr_39.2.1 qr_39.2.2.1 qr_39.2.2.2.2.1 ∈ lw_tbl := List.mem_of_getElem? (i := 845) rfl
set_option maxRecDepth 20000 in
theorem qi_40 : Cond.code qr_40.2.2.2.1 qr_40.2.1 qr_40.2.2.1 qr_40.2.2.2.2.1 ∈ lw_tbl := List.mem_of_getElem? (i := 523) rfl
set_option maxRecDepth 20000 in
theorem qi_41 : Cond.code qr_41.2.2.2.1 qr_41.2.1 qr_41.2.2.1 qr_41.2.2.2.2.1 ∈ lw_tbl := List.mem_of_getElem? (i := 554) rfl
set_option maxRecDepth 20000 in
theorem qi_42 : Cond.code qr_42.2.2.2.1 qr_42.2.1 qr_42.2.2.1 qr_42.2.2.2.2.1 ∈ lw_tbl := List.mem_of_getElem? (i := 558) rfl
set_option maxRecDepth 20000 in
theorem qi_43 : Cond.code qr_43.2.2.2.1 qr_43.2.1 qr_43.2.2.1 qr_43.2.2.2.2.1 ∈ lw_tbl := List.mem_of_getElem? (i := 574) rfl
set_option maxRecDepth 20000 in
theorem qi_44 : Cond.code qr_44.2.2.2.1 qr_44.2.1 qr_44.2.2.1 qr_44.2.2.2.2.1 ∈ lw_tbl := List.mem_of_getElem? (i := 582) rfl
set_option maxRecDepth 20000 in
theorem qi_45 : Cond.code qr_45.2.2.2.1 qr_45.2.1 qr_45.2.2.1 qr_45.2.2.2.2.1 ∈ lw_tbl := List.mem_of_getElem? (i := 830) rfl
set_option maxRecDepth 20000 in
theorem qi_46 : Cond.code qr_46.2.2.2.1 qr_46.2.1 qr_46.2.2.1 qr_46.2.2.2.2.1 ∈ lw_tbl := List.mem_of_getElem? (i := 818) rfl
set_option maxRecDepth 20000 in
theorem qi_47 : Cond.code qr_47.2.2.2.1 qr_47.2.1 qr_47.2.2.1 qr_47.2.2.2.2.1 ∈ lw_tbl := List.mem_of_getElem? (i := 605) rfl
set_option maxRecDepth 20000 in
theorem qi_48 : Cond.code qr_48.2.2.2.1 qr_48.2.1 qr_48.2.2.1 qr_48.2.2.2.2.1 ∈ lw_tbl := List.mem_of_getElem? (i := 610) rfl
set_option maxRecDepth 20000 in
theorem qi_49 : Cond.code qr_49.2.2.2.1 qr_49.2.1 qr_49.2.2.1 qr_49.2.2.2.2.1 ∈ lw_tbl := List.mem_of_getElem? (i := 625) rfl
set_option maxRecDepth 20000 in
theorem qi_50 : Cond.code qr_50.2.2.2.1 qr_50.2.1 qr_50.2.2.1 qr_50.2.2.2.2.1 ∈ lw_tbl := List.mem_of_getElem? (i := 632) rfl
set_option maxRecDepth 20000 in
theorem qi_51 : Cond.code qr_51.2.2.2.1 qr_51.2.1 qr_51.2.2.1 qr_51.2.2.2.2.1 ∈ lw_tbl := List.mem_of_getElem? (i := 637) rfl
set_option maxRecDepth 20000 in
theorem qi_52 : Cond.code qr_52.2.2.2.1 qr_52.2.1 qr_52.2.2.1 qr_52.2.2.2.2.1 ∈ lw_tbl := List.mem_of_getElem? (i := 643) rfl
set_option maxRecDepth 20000 in
theorem qi_53 : Cond.code qr_53.2.2.2.1 qr_53.2.1 qr_53.2.2.1 qr_53.2.2.2.2.1 ∈ lw_tbl := List.mem_of_getElem? (i := 647) rfl
set_option maxRecDepth 20000 in
theorem qi_54 : Cond.code qr_54.2.2.2.1 qr_54.2.1 qr_54.2.2.1 qr_54.2.2.2.2.1 ∈ lw_tbl := List.mem_of_getElem? (i := 651) rfl
set_option maxRecDepth 20000 in
theorem qi_55 : Cond.code qr_55.2.2.2.1 qr_55.2.1 qr_55.2.2.1 qr_55.2.2.2.2.1 ∈ lw_tbl := List.mem_of_getElem? (i := 654) rfl
set_option maxRecDepth 20000 in
theorem qi_56 : Cond.code qr_56.2.2.2.1 qr_56.2.1 qr_56.2.2.1 qr_56.2.2.2.2.1 ∈ lw_tbl := List.mem_of_getElem? (i := 658) rfl
set_option maxRecDepth 20000 in
theorem qi_57 : Cond.code qr_57.2.2.2.1 qr_57.2.1 qr_57.2.2.1 qr_57.2.2.2.2.1 ∈ lw_tbl := List.mem_of_getElem? (i := 663) rfl
set_option maxRecDepth 20000 in
theorem qi_58 : Cond.code qr_58.2.2.2.1 qr_58.2.1 qr_58.2.2.1 qr_58.2.2.2.2.1 ∈ lw_tbl := List.mem_of_getElem? (i := 673) rfl
set_option maxRecDepth 20000 in
theorem qi_59 : Cond.code qr_59.2.2.2.1 qr_59.2.1 qr_59.2.2.1 qr_59.2.2.2.2.1 ∈ lw_tbl := List.mem_of_getElem? (i := 678) rfl
set_option maxRecDepth 20000 in
theorem qi_60 : Cond.code qr_60.2.2.2.1 qr_60.2.1 qr_60.2.2.1 qr_60.2.2.2.2.1 ∈ lw_tbl := List.mem_of_getElem? (i := 683) rfl
set_option maxRecDepth 20000 in
theorem qi_61 : Cond.code qr_61.2.2.2.1 qr_61.2.1 qr_61.2.2.1 qr_61.2.2.2.2.1 ∈ lw_tbl := List.mem_of_getElem? (i := 687) rfl
set_option maxRecDepth 20000 in
theorem qi_62 : Cond.code qr_62.2.2.2.1 qr_62.2.1 qr_62.2.2.1 qr_62.2.2.2.2.1 ∈ lw_tbl := List.mem_of_getElem? (i := 691) rfl
set_option maxRecDepth 20000 in
theorem qi_63 : Cond.code qr_63.2.2.2.1 qr_63.2.1 qr_63.2.2.1 qr_63.2.2.2.2.1 ∈ lw_tbl := List.mem_of_getElem? (i := 731) rfl
set_option maxRecDepth 20000 in
theorem qi_64 : Cond.code qr_64.2.2.2.1 qr_64.2.1 qr_64.2.2.1 qr_64.2.2.2.2.1 ∈ lw_tbl := List.mem_of_getElem? (i := 736) rfl
set_option maxRecDepth 20000 in
theorem qi_65 : Cond.code qr_65.2.2.2.1 qr_65.2.1 qr_65.2.2.1 qr_65.2.2.2.2.1 ∈ lw_tbl := List.mem_of_getElem? (i := 772) rfl
set_option maxRecDepth 20000 in
theorem qi_66 : Cond.code qr_66.2.2.2.1 qr_66.2.1 qr_66.2.2.1 qr_66.2.2.2.2.1 ∈ lw_tbl := List.mem_of_getElem? (i := 780) rfl
set_option maxRecDepth 20000 in
theorem qi_67 : Cond.code qr_67.2.2.2.1 qr_67.2.1 qr_67.2.2.1 qr_67.2.2.2.2.1 ∈ lw_tbl := List.mem_of_getElem? (i := 388) rfl
set_option maxRecDepth 20000 in
theorem qi_68 : Cond.code qr_68.2.2.2.1 qr_68.2.1 qr_68.2.2.1 qr_68.2.2.2.2.1 ∈ lw_tbl := List.mem_of_getElem? (i := 396) rfl
set_option maxRecDepth 20000 in
theorem qi_69 : Cond.code qr_69.2.2.2.1 qr_69.2.1 qr_69.2.2.1 qr_69.2.2.2.2.1 ∈ lw_tbl := List.mem_of_getElem? (i := 400) rfl
set_option maxRecDepth 20000 in
theorem qi_70 : Cond.code qr_70.2.2.2.1 qr_70.2.1 qr_70.2.2.1 qr_70.2.2.2.2.1 ∈ lw_tbl := List.mem_of_getElem? (i := 527) rfl
set_option maxRecDepth 20000 in
theorem qi_71 : Cond.code qr_71.2.2.2.1 qr_71.2.1 qr_71.2.2.1 qr_71.2.2.2.2.1 ∈ lw_tbl := List.mem_of_getElem? (i := 533) rfl
set_option maxRecDepth 20000 in
theorem qi_72 : Cond.code qr_72.2.2.2.1 qr_72.2.1 qr_72.2.2.1 qr_72.2.2.2.2.1 ∈ lw_tbl := List.mem_of_getElem? (i := 537) rfl
set_option maxRecDepth 20000 in
theorem qi_73 : Cond.code qr_73.2.2.2.1 qr_73.2.1 qr_73.2.2.1 qr_73.2.2.2.2.1 ∈ lw_tbl := List.mem_of_getElem? (i := 542) rfl
set_option maxRecDepth 20000 in
theorem qi_74 : Cond.code qr_74.2.2.2.1 qr_74.2.1 qr_74.2.2.1 qr_74.2.2.2.2.1 ∈ lw_tbl := List.mem_of_getElem? (i := 545) rfl
set_option maxRecDepth 20000 in
theorem qi_75 : Cond.code qr_75.2.2.2.1 qr_75.2.1 qr_75.2.2.1 qr_75.2.2.2.2.1 ∈ lw_tbl := List.mem_of_getElem? (i := 578) rfl
set_option maxRecDepth 20000 in
theorem qi_76 : Cond.code qr_76.2.2.2.1 qr_76.2.1 qr_76.2.2.1 qr_76.2.2.2.2.1 ∈ lw_tbl := List.mem_of_getElem? (i := 586) rfl
set_option maxRecDepth 20000 in
theorem qi_77 : Cond.code qr_77.2.2.2.1 qr_77.2.1 qr_77.2.2.1 qr_77.2.2.2.2.1 ∈ lw_tbl := List.mem_of_getElem? (i := 590) rfl
set_option maxRecDepth 20000 in
theorem qi_78 : Cond.code qr_78.2.2.2.1 qr_78.2.1 qr_78.2.2.1 qr_78.2.2.2.2.1 ∈ lw_tbl := List.mem_of_getElem? (i := 593) rfl
set_option maxRecDepth 20000 in
theorem qi_79 : Cond.code qr_79.2.2.2.1 qr_79.2.1 qr_79.2.2.1 qr_79.2.2.2.2.1 ∈ lw_tbl := List.mem_of_getElem? (i := 597) rfl
set_option maxRecDepth 20000 in
theorem qi_80 : Cond.code qr_80.2.2.2.1 qr_80.2.1 qr_80.2.2.1 qr_80.2.2.2.2.1 ∈ lw_tbl := List.mem_of_getElem? (i := 600) rfl
set_option maxRecDepth 20000 in
theorem qi_81 : Cond.code qr_81.2.2.2.1 qr_81.2.1 qr_81.2.2.1 qr_81.2.2.2.2.1 ∈ lw_tbl := List.mem_of_getElem? (i := 617) rfl
set_option maxRecDepth 20000 in
theorem qi_82 : Cond.code qr_82.2.2.2.1 qr_82.2.1 qr_82.2.2.1 qr_82.2.2.2.2.1 ∈ lw_tbl := List.mem_of_getElem? (i := 621) rfl
set_option maxRecDepth 20000 in
theorem qi_83 : Cond.code qr_83.2.2.2.1 qr_83.2.1 qr_83.2.2.1 qr_83.2.2.2.2.1 ∈ lw_tbl := List.mem_of_getElem? (i := 667) rfl
set_option maxRecDepth 20000 in
theorem qi_84 : Cond.code qr_84.2.2.2.1 qr_84.2.1 qr_84.2.2.1 qr_84.2.2.2.2.1 ∈ lw_tbl := List.mem_of_getElem? (i := 695) rfl
set_option maxRecDepth 20000 in
theorem qi_85 : Cond.code qr_85.2.2.2.1 qr_85.2.1 qr_85.2.2.1 qr_85.2.2.2.2.1 ∈ lw_tbl := List.mem_of_getElem? (i := 699) rfl
set_option maxRecDepth 20000 in
theorem qi_86 : Cond.code qr_86.2.2.2.1 qr_86.2.1 qr_86.2.2.1 qr_86.2.2.2.2.1 ∈ lw_tbl := List.mem_of_getElem? (i := 710) rfl
set_option maxRecDepth 20000 in
theorem qi_87 : Cond.code qr_87.2.2.2.1 qr_87.2.1 qr_87.2.2.1 qr_87.2.2.2.2.1 ∈ lw_tbl := List.mem_of_getElem? (i := 716) rfl
set_option maxRecDepth 20000 in
theorem qi_88 : Cond.code qr_88.2.2.2.1 qr_88.2.1 qr_88.2.2.1 qr_88.2.2.2.2.1 ∈ lw_tbl := List.mem_of_getElem? (i := 720) rfl
set_option maxRecDepth 20000 in
theorem qi_89 : Cond.code qr_89.2.2.2.1 qr_89.2.1 qr_89.2.2.1 qr_89.2.2.2.2.1 ∈ lw_tbl := List.mem_of_getElem? (i := 740) rfl
set_option maxRecDepth 20000 in
theorem qi_90 : Cond.code qr_90.2.2.2.1 qr_90.2.1 qr_90.2.2.1 qr_90.2.2.2.2.1 ∈ lw_tbl := List.mem_of_getElem? (i := 748) rfl
set_option maxRecDepth 20000 in
theorem qi_91 : Cond.code qr_91.2.2.2.1 qr_91.2.1 qr_91.2.2.1 qr_91.2.2.2.2.1 ∈ lw_tbl := List.mem_of_getElem? (i := 752) rfl
set_option maxRecDepth 20000 in
theorem qi_92 : Cond.code qr_92.2.2.2.1 qr_92.2.1 qr_92.2.2.1 qr_92.2.2.2.2.1 ∈ lw_tbl := List.mem_of_getElem? (i := 768) rfl
set_option maxRecDepth 20000 in
theorem qi_93 : Cond.code qr_93.2.2.2.1 qr_93.2.1 qr_93.2.2.1 qr_93.2.2.2.2.1 ∈ lw_tbl := List.mem_of_getElem? (i := 784) rfl
set_option maxRecDepth 20000 in
theorem qi_94 : Cond.code qr_94.2.2.2.1 qr_94.2.1 qr_94.2.2.1 qr_94.2.2.2.2.1 ∈ lw_tbl := List.mem_of_getElem? (i := 823) rfl
set_option maxRecDepth 20000 in
theorem qi_95 : Cond.code qr_95.2.2.2.1 qr_95.2.1 qr_95.2.2.1 qr_95.2.2.2.2.1 ∈ lw_tbl := List.mem_of_getElem? (i := 826) rfl
set_option maxRecDepth 20000 in
theorem qi_96 : Cond.code qr_96.2.2.2.1 qr_96.2.1 qr_96.2.2.1 qr_96.2.2.2.2.1 ∈ lw_tbl := List.mem_of_getElem? (i := 837) rfl
set_option maxRecDepth 20000 in
theorem qi_97 : Cond.code qr_97.2.2.2.1 qr_97.2.1 qr_97.2.2.1 qr_97.2.2.2.2.1 ∈ lw_tbl := List.mem_of_getElem? (i := 841) rfl
set_option maxRecDepth 20000 in
theorem qi_98 : Cond.code qr_98.2.2.2.1 qr_98.2.1 qr_98.2.2.1 qr_98.2.2.2.2.1 ∈ lw_tbl := List.mem_of_getElem? (i := 849) rfl
set_option maxRecDepth 20000 in
theorem qi_99 : Cond.code qr_99.2.2.2.1 qr_99.2.1 qr_99.2.2.1 qr_99.2.2.2.2.1 ∈ lw_tbl := List.mem_of_getElem? (i := 965) rfl
set_option maxRecDepth 20000 in
theorem qi_100 : Cond.code qr_100.2.2.2.1 qr_100.2.1 qr_100.2.2.1 qr_100.2.2.2.2.1 ∈ lw_tbl := List.mem_of_getElem? (i := 969) rfl
set_option maxRecDepth 20000 in
theorem qi_101 : Cond.code qr_101.2.2.2.1 qr_101.2.1 qr_101.2.2.1 qr_101.2.2.2.2.1 ∈ lw_tbl := List.mem_of_getElem? (i := 974) rfl
set_option maxRecDepth 20000 in
theorem qi_102 : Cond.code qr_102.2.2.2.1 qr_102.2.1 qr_102.2.2.1 qr_102.2.2.2.2.1 ∈ lw_tbl := List.mem_of_getElem? (i := 978) rfl
set_option maxRecDepth 20000 in
theorem qi_103 : Cond.code qr_103.2.2.2.1 qr_103.2.1 qr_103.2.2.1 qr_103.2.2.2.2.1 ∈ lw_tbl := List.mem_of_getElem? (i := 982) rfl
set_option maxRecDepth 20000 in
theorem qi_104 : Cond.code qr_104.2.2.2.1 qr_104.2.1 qr_104.2.2.1 qr_104.2.2.2.2.1 ∈ lw_tbl := List.mem_of_getElem? (i := 986) rfl
set_option maxRecDepth 20000 in
theorem qi_105 : Cond.code qr_105.2.2.2.1 qr_105.2.1 qr_105.2.2.1 qr_105.2.2.2.2.1 ∈ lw_tbl := List.mem_of_getElem? (i := 990) rfl
set_option maxRecDepth 20000 in
theorem qi_106 : Cond.code qr_106.2.2.2.1 qr_106.2.1 qr_106.2.2.1 qr_106.2.2.2.2.1 ∈ lw_tbl := List.mem_of_getElem? (i := 999) rfl
set_option maxRecDepth 20000 in
theorem qi_107 : Cond.code qr_107.2.2.2.1 qr_107.2.1 qr_107.2.2.1 qr_107.2.2.2.2.1 ∈ lw_tbl := List.mem_of_getElem? (i := 1004) rfl
set_option maxRecDepth 20000 in
theorem qi_108 : Cond.code qr_108.2.2.2.1 qr_108.2.1 qr_108.2.2.1 qr_108.2.2.2.2.1 ∈ lw_tbl := List.mem_of_getElem? (i := 1010) rfl
set_option maxRecDepth 20000 in
theorem qi_109 : Cond.code qr_109.2.2.2.1 qr_109.2.1 qr_109.2.2.1 qr_109.2.2.2.2.1 ∈ lw_tbl := List.mem_of_getElem? (i := 1013) rfl
set_option maxRecDepth 20000 in
theorem qi_110 : Cond.code qr_110.2.2.2.1 qr_110.2.1 qr_110.2.2.1 qr_110.2.2.2.2.1 ∈ lw_tbl := List.mem_of_getElem? (i := 1018) rfl
set_option maxRecDepth 20000 in
theorem qi_111 : Cond.code qr_111.2.2.2.1 qr_111.2.1 qr_111.2.2.1 qr_111.2.2.2.2.1 ∈ lw_tbl := List.mem_of_getElem? (i := 1024) rfl
set_option maxRecDepth 20000 in
theorem qi_112 : Cond.code qr_112.2.2.2.1 qr_112.2.1 qr_112.2.2.1 qr_112.2.2.2.2.1 ∈ lw_tbl := List.mem_of_getElem? (i := 1028) rfl
set_option maxRecDepth 20000 in
theorem qi_113 : Cond.code qr_113.2.2.2.1 qr_113.2.1 qr_113.2.2.1 qr_113.2.2.2.2.1 ∈ lw_tbl := List.mem_of_getElem? (i := 1032) rfl
set_option maxRecDepth 20000 in
theorem qi_114 : Cond.code qr_114.2.2.2.1 qr_114.2.1 qr_114.2.2.1 qr_114.2.2.2.2.1 ∈ lw_tbl := List.mem_of_getElem? (i := 1036) rfl
set_option maxRecDepth 20000 in
theorem qi_115 : Cond.code qr_115.2.2.2.1 qr_115.2.1 qr_115.2.2.1 qr_115.2.2.2.2.1 ∈ lw_tbl := List.mem_of_getElem? (i := 1040) rfl
set_option maxRecDepth 20000 in
theorem qi_116 : Cond.code qr_116.2.2.2.1 qr_116.2.1 qr_116.2.2.1 qr_116.2.2.2.2.1 ∈ lw_tbl := List.mem_of_getElem? (i := 1044) rfl
set_option maxRecDepth 20000 in
theorem qi_117 : Cond.code qr_117.2.2.2.1 qr_117.2.1 qr_117.2.2.1 qr_117.2.2.2.2.1 ∈ lw_tbl := List.mem_of_getElem? (i := 1049) rfl
set_option maxRecDepth 20000 in
theorem qi_118 : Cond.code qr_118.2.2.2.1 qr_118.2.1 qr_118.2.2.1 qr_118.2.2.2.2.1 ∈ lw_tbl := List.mem_of_getElem? (i := 1053) rfl
set_option maxRecDepth 20000 in
theorem qi_119 : Cond.code qr_119.2.2.2.1 qr_119.2.1 qr_119.2.2.1 qr_119.2.2.2.2.1 ∈ lw_tbl := List.mem_of_getElem? (i := 1057) rfl
set_option maxRecDepth 20000 in
theorem qi_120 : Cond.code qr_120.2.2.2.1 qr_120.2.1 qr_120.2.2.1 qr_120.2.2.2.2.1 ∈ lw_tbl := List.mem_of_getElem? (i := 1061) rfl
set_option maxRecDepth 20000 in
theorem qi_121 : Cond.code qr_121.2.2.2.1 qr_121.2.1 qr_121.2.2.1 qr_121.2.2.2.2.1 ∈ lw_tbl := List.mem_of_getElem? (i := 1065) rfl
set_option maxRecDepth 20000 in
theorem qi_122 : Cond.code qr_122.2.2.2.1 qr_122.2.1 qr_122.2.2.1 qr_122.2.2.2.2.1 ∈ lw_tbl := List.mem_of_getElem? (i := 1069) rfl
set_option maxRecDepth 20000 in
theorem qi_123 : Cond.code qr_123.2.2.2.1 qr_123.2.1 qr_123.2.2.1 qr_123.2.2.2.2.1 ∈ lw_tbl := List.mem_of_getElem? (i := 1073) rfl
set_option maxRecDepth 20000 in
theorem qi_124 : Cond.code qr_124.2.2.2.1 qr_124.2.1 qr_124.2.2.1 qr_124.2.2.2.2.1 ∈ lw_tbl := List.mem_of_getElem? (i := 1077) rfl
set_option maxRecDepth 20000 in
theorem qi_125 : Cond.code qr_125.2.2.2.1 qr_125.2.1 qr_125.2.2.1 qr_125.2.2.2.2.1 ∈ lw_tbl := List.mem_of_getElem? (i := 1083) rfl
set_option maxRecDepth 20000 in
theorem qi_126 : Cond.code qr_126.2.2.2.1 qr_126.2.1 qr_126.2.2.1 qr_126.2.2.2.2.1 ∈ lw_tbl := List.mem_of_getElem? (i := 1087) rfl
set_option maxRecDepth 20000 in
theorem qi_127 : Cond.code qr_127.2.2.2.1 qr_127.2.1 qr_127.2.2.1 qr_127.2.2.2.2.1 ∈ lw_tbl := List.mem_of_getElem? (i := 1091) rfl
set_option maxRecDepth 20000 in
theorem qi_128 : Cond.code qr_128.2.2.2.1 qr_128.2.1 qr_128.2.2.1 qr_128.2.2.2.2.1 ∈ lw_tbl := List.mem_of_getElem? (i := 1096) rfl
set_option maxRecDepth 20000 in
theorem qi_129 : Cond.code qr_129.2.2.2.1 qr_129.2.1 qr_129.2.2.1 qr_129.2.2.2.2.1 ∈ lw_tbl := List.mem_of_getElem? (i := 1100) rfl
set_option maxRecDepth 20000 in
theorem qi_130 : Cond.code qr_130.2.2.2.1 qr_130.2.1 qr_130.2.2.1 qr_130.2.2.2.2.1 ∈ lw_tbl := List.mem_of_getElem? (i := 1104) rfl
set_option maxRecDepth 20000 in
theorem qi_131 : Cond.code qr_131.2.2.2.1 qr_131.2.1 qr_131.2.2.1 qr_131.2.2.2.2.1 ∈ lw_tbl := List.mem_of_getElem? (i := 1108) rfl
set_option maxRecDepth 20000 in
theorem qi_132 : Cond.code qr_132.2.2.2.1 qr_132.2.1 qr_132.2.2.1 qr_132.2.2.2.2.1 ∈ lw_tbl := List.mem_of_getElem? (i := 1112) rfl
set_option maxRecDepth 20000 in
theorem qi_133 : Cond.code qr_133.2.2.2.1 qr_133.2.1 qr_133.2.2.1 qr_133.2.2.2.2.1 ∈ lw_tbl := List.mem_of_getElem? (i := 1116) rfl
set_option maxRecDepth 20000 in
theorem qi_134 : Cond.code qr_134.2.2.2.1 qr_134.2.1 qr_134.2.2.1 qr_134.2.2.2.2.1 ∈ lw_tbl := List.mem_of_getElem? (i := 1120) rfl
set_option maxRecDepth 20000 in
theorem qi_135 : Cond.code qr_135.2.2.2.1 qr_135.2.1 qr_135.2.2.1 qr_135.2.2.2.2.1 ∈ lw_tbl := List.mem_of_getElem? (i := 1124) rfl
set_option maxRecDepth 20000 in
theorem qi_136 : Cond.code qr_136.2.2.2.1 qr_136.2.1 qr_136.2.2.1 qr_136.2.2.2.2.1 ∈ lw_tbl := List.mem_of_getElem? (i := 1127) rfl
set_option maxRecDepth 20000 in
theorem qi_137 : Cond.code qr_137.2.2.2.1 qr_137.2.1 qr_137.2.2.1 qr_137.2.2.2.2.1 ∈ lw_tbl := List.mem_of_getElem? (i := 1131) rfl
set_option maxRecDepth 20000 in
theorem qi_138 : Cond.code qr_138.2.2.2.1 qr_138.2.1 qr_138.2.2.1 qr_138.2.2.2.2.1 ∈ lw_tbl := List.mem_of_getElem? (i := 1135) rfl
set_option maxRecDepth 20000 in
theorem qi_139 : Cond.code qr_139.2.2.2.1 qr_139.2.1 qr_139.2.2.1 qr_139.2.2.2.2.1 ∈ lw_tbl := List.mem_of_getElem? (i := 1139) rfl
set_option maxRecDepth 20000 in
theorem qi_140 : Cond.code qr_140.2.2.2.1 qr_140.2.1 qr_140.2.2.1 qr_140.2.2.2.2.1 ∈ lw_tbl := List.mem_of_getElem? (i := 1143) rfl
set_option maxRecDepth 20000 in
theorem qi_141 : Cond.code qr_141.2.2.2.1 qr_141.2.1 qr_141.2.2.1 qr_141.2.2.2.2.1 ∈ lw_tbl := List.mem_of_getElem? (i := 1147) rfl
set_option maxRecDepth 20000 in
theorem qi_142 : Cond.code qr_142.2.2.2.1 qr_142.2.1 qr_142.2.2.1 qr_142.2.2.2.2.1 ∈ lw_tbl := List.mem_of_getElem? (i := 1151) rfl
set_option maxRecDepth 20000 in
theorem qi_143 : Cond.code qr_143.2.2.2.1 qr_143.2.1 qr_143.2.2.1 qr_143.2.2.2.2.1 ∈ lw_tbl := List.mem_of_getElem? (i := 1161) rfl
set_option maxRecDepth 20000 in
theorem qi_144 : Cond.code qr_144.2.2.2.1 qr_144.2.1 qr_144.2.2.1 qr_144.2.2.2.2.1 ∈ lw_tbl := List.mem_of_getElem? (i := 1165) rfl
set_option maxRecDepth 20000 in
theorem qi_145 : Cond.code qr_145.2.2.2.1 qr_145.2.1 qr_145.2.2.1 qr_145.2.2.2.2.1 ∈ lw_tbl := List.mem_of_getElem? (i := 1169) rfl
set_option maxRecDepth 20000 in
theorem qi_146 : Cond.code qr_146.2.2.2.1 qr_146.2.1 qr_146.2.2.1 qr_146.2.2.2.2.1 ∈ lw_tbl := List.mem_of_getElem? (i := 1173) rfl
set_option maxRecDepth 20000 in
theorem qi_147 : Cond.code qr_147.2.2.2.1 qr_147.2.1 qr_147.2.2.1 qr_147.2.2.2.2.1 ∈ lw_tbl := List.mem_of_getElem? (i := 1177) rfl
set_option maxRecDepth 20000 in
theorem qi_148 : Cond.code qr_148.2.2.2.1 qr_148.2.1 qr_148.2.2.1 qr_148.2.2.2.2.1 ∈ lw_tbl := List.mem_of_getElem? (i := 425) rfl
set_option maxRecDepth 20000 in
theorem qi_149 : Cond.code qr_149.2.2.2.1 qr_149.2.1 qr_149.2.2.1 qr_149.2.2.2.2.1 ∈ lw_tbl := List.mem_of_getElem? (i := 429) rfl
set_option maxRecDepth 20000 in
theorem qi_150 : Cond.code qr_150.2.2.2.1 qr_150.2.1 qr_150.2.2.1 qr_150.2.2.2.2.1 ∈ lw_tbl := List.mem_of_getElem? (i := 435) rfl
set_option maxRecDepth 20000 in
theorem qi_151 : Cond.code qr_151.2.2.2.1 qr_151.2.1 qr_151.2.2.1 qr_151.2.2.2.2.1 ∈ lw_tbl := List.mem_of_getElem? (i := 439) rfl
set_option maxRecDepth 20000 in
theorem qi_152 : Cond.code qr_152.2.2.2.1 qr_152.2.1 qr_152.2.2.1 qr_152.2.2.2.2.1 ∈ lw_tbl := List.mem_of_getElem? (i := 445) rfl
set_option maxRecDepth 20000 in
theorem qi_153 : Cond.code qr_153.2.2.2.1 qr_153.2.1 qr_153.2.2.1 qr_153.2.2.2.2.1 ∈ lw_tbl := List.mem_of_getElem? (i := 442) rfl
set_option maxRecDepth 20000 in
theorem qi_154 : Cond.code qr_154.2.2.2.1 qr_154.2.1 qr_154.2.2.1 qr_154.2.2.2.2.1 ∈ lw_tbl := List.mem_of_getElem? (i := 450) rfl
set_option maxRecDepth 20000 in
theorem qi_155 : Cond.code qr_155.2.2.2.1 qr_155.2.1 qr_155.2.2.1 qr_155.2.2.2.2.1 ∈ lw_tbl := List.mem_of_getElem? (i := 484) rfl
set_option maxRecDepth 20000 in
theorem qi_156 : Cond.code qr_156.2.2.2.1 qr_156.2.1 qr_156.2.2.1 qr_156.2.2.2.2.1 ∈ lw_tbl := List.mem_of_getElem? (i := 817) rfl
set_option maxRecDepth 20000 in
theorem qi_157 : Cond.code qr_157.2.2.2.1 qr_157.2.1 qr_157.2.2.1 qr_157.2.2.2.2.1 ∈ lw_tbl := List.mem_of_getElem? (i := 724) rfl
set_option maxRecDepth 20000 in
theorem qi_158 : Cond.code qr_158.2.2.2.1 qr_158.2.1 qr_158.2.2.1 qr_158.2.2.2.2.1 ∈ lw_tbl := List.mem_of_getElem? (i := 192) rfl
theorem qic_0 : ∀ r ∈ ([qr_0, qr_1, qr_2, qr_3, qr_4, qr_5, qr_6, qr_7, qr_8, qr_9, qr_10, qr_11, qr_12, qr_13, qr_14, qr_15, qr_16, qr_17, qr_18, qr_19] : List QRow), Cond.code r.2.2.2.1 r.2.1 r.2.2.1 r.2.2.2.2.1 ∈ lw_tbl := (List.forall_mem_cons.mpr ⟨qi_0, (List.forall_mem_cons.mpr ⟨qi_1, (List.forall_mem_cons.mpr ⟨qi_2, (List.forall_mem_cons.mpr ⟨qi_3, (List.forall_mem_cons.mpr ⟨qi_4, (List.forall_mem_cons.mpr ⟨qi_5, (List.forall_mem_cons.mpr ⟨qi_6, (List.forall_mem_cons.mpr ⟨qi_7, (List.forall_mem_cons.mpr ⟨qi_8, (List.forall_mem_cons.mpr ⟨qi_9, (List.forall_mem_cons.mpr ⟨qi_10, (List.forall_mem_cons.mpr ⟨qi_11, (List.forall_mem_cons.mpr ⟨qi_12, (List.forall_mem_cons.mpr ⟨qi_13, (List.forall_mem_cons.mpr ⟨qi_14, (List.forall_mem_cons.mpr ⟨qi_15, (List.forall_mem_cons.mpr ⟨qi_16, (List.forall_mem_cons.mpr ⟨qi_17, (List.forall_mem_cons.mpr ⟨qi_18, (List.forall_mem_cons.mpr ⟨qi_19, (fun _ h => absurd h List.not_mem_nil)⟩)⟩)⟩)⟩)⟩)⟩)⟩)⟩)⟩)⟩)⟩)⟩)⟩)⟩)⟩)⟩)⟩)⟩)⟩)⟩)
theorem qic_1 : ∀ r ∈ ([qr_20, qr_21, qr_22, qr_23, qr_24, qr_25, qr_26, qr_27, qr_28, qr_29, qr_30, qr_31, qr_32, qr_33, qr_34, qr_35, qr_36, qr_37, qr_38, qr_39] : List QRow), Cond.code r.2.2.2.1 r.2.1 r.2.2.1 r.2.2.2.2.1 ∈ lw_tbl := (List.forall_mem_cons.mpr ⟨qi_20, (List.forall_mem_cons.mpr ⟨qi_21, (List.forall_mem_cons.mpr ⟨qi_22, (List.forall_mem_cons.mpr ⟨qi_23, (List.forall_mem_cons.mpr ⟨qi_24, (List.forall_mem_cons.mpr ⟨qi_25, (List.forall_mem_cons.mpr ⟨qi_26, (List.forall_mem_cons.mpr ⟨qi_27, (List.forall_mem_cons.mpr ⟨qi_28, (List.forall_mem_cons.mpr ⟨qi_29, (List.forall_mem_cons.mpr ⟨qi_30, (List.forall_mem_cons.mpr ⟨qi_31, (List.forall_mem_cons.mpr ⟨qi_32, (List.forall_mem_cons.mpr ⟨qi_33, (List.forall_mem_cons.mpr ⟨qi_34, (List.forall_mem_cons.mpr ⟨qi_35, (List.forall_mem_cons.mpr ⟨qi_36, (List.forall_mem_cons.mpr ⟨qi_37, (List.forall_mem_cons.mpr ⟨qi_38, (List.forall_mem_cons.mpr ⟨qi_39, (fun _ h => absurd h List.not_mem_nil)⟩)⟩)⟩)⟩)⟩)⟩)⟩)⟩)⟩)⟩)⟩)⟩)⟩)⟩)⟩)⟩)⟩)⟩)⟩)⟩)
theorem qic_2 : ∀ r ∈ ([qr_40, qr_41, qr_42, qr_43, qr_44, qr_45, qr_46, qr_47, qr_48, qr_49, qr_50, qr_51, qr_52, qr_53, qr_54, qr_55, qr_56, qr_57, qr_58, qr_59] : List QRow), Cond.code r.2.2.2.1 r.2.1 r.2.2.1 r.2.2.2.2.1 ∈ lw_tbl := (List.forall_mem_cons.mpr ⟨qi_40, (List.forall_mem_cons.mpr ⟨qi_41, (List.forall_mem_cons.mpr ⟨qi_42, (List.forall_mem_cons.mpr ⟨qi_43, (List.forall_mem_cons.mpr ⟨qi_44, (List.forall_mem_cons.mpr ⟨qi_45, (List.forall_mem_cons.mpr ⟨qi_46, (List.forall_mem_cons.mpr ⟨qi_47, (List.forall_mem_cons.mpr ⟨qi_48, (List.forall_mem_cons.mpr ⟨qi_49, (List.forall_mem_cons.mpr ⟨qi_50, (List.forall_mem_cons.mpr ⟨qi_51, (List.forall_mem_cons.mpr ⟨qi_52, (List.forall_mem_cons.mpr ⟨qi_53, (List.forall_mem_cons.mpr ⟨qi_54, (List.forall_mem_cons.mpr ⟨qi_55, (List.forall_mem_cons.mpr ⟨qi_56, (List.forall_mem_cons.mpr ⟨qi_57, (List.forall_mem_cons.mpr ⟨qi_58, (List.forall_mem_cons.mpr ⟨qi_59, (fun _ h => absurd h List.not_mem_nil)⟩)⟩)⟩)⟩)⟩)⟩)⟩)⟩)⟩)⟩)⟩)⟩)⟩)⟩)⟩)⟩)⟩)⟩)⟩)⟩)
theorem qic_3 : ∀ r ∈ ([qr_60, qr_61, qr_62, qr_63, qr_64, qr_65, qr_66, qr_67, qr_68, qr_69, qr_70, qr_71, qr_72, qr_73, qr_74, qr_75, qr_76, qr_77, qr_78, qr_79] : List QRow), Cond.code r.2.2.2.1 r.2.1 r.2.2.1 r.2.2.2.2.1 ∈ lw_tbl := (List.forall_mem_cons.mpr ⟨qi_60, (List.forall_mem_cons.mpr ⟨qi_61, (List.forall_mem_cons.mpr ⟨qi_62, (List.forall_mem_cons.mpr ⟨qi_63, (List.forall_mem_cons.mpr ⟨qi_64, (List.forall_mem_cons.mpr ⟨qi_65, (List.forall_mem_cons.mpr ⟨qi_66, (List.forall_mem_cons.mpr ⟨qi_67, (List.forall_mem_cons.mpr ⟨qi_68, (List.forall_mem_cons.mpr ⟨qi_69, (List.forall_mem_cons.mpr ⟨qi_70, (List.forall_mem_cons.mpr ⟨qi_71, (List.forall_mem_cons.mpr ⟨qi_72, (List.forall_mem_cons.mpr ⟨qi_73, (List.forall_mem_cons.mpr ⟨qi_74, (List.forall_mem_cons.mpr ⟨qi_75, (List.forall_mem_cons.mpr ⟨qi_76, (List.forall_mem_cons.mpr ⟨qi_77, (List.forall_mem_cons.mpr ⟨qi_78, (List.forall_mem_cons.mpr ⟨qi_79, (fun _ h => absurd h List.not_mem_nil)⟩)⟩)⟩)⟩)⟩)⟩)⟩)⟩)⟩)⟩)⟩)⟩)⟩)⟩)⟩)⟩)⟩)⟩)⟩)⟩)
theorem qic_4 : ∀ r ∈ ([qr_80, qr_81, qr_82, qr_83, qr_84, qr_85, qr_86, qr_87, qr_88, qr_89, qr_90, qr_91, qr_92, qr_93, qr_94, qr_95, qr_96, qr_97, qr_98, qr_99] : List QRow), Cond.code r.2.2.2.1 r.2.1 r.2.2.1 r.2.2.2.2.1 ∈ lw_tbl := (List.forall_mem_cons.mpr ⟨qi_80, (List.forall_mem_cons.mpr ⟨qi_81, (List.forall_mem_cons.mpr ⟨qi_82, (List.forall_mem_cons.mpr ⟨qi_83, (List.forall_mem_cons.mpr ⟨qi_84, (List.forall_mem_cons.mpr ⟨qi_85, (List.forall_mem_cons.mpr ⟨qi_86, (List.forall_mem_cons.mpr ⟨qi_87, (List.forall_mem_cons.mpr ⟨qi_88, (List.forall_mem_cons.mpr ⟨qi_89, (List.forall_mem_cons.mpr ⟨qi_90, (List.forall_mem_cons.mpr ⟨qi_91, (List.forall_mem_cons.mpr ⟨qi_92, (List.forall_mem_cons.mpr ⟨qi_93, (List.forall_mem_cons.mpr ⟨qi_94, (List.forall_mem_cons.mpr ⟨qi_95, (List.forall_mem_cons.mpr ⟨qi_96, (List.forall_mem_cons.mpr ⟨qi_97, (List.forall_mem_cons.mpr ⟨qi_98, (List.forall_mem_cons.mpr ⟨qi_99, (fun _ h => absurd h List.not_mem_nil)⟩)⟩)⟩)⟩)⟩)⟩)⟩)⟩)⟩)⟩)⟩)⟩)⟩)⟩)⟩)⟩)⟩)⟩)⟩)⟩)
theorem qic_5 : ∀ r ∈ ([qr_100, qr_101, qr_102, qr_103, qr_104, qr_105, qr_106, qr_107, qr_108, qr_109, qr_110, qr_111, qr_112, qr_113, qr_114, qr_115, qr_116, qr_117, qr_118, qr_119] : List QRow), Cond.code r.2.2.2.1 r.2.1 r.2.2.1 r.2.2.2.2.1 ∈ lw_tbl := (List.forall_mem_cons.mpr ⟨qi_100, (List.forall_mem_cons.mpr ⟨qi_101, (List.forall_mem_cons.mpr ⟨qi_102, (List.forall_mem_cons.mpr ⟨qi_103, (List.forall_mem_cons.mpr ⟨qi_104, (List.forall_mem_cons.mpr ⟨qi_105, (List.forall_mem_cons.mpr ⟨qi_106, (List.forall_mem_cons.mpr ⟨qi_107, (List.forall_mem_cons.mpr ⟨qi_108, (List.forall_mem_cons.mpr ⟨qi_109, (List.forall_mem_cons.mpr ⟨qi_110, (List.forall_mem_cons.mpr ⟨qi_111, (List.forall_mem_cons.mpr ⟨qi_112, (List.forall_mem_cons.mpr ⟨qi_113, (List.forall_mem_cons.mpr ⟨qi_114, (List.forall_mem_cons.mpr ⟨qi_115, (List.forall_mem_cons.mpr ⟨qi_116, (List.forall_mem_cons.mpr ⟨qi_117, (List.forall_mem_cons.mpr ⟨qi_118, (List.forall_mem_cons.mpr ⟨qi_119, (fun _ h => absurd h List.not_mem_nil)⟩)⟩)⟩)⟩)⟩)⟩)⟩)⟩)⟩)⟩)⟩)⟩)⟩)⟩)⟩)⟩)⟩)⟩)⟩)⟩)
theorem qic_6 : ∀ r ∈ ([qr_120, qr_121, qr_122, qr_123, qr_124, qr_125, qr_126, qr_127, qr_128, qr_129, qr_130, qr_131, qr_132, qr_133, qr_134, qr_135, qr_136, qr_137, qr_138, qr_139] : List QRow), Cond.code r.2.2.2.1 r.2.1 r.2.2.1 r.2.2.2.2.1 ∈ lw_tbl := (List.forall_mem_cons.mpr ⟨qi_120, (List.forall_mem_cons.mpr ⟨qi_121, (List.forall_mem_cons.mpr ⟨qi_122, (List.forall_mem_cons.mpr ⟨qi_123, (List.forall_mem_cons.mpr ⟨qi_124, (List.forall_mem_cons.mpr ⟨qi_125, (List.forall_mem_cons.mpr ⟨qi_126, (List.forall_mem_cons.mpr ⟨qi_127, (List.forall_mem_cons.mpr ⟨qi_128, (List.forall_mem_cons.mpr ⟨qi_129, (List.forall_mem_cons.mpr ⟨qi_130, (List.forall_mem_cons.mpr ⟨qi_131, (List.forall_mem_cons.mpr ⟨qi_132, (List.forall_mem_cons.mpr ⟨qi_133, (List.forall_mem_cons.mpr ⟨qi_134, (List.forall_mem_cons.mpr ⟨qi_135, (List.forall_mem_cons.mpr ⟨qi_136, (List.forall_mem_cons.mpr ⟨qi_137, (List.forall_mem_cons.mpr ⟨qi_138, (List.forall_mem_cons.mpr ⟨qi_139, (fun _ h => absurd h List.not_mem_nil)⟩)⟩)⟩)⟩)⟩)⟩)⟩)⟩)⟩)⟩)⟩)⟩)⟩)⟩)⟩)⟩)⟩)⟩)⟩)⟩)
theorem qic_7 : ∀ r ∈ ([qr_140, qr_141, qr_142, qr_143, qr_144, qr_145, qr_146, qr_147, qr_148, qr_149, qr_150, qr_151, qr_152, qr_153, qr_154, qr_155, qr_156, qr_157, qr_158] : List QRow), Cond.code r.2.2.2.1 r.2.1 r.2.2.1 r.2.2.2.2.1 ∈ lw_tbl := (List.forall_mem_cons.mpr ⟨qi_140, (List.forall_mem_cons.mpr ⟨qi_141, (List.forall_mem_cons.mpr ⟨qi_142, (List.forall_mem_cons.mpr ⟨qi_143, (List.forall_mem_cons.mpr ⟨qi_144, (List.forall_mem_cons.mpr ⟨qi_145, (List.forall_mem_cons.mpr ⟨qi_146, (List.forall_mem_cons.mpr ⟨qi_147, (List.forall_mem_cons.mpr ⟨qi_148, (List.forall_mem_cons.mpr ⟨qi_149, (List.forall_mem_cons.mpr ⟨qi_150, (List.forall_mem_cons.mpr ⟨qi_151, (List.forall_mem_cons.mpr ⟨qi_152, (List.forall_mem_cons.mpr ⟨qi_153, (List.forall_mem_cons.mpr ⟨qi_154, (List.forall_mem_cons.mpr ⟨qi_155, (List.forall_mem_cons.mpr ⟨qi_156, (List.forall_mem_cons.mpr ⟨qi_157, (List.forall_mem_cons.mpr ⟨qi_158, (fun _ h => absurd h List.not_mem_nil)⟩)⟩)⟩)⟩)⟩)⟩)⟩)⟩)⟩)⟩)⟩)⟩)⟩)⟩)⟩)⟩)⟩)⟩)⟩)
theorem qmt_in : ∀ r ∈ qmt, Cond.code r.2.2.2.1 r.2.1 r.2.2.1 r.2.2.2.2.1 ∈ lw_tbl := by
  show ∀ r ∈ ([qr_0, qr_1, qr_2, qr_3, qr_4, qr_5, qr_6, qr_7, qr_8, qr_9, qr_10, qr_11, qr_12, qr_13, qr_14, qr_15, qr_16, qr_17, qr_18, qr_19] ++ ([qr_20, qr_21, qr_22, qr_23, qr_24, qr_25, qr_26, qr_27, qr_28, qr_29, qr_30, qr_31, qr_32, qr_33, qr_34, qr_35, qr_36, qr_37, qr_38, qr_39] ++ ([qr_40, qr_41, qr_42, qr_43, qr_44, qr_45, qr_46, qr_47, qr_48, qr_49, qr_50, qr_51, qr_52, qr_53, qr_54, qr_55, qr_56, qr_57, qr_58, qr_59] ++ ([qr_60, qr_61, qr_62, qr_63, qr_64, qr_65, qr_66, qr_67, qr_68, qr_69, qr_70, qr_71, qr_72, qr_73, qr_74, qr_75, qr_76, qr_77, qr_78, qr_79] ++ ([qr_80, qr_81, qr_82, qr_83, qr_84, qr_85, qr_86, qr_87, qr_88, qr_89, qr_90, qr_91, qr_92, qr_93, qr_94, qr_95, qr_96, qr_97, qr_98, qr_99] ++ ([qr_100, qr_101, qr_102, qr_103, qr_104, qr_105, qr_106, qr_107, qr_108, qr_109, qr_110, qr_111, qr_112, qr_113, qr_114, qr_115, qr_116, qr_117, qr_118, qr_119] ++ ([qr_120, qr_121, qr_122, qr_123, qr_124, qr_125, qr_126, qr_127, qr_128, qr_129, qr_130, qr_131, qr_132, qr_133, qr_134, qr_135, qr_136, qr_137, qr_138, qr_139] ++ ([qr_140, qr_141, qr_142, qr_143, qr_144, qr_145, qr_146, qr_147, qr_148, qr_149, qr_150, qr_151, qr_152, qr_153, qr_154, qr_155, qr_156, qr_157, qr_158]))))))) : List QRow), Cond.code r.2.2.2.1 r.2.1 r.2.2.1 r.2.2.2.2.1 ∈ lw_tbl
  exact List.forall_mem_append.mpr ⟨qic_0, List.forall_mem_append.mpr ⟨qic_1, List.forall_mem_append.mpr ⟨qic_2, List.forall_mem_append.mpr ⟨qic_3, List.forall_mem_append.mpr ⟨qic_4, List.forall_mem_append.mpr ⟨qic_5, List.forall_mem_append.mpr ⟨qic_6, qic_7⟩⟩⟩⟩⟩⟩⟩
/-- a call, by the caller's class and the pool's entry: 0 virtual, 1 static, 2 static of a nest mate, 3 super, 4 by the receiver's kind, 5 arraycopy; and the method -/
def qct : List ((Nat × Nat) × (Nat × Nat)) := [((0, 15), (3, 46)), ((1, 15), (3, 46)), ((1, 23), (0, 42)), ((2, 15), (3, 3)), ((3, 15), (3, 46)), ((4, 28), (0, 49)), ((4, 34), (0, 59)), ((4, 39), (1, 155)), ((5, 15), (3, 1)), ((5, 29), (1, 156)), ((6, 19), (0, 23)), ((6, 37), (0, 10)), ((6, 43), (0, 16)), ((6, 47), (0, 18)), ((6, 51), (0, 19)), ((6, 54), (0, 20)), ((6, 57), (0, 21)), ((6, 60), (0, 22)), ((6, 67), (0, 17)), ((6, 80), (0, 25)), ((6, 84), (0, 29)), ((6, 88), (0, 31)), ((6, 107), (1, 11)), ((6, 111), (0, 12)), ((6, 114), (1, 14)), ((6, 117), (0, 15)), ((6, 122), (0, 13)), ((6, 135), (0, 148)), ((6, 140), (0, 150)), ((6, 144), (1, 155)), ((7, 47), (1, 158)), ((7, 59), (0, 25)), ((7, 63), (0, 26)), ((7, 67), (0, 28)), ((7, 71), (1, 30)), ((7, 74), (0, 27)), ((7, 77), (0, 29)), ((7, 81), (2, 74)), ((7, 84), (2, 86)), ((7, 88), (0, 32)), ((7, 91), (0, 37)), ((7, 94), (0, 34)), ((8, 38), (5, 0)), ((10, 51), (0, 35)), ((10, 56), (0, 32)), ((10, 60), (0, 33)), ((10, 65), (1, 158)), ((10, 71), (0, 28)), ((10, 75), (0, 50)), ((10, 79), (0, 26)), ((10, 82), (0, 51)), ((10, 86), (0, 34)), ((10, 89), (0, 52)), ((10, 92), (1, 155)), ((10, 97), (0, 53)), ((10, 101), (1, 54)), ((10, 104), (0, 49)), ((10, 108), (0, 59)), ((10, 111), (0, 57)), ((10, 114), (0, 61)), ((10, 117), (0, 62)), ((10, 120), (2, 86)), ((10, 124), (0, 64)), ((10, 127), (0, 38)), ((10, 130), (0, 66)), ((11, 81), (0, 8)), ((11, 89), (0, 9)), ((11, 93), (0, 24)), ((11, 96), (0, 40)), ((11, 106), (0, 27)), ((11, 110), (0, 29)), ((11, 129), (0, 26)), ((11, 135), (1, 74)), ((11, 138), (0, 32)), ((11, 145), (0, 41)), ((11, 149), (0, 42)), ((11, 152), (0, 33)), ((11, 156), (0, 35)), ((11, 160), (0, 43)), ((11, 164), (0, 44)), ((11, 170), (1, 78)), ((11, 173), (1, 80)), ((11, 176), (0, 47)), ((11, 180), (0, 48)), ((11, 183), (0, 82)), ((11, 187), (0, 49)), ((11, 191), (0, 53)), ((11, 195), (1, 54)), ((11, 198), (1, 55)), ((11, 201), (0, 56)), ((11, 205), (1, 155)), ((11, 210), (0, 58)), ((11, 213), (0, 60)), ((11, 217), (0, 36)), ((11, 220), (1, 86)), ((11, 223), (0, 88)), ((11, 226), (0, 63)), ((11, 229), (0, 4)), ((11, 231), (0, 5)), ((11, 235), (0, 28)), ((11, 238), (0, 6)), ((11, 242), (0, 65)), ((11, 245), (4, 46)), ((11, 249), (1, 95)), ((11, 252), (0, 45)), ((11, 262), (0, 39)), ((11, 266), (1, 157)), ((12, 72), (1, 100)), ((12, 76), (0, 112)), ((12, 83), (1, 109)), ((12, 100), (0, 103)), ((12, 108), (1, 107)), ((12, 123), (0, 106)), ((12, 138), (0, 105)), ((12, 151), (0, 108)), ((12, 157), (0, 110)), ((12, 164), (0, 104)), ((12, 179), (0, 119)), ((12, 182), (0, 115)), ((12, 187), (0, 117)), ((12, 190), (0, 118)), ((12, 194), (0, 120)), ((12, 203), (0, 128)), ((12, 206), (0, 129)), ((12, 210), (0, 126)), ((12, 213), (0, 127)), ((12, 217), (0, 130)), ((12, 220), (0, 132)), ((12, 223), (1, 136)), ((12, 226), (0, 137)), ((12, 244), (0, 144)), ((13, 335), (0, 149)), ((13, 492), (0, 151)), ((13, 495), (1, 153)), ((13, 1059), (1, 154)), ((14, 9), (1, 152))]
def qcp : List (List Nat) := [[793, 788, 342, 786, 49], [798, 788, 321, 786, 49], [799, 556, 557, 44], [804, 1179, 328, 805, 50], [808, 788, 314, 786, 49], [757, 623, 624, 46], [758, 676, 677, 46], [764, 483, 60], [814, 1180, 335, 795, 51], [815, 816, 60], [405, 187, 188, 47], [406, 408, 0, 43], [485, 487, 4, 43], [493, 495, 6, 43], [503, 505, 7, 43], [507, 509, 8, 43], [511, 513, 9, 43], [515, 517, 10, 43], [489, 491, 5, 43], [497, 202, 203, 47], [498, 218, 219, 47], [499, 500, 501, 47], [410, 411, 43], [413, 415, 1, 43], [475, 476, 43], [478, 480, 3, 43], [418, 420, 2, 43], [422, 423, 424, 56], [432, 433, 434, 56], [482, 483, 60], [190, 191, 48], [201, 202, 203, 47], [205, 206, 207, 47], [213, 214, 215, 47], [221, 222, 47], [209, 210, 211, 47], [217, 218, 219, 47], [0, 544, 42], [0, 709, 42], [711, 547, 548, 47], [704, 705, 706, 47], [563, 564, 565, 47], [], [606, 568, 569, 47], [612, 547, 548, 47], [613, 560, 561, 47], [627, 191, 48], [628, 214, 215, 47], [629, 631, 12, 46], [633, 206, 207, 47], [634, 636, 13, 46], [639, 564, 565, 47], [640, 642, 14, 46], [638, 483, 60], [659, 645, 646, 46], [679, 650, 46], [674, 623, 624, 46], [675, 676, 677, 46], [660, 662, 15, 46], [684, 686, 16, 46], [688, 690, 17, 46], [0, 709, 42], [733, 735, 19, 46], [773, 774, 775, 47], [777, 779, 20, 46], [389, 390, 391, 43], [401, 402, 403, 43], [519, 194, 195, 47], [520, 521, 522, 44], [528, 210, 211, 47], [529, 218, 219, 47], [538, 206, 207, 47], [543, 544, 42], [546, 547, 548, 47], [551, 552, 553, 44], [555, 556, 557, 44], [559, 560, 561, 47], [567, 568, 569, 47], [571, 572, 573, 44], [579, 580, 581, 44], [591, 592, 42], [598, 599, 42], [602, 603, 604, 46], [607, 608, 609, 46], [618, 620, 11, 42], [622, 623, 624, 46], [644, 645, 646, 46], [649, 650, 46], [652, 653, 46], [655, 656, 657, 46], [669, 483, 60], [670, 671, 672, 46], [680, 681, 682, 46], [700, 701, 702, 47], [712, 709, 42], [717, 719, 18, 42], [728, 729, 730, 46], [741, 742, 743, 45], [753, 754, 755, 45], [721, 214, 215, 47], [760, 761, 762, 45], [769, 770, 771, 46], [785, 788, 786], [824, 825, 42], [827, 828, 829, 44], [842, 843, 844, 47], [722, 723, 61], [967, 968, 55], [1025, 1027, 27, 55], [1011, 1012, 55], [979, 981, 21, 55], [1002, 1003, 55], [996, 998, 24, 55], [987, 989, 23, 55], [1007, 1009, 25, 55], [1015, 1017, 26, 55], [983, 985, 22, 55], [1054, 1056, 31, 55], [1037, 1039, 28, 55], [1046, 1048, 29, 55], [1050, 1052, 30, 55], [1058, 1060, 32, 55], [1093, 1095, 35, 55], [1097, 1099, 36, 55], [1084, 1086, 33, 55], [1088, 1090, 34, 55], [1101, 1103, 37, 55], [1109, 1111, 38, 55], [1125, 1126, 55], [1128, 1130, 39, 55], [1162, 1164, 40, 55], [426, 427, 428, 56], [436, 437, 438, 56], [440, 441, 57], [448, 449, 58], [443, 444, 56]]
def qdt : List (Nat × Nat) := [(0, 0), (1, 1), (2, 2), (3, 3), (5, 7), (9, 46)]
/-- a field: its class, its place, whether a nest mate's -/
def qft : List ((Nat × Nat) × (Nat × Nat × Nat)) := [((0, 7), (11, 9, 1)), ((0, 19), (11, 4, 1)), ((0, 23), (4, 0, 0)), ((1, 7), (11, 9, 1)), ((1, 19), (11, 1, 1)), ((2, 7), (11, 9, 1)), ((3, 7), (11, 9, 1)), ((3, 19), (11, 1, 1)), ((3, 23), (8, 2, 0)), ((4, 9), (4, 0, 0)), ((4, 15), (4, 1, 0)), ((4, 19), (4, 2, 0)), ((4, 22), (4, 3, 0)), ((4, 25), (4, 4, 0)), ((5, 7), (11, 9, 1)), ((5, 19), (11, 1, 1)), ((5, 23), (8, 0, 0)), ((6, 9), (6, 0, 0)), ((6, 15), (6, 1, 0)), ((6, 24), (6, 2, 0)), ((6, 27), (6, 6, 0)), ((6, 31), (6, 7, 0)), ((6, 34), (6, 8, 0)), ((6, 40), (6, 4, 0)), ((6, 64), (6, 3, 0)), ((6, 71), (6, 5, 0)), ((6, 74), (7, 0, 0)), ((6, 77), (7, 1, 0)), ((6, 92), (7, 2, 0)), ((6, 95), (7, 3, 0)), ((6, 98), (7, 4, 0)), ((6, 101), (7, 5, 0)), ((6, 104), (7, 6, 0)), ((7, 9), (7, 7, 0)), ((7, 15), (7, 8, 0)), ((7, 24), (7, 0, 0)), ((7, 28), (7, 1, 0)), ((7, 31), (7, 2, 0)), ((7, 34), (7, 3, 0)), ((7, 37), (7, 4, 0)), ((7, 40), (7, 5, 0)), ((7, 44), (7, 6, 0)), ((8, 9), (8, 0, 0)), ((8, 15), (8, 1, 0)), ((8, 18), (8, 2, 0)), ((8, 21), (8, 3, 0)), ((8, 25), (8, 4, 0)), ((8, 29), (8, 5, 0)), ((8, 32), (8, 6, 0)), ((8, 35), (8, 7, 0)), ((9, 7), (11, 9, 1)), ((9, 13), (11, 1, 1)), ((9, 17), (8, 1, 0)), ((10, 12), (10, 0, 0)), ((10, 18), (10, 1, 0)), ((10, 22), (10, 2, 0)), ((10, 26), (10, 3, 0)), ((10, 30), (10, 4, 0)), ((10, 33), (10, 5, 0)), ((10, 36), (10, 6, 0)), ((10, 39), (10, 7, 0)), ((10, 42), (10, 8, 0)), ((10, 45), (10, 9, 0)), ((10, 48), (10, 10, 0)), ((11, 12), (11, 0, 0)), ((11, 19), (11, 1, 0)), ((11, 23), (11, 2, 0)), ((11, 27), (11, 3, 0)), ((11, 34), (11, 4, 0)), ((11, 40), (11, 5, 0)), ((11, 47), (11, 6, 0)), ((11, 54), (11, 7, 0)), ((11, 58), (11, 8, 0)), ((11, 61), (11, 9, 0)), ((11, 85), (6, 0, 0)), ((11, 99), (8, 3, 0)), ((11, 103), (4, 0, 0)), ((11, 114), (7, 2, 0)), ((11, 117), (7, 3, 0)), ((11, 120), (7, 4, 0)), ((11, 123), (7, 5, 0)), ((11, 126), (7, 6, 0)), ((11, 132), (8, 0, 0)), ((11, 142), (8, 2, 0)), ((11, 167), (8, 1, 0)), ((11, 256), (7, 0, 0)), ((11, 259), (7, 1, 0)), ((12, 7), (12, 0, 0)), ((12, 13), (12, 1, 0)), ((12, 16), (12, 4, 0)), ((12, 19), (12, 5, 0)), ((12, 22), (12, 6, 0)), ((12, 25), (12, 9, 0)), ((12, 29), (12, 11, 0)), ((12, 32), (12, 12, 0)), ((12, 36), (12, 14, 0)), ((12, 39), (12, 15, 0)), ((12, 42), (12, 21, 0)), ((12, 45), (12, 26, 0)), ((12, 48), (12, 27, 0)), ((12, 51), (12, 28, 0)), ((12, 54), (12, 29, 0)), ((12, 57), (12, 30, 0)), ((12, 60), (12, 31, 0)), ((12, 63), (12, 32, 0)), ((12, 66), (12, 33, 0)), ((12, 69), (12, 34, 0)), ((12, 80), (12, 2, 0)), ((12, 89), (12, 10, 0)), ((12, 94), (12, 24, 0)), ((12, 97), (12, 25, 0)), ((12, 120), (12, 17, 0)), ((12, 126), (12, 18, 0)), ((12, 129), (12, 19, 0)), ((12, 132), (12, 20, 0)), ((12, 135), (12, 22, 0)), ((12, 144), (12, 23, 0)), ((12, 167), (12, 3, 0)), ((12, 170), (12, 7, 0)), ((12, 173), (12, 8, 0)), ((12, 176), (12, 13, 0)), ((12, 229), (12, 16, 0)), ((13, 9), (13, 0, 0)), ((13, 15), (13, 1, 0))]
def qst : List ((Nat × Nat) × Value) := [((7, 53), .ref 1000), ((7, 56), .ref 1001), ((13, 38), .int 1), ((13, 1053), .ref 1030)]
def qci : List ((Nat × Nat) × Int32) := [((4, 38), 1073741824), ((10, 55), 99999999), ((10, 64), 1073741824), ((11, 194), 1073741824), ((11, 204), 1073741823), ((11, 248), -1000000), ((11, 265), 999999999), ((12, 202), 100000000), ((12, 243), -1000000), ((17, 265), 1431655765), ((17, 266), 858993459), ((17, 267), 252645135)]
def qcj : List ((Nat × Nat) × Int64) := [((0, 13), 100000), ((1, 13), 100), ((2, 13), 1000), ((3, 13), 10), ((5, 13), 10000), ((12, 87), 8), ((12, 92), 255), ((12, 104), 48), ((12, 106), 57), ((12, 112), 97), ((12, 114), 122), ((12, 116), 32), ((12, 118), 96), ((12, 142), 671470), ((12, 147), 8902245), ((12, 149), 5638647), ((12, 155), 20536), ((12, 160), 150636933), ((12, 162), 8441477), ((12, 185), 3), ((12, 198), 444444444), ((12, 200), 4), ((12, 233), 11), ((12, 235), 101), ((12, 237), 1011), ((12, 239), 10101), ((12, 241), 100001)]
def qcs : List ((Nat × Nat) × Nat) := [((6, 120), 0), ((6, 126), 1), ((6, 128), 2), ((6, 130), 3), ((6, 132), 4), ((6, 134), 5)]
def q_tyf : Nat → Nat → FieldType := fun ci => match ci with
  | 0 => tyX0
  | 1 => tyX1
  | 2 => tyX2
  | 3 => tyX3
  | 4 => tyX4
  | 5 => tyX5
  | 6 => tyX6
  | 7 => tyX7
  | 8 => tyX8
  | 9 => tyX9
  | 10 => tyX10
  | 11 => tyX11
  | 12 => tyX12
  | _ => fun _ => .int
def qstx : List String := ["town", "house", "elbow", "tax", "double", "haste"]
def qsix : List Nat := [120, 126, 128, 130, 132, 134]
def qsln : List Nat := [4, 5, 5, 3, 6, 5]
def qsby : List (List Int32) := [[116, 111, 119, 110], [104, 111, 117, 115, 101], [101, 108, 98, 111, 119], [116, 97, 120], [100, 111, 117, 98, 108, 101], [104, 97, 115, 116, 101]]
def qnest : List Cond := [(Jvm.Cond.fieldLinkNest "StraightTax$Beggar" (7 : Nat) "StraightTax" "marks" "J" "StraightTax"), (Jvm.Cond.fieldLinkNest "StraightTax$Beggar" (19 : Nat) "StraightTax" "errands" "LStraightTax$Errands;" "StraightTax"), (Jvm.Cond.fieldLinkNest "StraightTax$Courtier" (7 : Nat) "StraightTax" "marks" "J" "StraightTax"), (Jvm.Cond.fieldLinkNest "StraightTax$Courtier" (19 : Nat) "StraightTax" "now" "LStraightTax$Walk;" "StraightTax"), (Jvm.Cond.fieldLinkNest "StraightTax$Dancer" (7 : Nat) "StraightTax" "marks" "J" "StraightTax"), (Jvm.Cond.fieldLinkNest "StraightTax$Drover" (7 : Nat) "StraightTax" "marks" "J" "StraightTax"), (Jvm.Cond.fieldLinkNest "StraightTax$Drover" (19 : Nat) "StraightTax" "now" "LStraightTax$Walk;" "StraightTax"), (Jvm.Cond.fieldLinkNest "StraightTax$Lawyer" (7 : Nat) "StraightTax" "marks" "J" "StraightTax"), (Jvm.Cond.fieldLinkNest "StraightTax$Lawyer" (19 : Nat) "StraightTax" "now" "LStraightTax$Walk;" "StraightTax"), (Jvm.Cond.fieldLinkNest "StraightTax$Walker" (7 : Nat) "StraightTax" "marks" "J" "StraightTax"), (Jvm.Cond.fieldLinkNest "StraightTax$Walker" (13 : Nat) "StraightTax" "now" "LStraightTax$Walk;" "StraightTax"), (Jvm.Cond.methodLinkNest "StraightTax$Town" (81 : Nat) ({ cls := "StraightTax", name := "isDirection", desc := "(I)Z" } : Jvm.MethodName) "StraightTax"), (Jvm.Cond.methodLinkNest "StraightTax$Town" (84 : Nat) ({ cls := "StraightTax", name := "isIn", desc := "(II)Z" } : Jvm.MethodName) "StraightTax"), (Jvm.Cond.methodLinkNest "StraightTax$Ways" (120 : Nat) ({ cls := "StraightTax", name := "isIn", desc := "(II)Z" } : Jvm.MethodName) "StraightTax")]
