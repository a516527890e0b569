section
-- ===== PART A: goes FIRST, ahead of the names: the tables' words, and 'selects' of the private methods out of them =====
/-- a private method of a class that the tables say can be made, by its rows of tables_1 -/
def lw_okq (q : MethodName × Nat) : Prop := (q.1.cls ≠ "java/lang/invoke/MethodHandle" ∧ q.1.cls ≠ "java/lang/invoke/VarHandle") ∧ Cond.instantiable q.1.cls q.2 ∈ tables_1 ∧ Cond.privateMethod q.1 ∈ tables_1 ∧ Cond.instanceMethod q.1 ∈ tables_1
theorem lw_p0 : lw_okq (⟨"StraightTax$Text", "advance", "()V"⟩, 9) := ⟨⟨by decide +kernel, by decide +kernel⟩, List.mem_of_getElem? (i := 31) (by decide +kernel), List.mem_of_getElem? (i := 364) (by decide +kernel), List.mem_of_getElem? (i := 365) (by decide +kernel)⟩
theorem lw_p1 : lw_okq (⟨"StraightTax$Text", "readWord", "()V"⟩, 9) := ⟨⟨by decide +kernel, by decide +kernel⟩, List.mem_of_getElem? (i := 31) (by decide +kernel), List.mem_of_getElem? (i := 371) (by decide +kernel), List.mem_of_getElem? (i := 372) (by decide +kernel)⟩
theorem lw_p2 : lw_okq (⟨"StraightTax$Text", "isWord", "(Ljava/lang/String;)Z"⟩, 9) := ⟨⟨by decide +kernel, by decide +kernel⟩, List.mem_of_getElem? (i := 31) (by decide +kernel), List.mem_of_getElem? (i := 376) (by decide +kernel), List.mem_of_getElem? (i := 377) (by decide +kernel)⟩
theorem lw_p3 : lw_okq (⟨"StraightTax$Text", "readNumber", "()V"⟩, 9) := ⟨⟨by decide +kernel, by decide +kernel⟩, List.mem_of_getElem? (i := 31) (by decide +kernel), List.mem_of_getElem? (i := 436) (by decide +kernel), List.mem_of_getElem? (i := 437) (by decide +kernel)⟩
theorem lw_p4 : lw_okq (⟨"StraightTax$Text", "isSize", "(LStraightTax$Town;)Z"⟩, 9) := ⟨⟨by decide +kernel, by decide +kernel⟩, List.mem_of_getElem? (i := 31) (by decide +kernel), List.mem_of_getElem? (i := 443) (by decide +kernel), List.mem_of_getElem? (i := 444) (by decide +kernel)⟩
theorem lw_p5 : lw_okq (⟨"StraightTax$Text", "isNumber", "(II)Z"⟩, 9) := ⟨⟨by decide +kernel, by decide +kernel⟩, List.mem_of_getElem? (i := 31) (by decide +kernel), List.mem_of_getElem? (i := 447) (by decide +kernel), List.mem_of_getElem? (i := 448) (by decide +kernel)⟩
theorem lw_p6 : lw_okq (⟨"StraightTax$Text", "isThing", "(LStraightTax$Town;I)Z"⟩, 9) := ⟨⟨by decide +kernel, by decide +kernel⟩, List.mem_of_getElem? (i := 31) (by decide +kernel), List.mem_of_getElem? (i := 451) (by decide +kernel), List.mem_of_getElem? (i := 452) (by decide +kernel)⟩
theorem lw_p7 : lw_okq (⟨"StraightTax$Text", "isTax", "(LStraightTax$Town;)Z"⟩, 9) := ⟨⟨by decide +kernel, by decide +kernel⟩, List.mem_of_getElem? (i := 31) (by decide +kernel), List.mem_of_getElem? (i := 461) (by decide +kernel), List.mem_of_getElem? (i := 462) (by decide +kernel)⟩
theorem lw_p8 : lw_okq (⟨"StraightTax$Text", "isDouble", "(LStraightTax$Town;)Z"⟩, 9) := ⟨⟨by decide +kernel, by decide +kernel⟩, List.mem_of_getElem? (i := 31) (by decide +kernel), List.mem_of_getElem? (i := 465) (by decide +kernel), List.mem_of_getElem? (i := 466) (by decide +kernel)⟩
theorem lw_p9 : lw_okq (⟨"StraightTax$Text", "isHaste", "(LStraightTax$Town;)Z"⟩, 9) := ⟨⟨by decide +kernel, by decide +kernel⟩, List.mem_of_getElem? (i := 31) (by decide +kernel), List.mem_of_getElem? (i := 469) (by decide +kernel), List.mem_of_getElem? (i := 470) (by decide +kernel)⟩
theorem lw_p10 : lw_okq (⟨"StraightTax$Text", "isStop", "()Z"⟩, 9) := ⟨⟨by decide +kernel, by decide +kernel⟩, List.mem_of_getElem? (i := 31) (by decide +kernel), List.mem_of_getElem? (i := 473) (by decide +kernel), List.mem_of_getElem? (i := 474) (by decide +kernel)⟩
theorem lw_p11 : lw_okq (⟨"StraightTax", "areEnds", "(II)Z"⟩, 10) := ⟨⟨by decide +kernel, by decide +kernel⟩, List.mem_of_getElem? (i := 23) (by decide +kernel), List.mem_of_getElem? (i := 576) (by decide +kernel), List.mem_of_getElem? (i := 577) (by decide +kernel)⟩
theorem lw_p12 : lw_okq (⟨"StraightTax$Ways", "makesLess", "(I)Z"⟩, 11) := ⟨⟨by decide +kernel, by decide +kernel⟩, List.mem_of_getElem? (i := 261) (by decide +kernel), List.mem_of_getElem? (i := 587) (by decide +kernel), List.mem_of_getElem? (i := 588) (by decide +kernel)⟩
theorem lw_p13 : lw_okq (⟨"StraightTax$Ways", "straightOn", "(III)I"⟩, 11) := ⟨⟨by decide +kernel, by decide +kernel⟩, List.mem_of_getElem? (i := 261) (by decide +kernel), List.mem_of_getElem? (i := 592) (by decide +kernel), List.mem_of_getElem? (i := 593) (by decide +kernel)⟩
theorem lw_p14 : lw_okq (⟨"StraightTax$Ways", "turning", "(II)I"⟩, 11) := ⟨⟨by decide +kernel, by decide +kernel⟩, List.mem_of_getElem? (i := 261) (by decide +kernel), List.mem_of_getElem? (i := 598) (by decide +kernel), List.mem_of_getElem? (i := 599) (by decide +kernel)⟩
theorem lw_p15 : lw_okq (⟨"StraightTax$Ways", "firstOfBest", "(IIII)I"⟩, 11) := ⟨⟨by decide +kernel, by decide +kernel⟩, List.mem_of_getElem? (i := 261) (by decide +kernel), List.mem_of_getElem? (i := 618) (by decide +kernel), List.mem_of_getElem? (i := 619) (by decide +kernel)⟩
def lw_privs_1 : List (MethodName × Nat) := [(⟨"StraightTax$Text", "advance", "()V"⟩, 9), (⟨"StraightTax$Text", "readWord", "()V"⟩, 9), (⟨"StraightTax$Text", "isWord", "(Ljava/lang/String;)Z"⟩, 9), (⟨"StraightTax$Text", "readNumber", "()V"⟩, 9), (⟨"StraightTax$Text", "isSize", "(LStraightTax$Town;)Z"⟩, 9), (⟨"StraightTax$Text", "isNumber", "(II)Z"⟩, 9), (⟨"StraightTax$Text", "isThing", "(LStraightTax$Town;I)Z"⟩, 9), (⟨"StraightTax$Text", "isTax", "(LStraightTax$Town;)Z"⟩, 9), (⟨"StraightTax$Text", "isDouble", "(LStraightTax$Town;)Z"⟩, 9), (⟨"StraightTax$Text", "isHaste", "(LStraightTax$Town;)Z"⟩, 9), (⟨"StraightTax$Text", "isStop", "()Z"⟩, 9), (⟨"StraightTax", "areEnds", "(II)Z"⟩, 10), (⟨"StraightTax$Ways", "makesLess", "(I)Z"⟩, 11), (⟨"StraightTax$Ways", "straightOn", "(III)I"⟩, 11), (⟨"StraightTax$Ways", "turning", "(II)I"⟩, 11), (⟨"StraightTax$Ways", "firstOfBest", "(IIII)I"⟩, 11)]
theorem lw_r1 : ∀ q ∈ lw_privs_1, lw_okq q := List.forall_mem_cons.mpr ⟨lw_p0, List.forall_mem_cons.mpr ⟨lw_p1, List.forall_mem_cons.mpr ⟨lw_p2, List.forall_mem_cons.mpr ⟨lw_p3, List.forall_mem_cons.mpr ⟨lw_p4, List.forall_mem_cons.mpr ⟨lw_p5, List.forall_mem_cons.mpr ⟨lw_p6, List.forall_mem_cons.mpr ⟨lw_p7, List.forall_mem_cons.mpr ⟨lw_p8, List.forall_mem_cons.mpr ⟨lw_p9, List.forall_mem_cons.mpr ⟨lw_p10, List.forall_mem_cons.mpr ⟨lw_p11, List.forall_mem_cons.mpr ⟨lw_p12, List.forall_mem_cons.mpr ⟨lw_p13, List.forall_mem_cons.mpr ⟨lw_p14, List.forall_mem_cons.mpr ⟨lw_p15, fun _ h => absurd h List.not_mem_nil⟩⟩⟩⟩⟩⟩⟩⟩⟩⟩⟩⟩⟩⟩⟩⟩
theorem lw_p16 : lw_okq (⟨"StraightTax$Ways", "comingIn", "(III)I"⟩, 11) := ⟨⟨by decide +kernel, by decide +kernel⟩, List.mem_of_getElem? (i := 261) (by decide +kernel), List.mem_of_getElem? (i := 642) (by decide +kernel), List.mem_of_getElem? (i := 643) (by decide +kernel)⟩
theorem lw_p17 : lw_okq (⟨"StraightTax$Ways", "turned", "(III)I"⟩, 11) := ⟨⟨by decide +kernel, by decide +kernel⟩, List.mem_of_getElem? (i := 261) (by decide +kernel), List.mem_of_getElem? (i := 646) (by decide +kernel), List.mem_of_getElem? (i := 647) (by decide +kernel)⟩
theorem lw_p18 : lw_okq (⟨"StraightTax", "arePlaces", "(I)Z"⟩, 10) := ⟨⟨by decide +kernel, by decide +kernel⟩, List.mem_of_getElem? (i := 23) (by decide +kernel), List.mem_of_getElem? (i := 675) (by decide +kernel), List.mem_of_getElem? (i := 676) (by decide +kernel)⟩
theorem lw_p19 : lw_okq (⟨"StraightTax$Ways", "tourOn", "(II)I"⟩, 11) := ⟨⟨by decide +kernel, by decide +kernel⟩, List.mem_of_getElem? (i := 261) (by decide +kernel), List.mem_of_getElem? (i := 691) (by decide +kernel), List.mem_of_getElem? (i := 692) (by decide +kernel)⟩
theorem lw_p20 : lw_okq (⟨"StraightTax$Ways", "fittingOn", "(IIIII)I"⟩, 11) := ⟨⟨by decide +kernel, by decide +kernel⟩, List.mem_of_getElem? (i := 261) (by decide +kernel), List.mem_of_getElem? (i := 735) (by decide +kernel), List.mem_of_getElem? (i := 736) (by decide +kernel)⟩
theorem lw_p21 : lw_okq (⟨"StraightTaxModel", "isEnd", "()Z"⟩, 35) := ⟨⟨by decide +kernel, by decide +kernel⟩, List.mem_of_getElem? (i := 808) (by decide +kernel), List.mem_of_getElem? (i := 937) (by decide +kernel), List.mem_of_getElem? (i := 938) (by decide +kernel)⟩
theorem lw_p22 : lw_okq (⟨"StraightTaxModel", "takeItem", "()V"⟩, 35) := ⟨⟨by decide +kernel, by decide +kernel⟩, List.mem_of_getElem? (i := 808) (by decide +kernel), List.mem_of_getElem? (i := 941) (by decide +kernel), List.mem_of_getElem? (i := 942) (by decide +kernel)⟩
theorem lw_p23 : lw_okq (⟨"StraightTaxModel", "takeLetters", "()J"⟩, 35) := ⟨⟨by decide +kernel, by decide +kernel⟩, List.mem_of_getElem? (i := 808) (by decide +kernel), List.mem_of_getElem? (i := 945) (by decide +kernel), List.mem_of_getElem? (i := 946) (by decide +kernel)⟩
theorem lw_p24 : lw_okq (⟨"StraightTaxModel", "takeNumber", "(II)I"⟩, 35) := ⟨⟨by decide +kernel, by decide +kernel⟩, List.mem_of_getElem? (i := 808) (by decide +kernel), List.mem_of_getElem? (i := 954) (by decide +kernel), List.mem_of_getElem? (i := 955) (by decide +kernel)⟩
theorem lw_p25 : lw_okq (⟨"StraightTaxModel", "takeSquare", "(Z)V"⟩, 35) := ⟨⟨by decide +kernel, by decide +kernel⟩, List.mem_of_getElem? (i := 808) (by decide +kernel), List.mem_of_getElem? (i := 965) (by decide +kernel), List.mem_of_getElem? (i := 966) (by decide +kernel)⟩
theorem lw_p26 : lw_okq (⟨"StraightTaxModel", "isAgain", "(II)Z"⟩, 35) := ⟨⟨by decide +kernel, by decide +kernel⟩, List.mem_of_getElem? (i := 808) (by decide +kernel), List.mem_of_getElem? (i := 973) (by decide +kernel), List.mem_of_getElem? (i := 974) (by decide +kernel)⟩
theorem lw_p27 : lw_okq (⟨"StraightTaxModel", "isSquare", "(I)Z"⟩, 35) := ⟨⟨by decide +kernel, by decide +kernel⟩, List.mem_of_getElem? (i := 808) (by decide +kernel), List.mem_of_getElem? (i := 983) (by decide +kernel), List.mem_of_getElem? (i := 984) (by decide +kernel)⟩
theorem lw_p28 : lw_okq (⟨"StraightTaxModel", "isOpen", "(I)Z"⟩, 35) := ⟨⟨by decide +kernel, by decide +kernel⟩, List.mem_of_getElem? (i := 808) (by decide +kernel), List.mem_of_getElem? (i := 995) (by decide +kernel), List.mem_of_getElem? (i := 996) (by decide +kernel)⟩
theorem lw_p29 : lw_okq (⟨"StraightTaxModel", "to", "(II)I"⟩, 35) := ⟨⟨by decide +kernel, by decide +kernel⟩, List.mem_of_getElem? (i := 808) (by decide +kernel), List.mem_of_getElem? (i := 1004) (by decide +kernel), List.mem_of_getElem? (i := 1005) (by decide +kernel)⟩
theorem lw_p30 : lw_okq (⟨"StraightTaxModel", "runNow", "()I"⟩, 35) := ⟨⟨by decide +kernel, by decide +kernel⟩, List.mem_of_getElem? (i := 808) (by decide +kernel), List.mem_of_getElem? (i := 1008) (by decide +kernel), List.mem_of_getElem? (i := 1009) (by decide +kernel)⟩
theorem lw_p31 : lw_okq (⟨"StraightTaxModel", "behind", "(II)I"⟩, 35) := ⟨⟨by decide +kernel, by decide +kernel⟩, List.mem_of_getElem? (i := 808) (by decide +kernel), List.mem_of_getElem? (i := 1012) (by decide +kernel), List.mem_of_getElem? (i := 1013) (by decide +kernel)⟩
def lw_privs_2 : List (MethodName × Nat) := [(⟨"StraightTax$Ways", "comingIn", "(III)I"⟩, 11), (⟨"StraightTax$Ways", "turned", "(III)I"⟩, 11), (⟨"StraightTax", "arePlaces", "(I)Z"⟩, 10), (⟨"StraightTax$Ways", "tourOn", "(II)I"⟩, 11), (⟨"StraightTax$Ways", "fittingOn", "(IIIII)I"⟩, 11), (⟨"StraightTaxModel", "isEnd", "()Z"⟩, 35), (⟨"StraightTaxModel", "takeItem", "()V"⟩, 35), (⟨"StraightTaxModel", "takeLetters", "()J"⟩, 35), (⟨"StraightTaxModel", "takeNumber", "(II)I"⟩, 35), (⟨"StraightTaxModel", "takeSquare", "(Z)V"⟩, 35), (⟨"StraightTaxModel", "isAgain", "(II)Z"⟩, 35), (⟨"StraightTaxModel", "isSquare", "(I)Z"⟩, 35), (⟨"StraightTaxModel", "isOpen", "(I)Z"⟩, 35), (⟨"StraightTaxModel", "to", "(II)I"⟩, 35), (⟨"StraightTaxModel", "runNow", "()I"⟩, 35), (⟨"StraightTaxModel", "behind", "(II)I"⟩, 35)]
theorem lw_r2 : ∀ q ∈ lw_privs_2, lw_okq q := List.forall_mem_cons.mpr ⟨lw_p16, List.forall_mem_cons.mpr ⟨lw_p17, List.forall_mem_cons.mpr ⟨lw_p18, List.forall_mem_cons.mpr ⟨lw_p19, List.forall_mem_cons.mpr ⟨lw_p20, List.forall_mem_cons.mpr ⟨lw_p21, List.forall_mem_cons.mpr ⟨lw_p22, List.forall_mem_cons.mpr ⟨lw_p23, List.forall_mem_cons.mpr ⟨lw_p24, List.forall_mem_cons.mpr ⟨lw_p25, List.forall_mem_cons.mpr ⟨lw_p26, List.forall_mem_cons.mpr ⟨lw_p27, List.forall_mem_cons.mpr ⟨lw_p28, List.forall_mem_cons.mpr ⟨lw_p29, List.forall_mem_cons.mpr ⟨lw_p30, List.forall_mem_cons.mpr ⟨lw_p31, fun _ h => absurd h List.not_mem_nil⟩⟩⟩⟩⟩⟩⟩⟩⟩⟩⟩⟩⟩⟩⟩⟩
theorem lw_p32 : lw_okq (⟨"StraightTaxModel", "priceOf", "(I)I"⟩, 35) := ⟨⟨by decide +kernel, by decide +kernel⟩, List.mem_of_getElem? (i := 808) (by decide +kernel), List.mem_of_getElem? (i := 1016) (by decide +kernel), List.mem_of_getElem? (i := 1017) (by decide +kernel)⟩
theorem lw_p33 : lw_okq (⟨"StraightTaxModel", "areOpen", "(II)Z"⟩, 35) := ⟨⟨by decide +kernel, by decide +kernel⟩, List.mem_of_getElem? (i := 808) (by decide +kernel), List.mem_of_getElem? (i := 1042) (by decide +kernel), List.mem_of_getElem? (i := 1043) (by decide +kernel)⟩
theorem lw_p34 : lw_okq (⟨"StraightTaxModel", "findRest", "(II)V"⟩, 35) := ⟨⟨by decide +kernel, by decide +kernel⟩, List.mem_of_getElem? (i := 808) (by decide +kernel), List.mem_of_getElem? (i := 1046) (by decide +kernel), List.mem_of_getElem? (i := 1047) (by decide +kernel)⟩
theorem lw_p35 : lw_okq (⟨"StraightTaxModel", "runBehind", "(II)I"⟩, 35) := ⟨⟨by decide +kernel, by decide +kernel⟩, List.mem_of_getElem? (i := 808) (by decide +kernel), List.mem_of_getElem? (i := 1051) (by decide +kernel), List.mem_of_getElem? (i := 1052) (by decide +kernel)⟩
theorem lw_p36 : lw_okq (⟨"StraightTaxModel", "onward", "(III)I"⟩, 35) := ⟨⟨by decide +kernel, by decide +kernel⟩, List.mem_of_getElem? (i := 808) (by decide +kernel), List.mem_of_getElem? (i := 1055) (by decide +kernel), List.mem_of_getElem? (i := 1056) (by decide +kernel)⟩
theorem lw_p37 : lw_okq (⟨"StraightTaxModel", "isFirst", "(II)Z"⟩, 35) := ⟨⟨by decide +kernel, by decide +kernel⟩, List.mem_of_getElem? (i := 808) (by decide +kernel), List.mem_of_getElem? (i := 1059) (by decide +kernel), List.mem_of_getElem? (i := 1060) (by decide +kernel)⟩
theorem lw_p38 : lw_okq (⟨"StraightTaxModel", "findLine", "(II)V"⟩, 35) := ⟨⟨by decide +kernel, by decide +kernel⟩, List.mem_of_getElem? (i := 808) (by decide +kernel), List.mem_of_getElem? (i := 1067) (by decide +kernel), List.mem_of_getElem? (i := 1068) (by decide +kernel)⟩
theorem lw_p39 : lw_okq (⟨"StraightTaxModel", "costOf", "(III)I"⟩, 35) := ⟨⟨by decide +kernel, by decide +kernel⟩, List.mem_of_getElem? (i := 808) (by decide +kernel), List.mem_of_getElem? (i := 1086) (by decide +kernel), List.mem_of_getElem? (i := 1087) (by decide +kernel)⟩
theorem lw_p40 : lw_okq (⟨"StraightTaxModel", "copy", "(II)V"⟩, 35) := ⟨⟨by decide +kernel, by decide +kernel⟩, List.mem_of_getElem? (i := 808) (by decide +kernel), List.mem_of_getElem? (i := 1120) (by decide +kernel), List.mem_of_getElem? (i := 1121) (by decide +kernel)⟩
def lw_privs_3 : List (MethodName × Nat) := [(⟨"StraightTaxModel", "priceOf", "(I)I"⟩, 35), (⟨"StraightTaxModel", "areOpen", "(II)Z"⟩, 35), (⟨"StraightTaxModel", "findRest", "(II)V"⟩, 35), (⟨"StraightTaxModel", "runBehind", "(II)I"⟩, 35), (⟨"StraightTaxModel", "onward", "(III)I"⟩, 35), (⟨"StraightTaxModel", "isFirst", "(II)Z"⟩, 35), (⟨"StraightTaxModel", "findLine", "(II)V"⟩, 35), (⟨"StraightTaxModel", "costOf", "(III)I"⟩, 35), (⟨"StraightTaxModel", "copy", "(II)V"⟩, 35)]
theorem lw_r3 : ∀ q ∈ lw_privs_3, lw_okq q := List.forall_mem_cons.mpr ⟨lw_p32, List.forall_mem_cons.mpr ⟨lw_p33, List.forall_mem_cons.mpr ⟨lw_p34, List.forall_mem_cons.mpr ⟨lw_p35, List.forall_mem_cons.mpr ⟨lw_p36, List.forall_mem_cons.mpr ⟨lw_p37, List.forall_mem_cons.mpr ⟨lw_p38, List.forall_mem_cons.mpr ⟨lw_p39, List.forall_mem_cons.mpr ⟨lw_p40, fun _ h => absurd h List.not_mem_nil⟩⟩⟩⟩⟩⟩⟩⟩⟩
def lw_privs : List (MethodName × Nat) := lw_privs_1 ++ (lw_privs_2 ++ (lw_privs_3))
def lw_tbl : List Cond := k2_sels lw_privs ++ tables_1
theorem lw_privs_ok : ∀ q ∈ lw_privs, lw_okq q := by
  show ∀ q ∈ lw_privs_1 ++ (lw_privs_2 ++ (lw_privs_3)), lw_okq q
  exact List.forall_mem_append.mpr ⟨lw_r1, List.forall_mem_append.mpr ⟨lw_r2, lw_r3⟩⟩
end
section
def RX0 : String := "StraightTax$Beggar"
def TX0 : u_T := fun k => match k with
  | _ => ("", "", "", false)
def tyX0 : Nat → FieldType := fun k => match k with
  | _ => .int
abbrev wsX00 : List Cond := u_ws RX0 TX0 0
theorem nmX0 : ∀ a, a < 0 → ∀ b, b < 0 → a ≠ b → (TX0 a).2.1 ≠ (TX0 b).2.1 := by decide +kernel
theorem tyX0_ok : ∀ k, k < 0 → parseFieldDescriptor (TX0 k).2.2.1 = some (tyX0 k) := by decide +kernel
def RX1 : String := "StraightTax$Courtier"
def TX1 : u_T := fun k => match k with
  | _ => ("", "", "", false)
def tyX1 : Nat → FieldType := fun k => match k with
  | _ => .int
abbrev wsX10 : List Cond := u_ws RX1 TX1 0
theorem nmX1 : ∀ a, a < 0 → ∀ b, b < 0 → a ≠ b → (TX1 a).2.1 ≠ (TX1 b).2.1 := by decide +kernel
theorem tyX1_ok : ∀ k, k < 0 → parseFieldDescriptor (TX1 k).2.2.1 = some (tyX1 k) := by decide +kernel
def RX2 : String := "StraightTax$Dancer"
def TX2 : u_T := fun k => match k with
  | _ => ("", "", "", false)
def tyX2 : Nat → FieldType := fun k => match k with
  | _ => .int
abbrev wsX20 : List Cond := u_ws RX2 TX2 0
theorem nmX2 : ∀ a, a < 0 → ∀ b, b < 0 → a ≠ b → (TX2 a).2.1 ≠ (TX2 b).2.1 := by decide +kernel
theorem tyX2_ok : ∀ k, k < 0 → parseFieldDescriptor (TX2 k).2.2.1 = some (tyX2 k) := by decide +kernel
def RX3 : String := "StraightTax$Drover"
def TX3 : u_T := fun k => match k with
  | _ => ("", "", "", false)
def tyX3 : Nat → FieldType := fun k => match k with
  | _ => .int
abbrev wsX30 : List Cond := u_ws RX3 TX3 0
theorem nmX3 : ∀ a, a < 0 → ∀ b, b < 0 → a ≠ b → (TX3 a).2.1 ≠ (TX3 b).2.1 := by decide +kernel
theorem tyX3_ok : ∀ k, k < 0 → parseFieldDescriptor (TX3 k).2.2.1 = some (tyX3 k) := by decide +kernel
def RX4 : String := "StraightTax$Errands"
def TX4 : u_T := fun k => match k with
  | 0 => ("StraightTax$Errands", "many", "I", false)
  | 1 => ("StraightTax$Errands", "from", "[I", true)
  | 2 => ("StraightTax$Errands", "to", "[I", true)
  | 3 => ("StraightTax$Errands", "direct", "[I", true)
  | _ => ("StraightTax$Errands", "rests", "[I", true)
def tyX4 : Nat → FieldType := fun k => match k with
  | 0 => .int
  | 1 => .array .int
  | 2 => .array .int
  | 3 => .array .int
  | _ => .array .int
abbrev wsX40 : List Cond := u_ws RX4 TX4 5
theorem nmX4 : ∀ a, a < 5 → ∀ b, b < 5 → a ≠ b → (TX4 a).2.1 ≠ (TX4 b).2.1 := by decide +kernel
theorem tyX4_ok : ∀ k, k < 5 → parseFieldDescriptor (TX4 k).2.2.1 = some (tyX4 k) := by decide +kernel
def RX5 : String := "StraightTax$Lawyer"
def TX5 : u_T := fun k => match k with
  | _ => ("", "", "", false)
def tyX5 : Nat → FieldType := fun k => match k with
  | _ => .int
abbrev wsX50 : List Cond := u_ws RX5 TX5 0
theorem nmX5 : ∀ a, a < 0 → ∀ b, b < 0 → a ≠ b → (TX5 a).2.1 ≠ (TX5 b).2.1 := by decide +kernel
theorem tyX5_ok : ∀ k, k < 0 → parseFieldDescriptor (TX5 k).2.2.1 = some (tyX5 k) := by decide +kernel
def RX6 : String := "StraightTax$Text"
def TX6 : u_T := fun k => match k with
  | 0 => ("StraightTax$Text", "length", "I", false)
  | 1 => ("StraightTax$Text", "bytes", "[B", true)
  | 2 => ("StraightTax$Text", "at", "I", false)
  | 3 => ("StraightTax$Text", "place", "I", false)
  | 4 => ("StraightTax$Text", "token", "I", false)
  | 5 => ("StraightTax$Text", "value", "I", false)
  | 6 => ("StraightTax$Text", "toldTax", "Z", false)
  | 7 => ("StraightTax$Text", "toldDouble", "Z", false)
  | _ => ("StraightTax$Text", "toldHaste", "Z", false)
def tyX6 : Nat → FieldType := fun k => match k with
  | 0 => .int
  | 1 => .array .byte
  | 2 => .int
  | 3 => .int
  | 4 => .int
  | 5 => .int
  | 6 => .boolean
  | 7 => .boolean
  | _ => .boolean
abbrev wsX60 : List Cond := u_ws RX6 TX6 9
theorem nmX6 : ∀ a, a < 9 → ∀ b, b < 9 → a ≠ b → (TX6 a).2.1 ≠ (TX6 b).2.1 := by decide +kernel
theorem tyX6_ok : ∀ k, k < 9 → parseFieldDescriptor (TX6 k).2.2.1 = some (tyX6 k) := by decide +kernel
def RX7 : String := "StraightTax$Town"
def TX7 : u_T := fun k => match k with
  | 0 => ("StraightTax$Town", "wide", "I", false)
  | 1 => ("StraightTax$Town", "high", "I", false)
  | 2 => ("StraightTax$Town", "free", "I", false)
  | 3 => ("StraightTax$Town", "rate", "I", false)
  | 4 => ("StraightTax$Town", "form", "I", false)
  | 5 => ("StraightTax$Town", "doubled", "Z", false)
  | 6 => ("StraightTax$Town", "haste", "I", false)
  | 7 => ("StraightTax$Town", "things", "[I", true)
  | _ => ("StraightTax$Town", "next", "[I", true)
def tyX7 : Nat → FieldType := fun k => match k with
  | 0 => .int
  | 1 => .int
  | 2 => .int
  | 3 => .int
  | 4 => .int
  | 5 => .boolean
  | 6 => .int
  | 7 => .array .int
  | _ => .array .int
abbrev wsX70 : List Cond := u_ws RX7 TX7 9
theorem nmX7 : ∀ a, a < 9 → ∀ b, b < 9 → a ≠ b → (TX7 a).2.1 ≠ (TX7 b).2.1 := by decide +kernel
theorem tyX7_ok : ∀ k, k < 9 → parseFieldDescriptor (TX7 k).2.2.1 = some (tyX7 k) := by decide +kernel
def RX8 : String := "StraightTax$Walk"
def TX8 : u_T := fun k => match k with
  | 0 => ("StraightTax$Walk", "at", "I", false)
  | 1 => ("StraightTax$Walk", "paid", "I", false)
  | 2 => ("StraightTax$Walk", "steps", "I", false)
  | 3 => ("StraightTax$Walk", "night", "Z", false)
  | 4 => ("StraightTax$Walk", "froms", "[I", true)
  | 5 => ("StraightTax$Walk", "directions", "[I", true)
  | 6 => ("StraightTax$Walk", "runs", "[I", true)
  | _ => ("StraightTax$Walk", "fares", "[I", true)
def tyX8 : Nat → FieldType := fun k => match k with
  | 0 => .int
  | 1 => .int
  | 2 => .int
  | 3 => .boolean
  | 4 => .array .int
  | 5 => .array .int
  | 6 => .array .int
  | _ => .array .int
abbrev wsX80 : List Cond := u_ws RX8 TX8 8
theorem nmX8 : ∀ a, a < 8 → ∀ b, b < 8 → a ≠ b → (TX8 a).2.1 ≠ (TX8 b).2.1 := by decide +kernel
theorem tyX8_ok : ∀ k, k < 8 → parseFieldDescriptor (TX8 k).2.2.1 = some (tyX8 k) := by decide +kernel
def RX9 : String := "StraightTax$Walker"
def TX9 : u_T := fun k => match k with
  | _ => ("", "", "", false)
def tyX9 : Nat → FieldType := fun k => match k with
  | _ => .int
abbrev wsX90 : List Cond := u_ws RX9 TX9 0
theorem nmX9 : ∀ a, a < 0 → ∀ b, b < 0 → a ≠ b → (TX9 a).2.1 ≠ (TX9 b).2.1 := by decide +kernel
theorem tyX9_ok : ∀ k, k < 0 → parseFieldDescriptor (TX9 k).2.2.1 = some (tyX9 k) := by decide +kernel
def RX10 : String := "StraightTax$Ways"
def TX10 : u_T := fun k => match k with
  | 0 => ("StraightTax$Ways", "town", "LStraightTax$Town;", false)
  | 1 => ("StraightTax$Ways", "night", "Z", false)
  | 2 => ("StraightTax$Ways", "goal", "I", false)
  | 3 => ("StraightTax$Ways", "sums", "[I", true)
  | 4 => ("StraightTax$Ways", "weights", "[I", true)
  | 5 => ("StraightTax$Ways", "outward", "[I", true)
  | 6 => ("StraightTax$Ways", "onward", "[I", true)
  | 7 => ("StraightTax$Ways", "inward", "[I", true)
  | 8 => ("StraightTax$Ways", "near", "[I", true)
  | 9 => ("StraightTax$Ways", "stops", "[I", true)
  | _ => ("StraightTax$Ways", "legs", "[I", true)
def tyX10 : Nat → FieldType := fun k => match k with
  | 0 => .object "StraightTax$Town"
  | 1 => .boolean
  | 2 => .int
  | 3 => .array .int
  | 4 => .array .int
  | 5 => .array .int
  | 6 => .array .int
  | 7 => .array .int
  | 8 => .array .int
  | 9 => .array .int
  | _ => .array .int
abbrev wsX100 : List Cond := u_ws RX10 TX10 11
theorem nmX10 : ∀ a, a < 11 → ∀ b, b < 11 → a ≠ b → (TX10 a).2.1 ≠ (TX10 b).2.1 := by decide +kernel
theorem tyX10_ok : ∀ k, k < 11 → parseFieldDescriptor (TX10 k).2.2.1 = some (tyX10 k) := by decide +kernel
def RX11 : String := "StraightTax"
def TX11 : u_T := fun k => match k with
  | 0 => ("StraightTax", "text", "LStraightTax$Text;", true)
  | 1 => ("StraightTax", "now", "LStraightTax$Walk;", true)
  | 2 => ("StraightTax", "images", "[LStraightTax$Walk;", true)
  | 3 => ("StraightTax", "kept", "[Z", true)
  | 4 => ("StraightTax", "errands", "LStraightTax$Errands;", true)
  | 5 => ("StraightTax", "kinds", "[LStraightTax$Walker;", true)
  | 6 => ("StraightTax", "ways", "LStraightTax$Ways;", true)
  | 7 => ("StraightTax", "here", "LStraightTax$Town;", false)
  | 8 => ("StraightTax", "spare", "LStraightTax$Town;", false)
  | _ => ("StraightTax", "marks", "J", false)
def tyX11 : Nat → FieldType := fun k => match k with
  | 0 => .object "StraightTax$Text"
  | 1 => .object "StraightTax$Walk"
  | 2 => .array (.object "StraightTax$Walk")
  | 3 => .array .boolean
  | 4 => .object "StraightTax$Errands"
  | 5 => .array (.object "StraightTax$Walker")
  | 6 => .object "StraightTax$Ways"
  | 7 => .object "StraightTax$Town"
  | 8 => .object "StraightTax$Town"
  | _ => .long
abbrev wsX110 : List Cond := u_ws RX11 TX11 10
theorem nmX11 : ∀ a, a < 10 → ∀ b, b < 10 → a ≠ b → (TX11 a).2.1 ≠ (TX11 b).2.1 := by decide +kernel
theorem tyX11_ok : ∀ k, k < 10 → parseFieldDescriptor (TX11 k).2.2.1 = some (tyX11 k) := by decide +kernel
def RX12 : String := "StraightTaxModel"
def TX12 : u_T := fun k => match k with
  | 0 => ("StraightTaxModel", "wide", "I", false)
  | 1 => ("StraightTaxModel", "high", "I", false)
  | 2 => ("StraightTaxModel", "houses", "I", false)
  | 3 => ("StraightTaxModel", "elbows", "I", false)
  | 4 => ("StraightTaxModel", "free", "I", false)
  | 5 => ("StraightTaxModel", "rate", "I", false)
  | 6 => ("StraightTaxModel", "form", "I", false)
  | 7 => ("StraightTaxModel", "doubled", "I", false)
  | 8 => ("StraightTaxModel", "haste", "I", false)
  | 9 => ("StraightTaxModel", "text", "[I", true)
  | 10 => ("StraightTaxModel", "texted", "I", false)
  | 11 => ("StraightTaxModel", "w", "[I", true)
  | 12 => ("StraightTaxModel", "isKept", "[Z", true)
  | 13 => ("StraightTaxModel", "errands", "I", false)
  | 14 => ("StraightTaxModel", "froms", "[I", true)
  | 15 => ("StraightTaxModel", "tos", "[I", true)
  | 16 => ("StraightTaxModel", "trace", "J", false)
  | 17 => ("StraightTaxModel", "readWide", "I", false)
  | 18 => ("StraightTaxModel", "readHigh", "I", false)
  | 19 => ("StraightTaxModel", "readHouses", "I", false)
  | 20 => ("StraightTaxModel", "readElbows", "I", false)
  | 21 => ("StraightTaxModel", "readTax", "[I", true)
  | 22 => ("StraightTaxModel", "toldOnce", "I", false)
  | 23 => ("StraightTaxModel", "items", "I", false)
  | 24 => ("StraightTaxModel", "at", "I", false)
  | 25 => ("StraightTaxModel", "fault", "I", false)
  | 26 => ("StraightTaxModel", "rest", "[I", true)
  | 27 => ("StraightTaxModel", "then", "[I", true)
  | 28 => ("StraightTaxModel", "least", "[I", true)
  | 29 => ("StraightTaxModel", "places", "[I", true)
  | 30 => ("StraightTaxModel", "between", "[I", true)
  | 31 => ("StraightTaxModel", "rounds", "[I", true)
  | 32 => ("StraightTaxModel", "ways", "[I", true)
  | 33 => ("StraightTaxModel", "states", "[I", true)
  | _ => ("StraightTaxModel", "sums", "[I", true)
def tyX12 : Nat → FieldType := fun k => match k with
  | 0 => .int
  | 1 => .int
  | 2 => .int
  | 3 => .int
  | 4 => .int
  | 5 => .int
  | 6 => .int
  | 7 => .int
  | 8 => .int
  | 9 => .array .int
  | 10 => .int
  | 11 => .array .int
  | 12 => .array .boolean
  | 13 => .int
  | 14 => .array .int
  | 15 => .array .int
  | 16 => .long
  | 17 => .int
  | 18 => .int
  | 19 => .int
  | 20 => .int
  | 21 => .array .int
  | 22 => .int
  | 23 => .int
  | 24 => .int
  | 25 => .int
  | 26 => .array .int
  | 27 => .array .int
  | 28 => .array .int
  | 29 => .array .int
  | 30 => .array .int
  | 31 => .array .int
  | 32 => .array .int
  | 33 => .array .int
  | _ => .array .int
abbrev wsX120 : List Cond := u_ws RX12 TX12 35
theorem nmX12 : ∀ a, a < 35 → ∀ b, b < 35 → a ≠ b → (TX12 a).2.1 ≠ (TX12 b).2.1 := by decide +kernel
theorem tyX12_ok : ∀ k, k < 35 → parseFieldDescriptor (TX12 k).2.2.1 = some (tyX12 k) := by decide +kernel
abbrev vwCl : List vw_C := [(RX0, TX0, 0), (RX1, TX1, 0), (RX2, TX2, 0), (RX3, TX3, 0), (RX4, TX4, 5), (RX5, TX5, 0), (RX6, TX6, 9), (RX7, TX7, 9), (RX8, TX8, 8), (RX9, TX9, 0), (RX10, TX10, 11), (RX11, TX11, 10), (RX12, TX12, 35)]
theorem qinX : ∀ (ci : Nat) (q : vw_C), vwCl[ci]? = some q → ∀ w ∈ u_ws q.1 q.2.1 q.2.2, w ∈ lw_tbl ∧ goodWord w = true := by
  intro ci q h
  match ci, h with
  | 0, h => cases h; decide +kernel
  | 1, h => cases h; decide +kernel
  | 2, h => cases h; decide +kernel
  | 3, h => cases h; decide +kernel
  | 4, h => cases h; decide +kernel
  | 5, h => cases h; decide +kernel
  | 6, h => cases h; decide +kernel
  | 7, h => cases h; decide +kernel
  | 8, h => cases h; decide +kernel
  | 9, h => cases h; decide +kernel
  | 10, h => cases h; decide +kernel
  | 11, h => cases h; decide +kernel
  | 12, h => cases h; decide +kernel
  | n + 13, h => simp [vwCl] at h
end
section
def qcn : List String := ["StraightTax$Beggar", "StraightTax$Courtier", "StraightTax$Dancer", "StraightTax$Drover", "StraightTax$Errands", "StraightTax$Lawyer", "StraightTax$Text", "StraightTax$Town", "StraightTax$Walk", "StraightTax$Walker", "StraightTax$Ways", "StraightTax", "StraightTaxModel", "java/lang/String", "java/lang/StringLatin1", "jdk/internal/util/Preconditions", "java/lang/Math", "java/lang/Integer", "java/util/Arrays"]
/-- a method: its class, code, locals, name, answer, how many it takes (the receiver not counted) -/
abbrev QRow : Type := Nat × ByteArray × Nat × MethodName × Option FieldType × Nat
def qr_0 : QRow := (0, prog_2_method_2_code, 2, ⟨"StraightTax$Beggar", "rate", "(LStraightTax;)I"⟩, (some .int), 1)
def qr_1 : QRow := (1, prog_3_method_2_code, 2, ⟨"StraightTax$Courtier", "rate", "(LStraightTax;)I"⟩, (some .int), 1)
def qr_2 : QRow := (2, prog_4_method_2_code, 2, ⟨"StraightTax$Dancer", "rate", "(LStraightTax;)I"⟩, (some .int), 1)
def qr_3 : QRow := (3, prog_5_method_2_code, 2, ⟨"StraightTax$Drover", "rate", "(LStraightTax;)I"⟩, (some .int), 1)
def qr_4 : QRow := (4, prog_6_method_2_code, 3, ⟨"StraightTax$Errands", "add", "(II)Z"⟩, (some .boolean), 2)
def qr_5 : QRow := (4, prog_6_method_3_code, 4, ⟨"StraightTax$Errands", "haveWays", "(LStraightTax$Ways;)Z"⟩, (some .boolean), 1)
def qr_6 : QRow := (4, prog_6_method_4_code, 7, ⟨"StraightTax$Errands", "withElbow", "(ILStraightTax$Ways;)I"⟩, (some .int), 2)
def qr_7 : QRow := (5, prog_7_method_2_code, 2, ⟨"StraightTax$Lawyer", "rate", "(LStraightTax;)I"⟩, (some .int), 1)
def qr_8 : QRow := (6, prog_8_method_2_code, 5, ⟨"StraightTax$Text", "add", "(JI)I"⟩, (some .int), 2)
def qr_9 : QRow := (6, prog_8_method_3_code, 4, ⟨"StraightTax$Text", "tell", "(LStraightTax$Town;)I"⟩, (some .int), 1)
def qr_10 : QRow := (6, prog_8_method_11_code, 1, ⟨"StraightTax$Text", "advance", "()V"⟩, none, 0)
def qr_11 : QRow := (6, prog_8_method_15_code, 1, ⟨"StraightTax$Text", "isLetter", "(B)Z"⟩, (some .boolean), 1)
def qr_12 : QRow := (6, prog_8_method_12_code, 1, ⟨"StraightTax$Text", "readWord", "()V"⟩, none, 0)
def qr_13 : QRow := (6, prog_8_method_13_code, 3, ⟨"StraightTax$Text", "isWord", "(Ljava/lang/String;)Z"⟩, (some .boolean), 1)
def qr_14 : QRow := (6, prog_8_method_16_code, 1, ⟨"StraightTax$Text", "isFigure", "(B)Z"⟩, (some .boolean), 1)
def qr_15 : QRow := (6, prog_8_method_14_code, 2, ⟨"StraightTax$Text", "readNumber", "()V"⟩, none, 0)
def qr_16 : QRow := (6, prog_8_method_4_code, 2, ⟨"StraightTax$Text", "isSize", "(LStraightTax$Town;)Z"⟩, (some .boolean), 1)
def qr_17 : QRow := (6, prog_8_method_9_code, 3, ⟨"StraightTax$Text", "isNumber", "(II)Z"⟩, (some .boolean), 2)
def qr_18 : QRow := (6, prog_8_method_5_code, 5, ⟨"StraightTax$Text", "isThing", "(LStraightTax$Town;I)Z"⟩, (some .boolean), 2)
def qr_19 : QRow := (6, prog_8_method_6_code, 2, ⟨"StraightTax$Text", "isTax", "(LStraightTax$Town;)Z"⟩, (some .boolean), 1)
def qr_20 : QRow := (6, prog_8_method_7_code, 2, ⟨"StraightTax$Text", "isDouble", "(LStraightTax$Town;)Z"⟩, (some .boolean), 1)
def qr_21 : QRow := (6, prog_8_method_8_code, 2, ⟨"StraightTax$Text", "isHaste", "(LStraightTax$Town;)Z"⟩, (some .boolean), 1)
def qr_22 : QRow := (6, prog_8_method_10_code, 1, ⟨"StraightTax$Text", "isStop", "()Z"⟩, (some .boolean), 0)
def qr_23 : QRow := (7, prog_9_method_2_code, 1, ⟨"StraightTax$Town", "begin", "()V"⟩, none, 0)
def qr_24 : QRow := (7, prog_9_method_3_code, 5, ⟨"StraightTax$Town", "join", "()V"⟩, none, 0)
def qr_25 : QRow := (7, prog_9_method_4_code, 3, ⟨"StraightTax$Town", "squareAt", "(II)I"⟩, (some .int), 2)
def qr_26 : QRow := (7, prog_9_method_9_code, 2, ⟨"StraightTax$Town", "isOpen", "(I)Z"⟩, (some .boolean), 1)
def qr_27 : QRow := (7, prog_9_method_6_code, 2, ⟨"StraightTax$Town", "has", "(I)Z"⟩, (some .boolean), 1)
def qr_28 : QRow := (7, prog_9_method_5_code, 1, ⟨"StraightTax$Town", "squares", "()I"⟩, (some .int), 0)
def qr_29 : QRow := (7, prog_9_method_7_code, 2, ⟨"StraightTax$Town", "thingOn", "(I)I"⟩, (some .int), 1)
def qr_30 : QRow := (7, prog_9_method_13_code, 1, ⟨"StraightTax$Town", "isHeld", "(I)Z"⟩, (some .boolean), 1)
def qr_31 : QRow := (7, prog_9_method_8_code, 3, ⟨"StraightTax$Town", "put", "(II)V"⟩, none, 2)
def qr_32 : QRow := (7, prog_9_method_12_code, 3, ⟨"StraightTax$Town", "ahead", "(II)I"⟩, (some .int), 2)
def qr_33 : QRow := (7, prog_9_method_17_code, 5, ⟨"StraightTax$Town", "runOf", "(IIII)I"⟩, (some .int), 4)
def qr_34 : QRow := (7, prog_9_method_10_code, 2, ⟨"StraightTax$Town", "isElbow", "(I)Z"⟩, (some .boolean), 1)
def qr_35 : QRow := (7, prog_9_method_18_code, 5, ⟨"StraightTax$Town", "price", "(IZ)I"⟩, (some .int), 2)
def qr_36 : QRow := (7, prog_9_method_16_code, 6, ⟨"StraightTax$Town", "straightFrom", "(I)I"⟩, (some .int), 1)
def qr_37 : QRow := (7, prog_9_method_14_code, 6, ⟨"StraightTax$Town", "shifted", "(II)I"⟩, (some .int), 2)
def qr_38 : QRow := (7, prog_9_method_15_code, 4, ⟨"StraightTax$Town", "around", "(I)I"⟩, (some .int), 1)
def qr_39 : QRow := (7, prog_9_method_11_code, 4, ⟨"StraightTax$Town", "countOf", "(I)I"⟩, (some .int), 1)
def qr_40 : QRow := (8, prog_10_method_2_code, 1, ⟨"StraightTax$Walk", "leave", "()V"⟩, none, 0)
def qr_41 : QRow := (8, prog_10_method_3_code, 1, ⟨"StraightTax$Walk", "lastDirection", "()I"⟩, (some .int), 0)
def qr_42 : QRow := (8, prog_10_method_4_code, 1, ⟨"StraightTax$Walk", "lastRun", "()I"⟩, (some .int), 0)
def qr_43 : QRow := (8, prog_10_method_5_code, 5, ⟨"StraightTax$Walk", "go", "(IIII)V"⟩, none, 4)
def qr_44 : QRow := (8, prog_10_method_6_code, 1, ⟨"StraightTax$Walk", "takeBack", "()I"⟩, (some .int), 0)
def qr_45 : QRow := (8, prog_10_method_7_code, 2, ⟨"StraightTax$Walk", "become", "(LStraightTax$Walk;)V"⟩, none, 1)
def qr_46 : QRow := (9, prog_11_method_2_code, 2, ⟨"StraightTax$Walker", "rate", "(LStraightTax;)I"⟩, (some .int), 1)
def qr_47 : QRow := (10, prog_12_method_2_code, 4, ⟨"StraightTax$Ways", "look", "(LStraightTax$Town;Z)V"⟩, none, 2)
def qr_48 : QRow := (10, prog_12_method_5_code, 12, ⟨"StraightTax$Ways", "told", "(II)I"⟩, (some .int), 2)
def qr_49 : QRow := (10, prog_12_method_6_code, 6, ⟨"StraightTax$Ways", "aim", "(I)V"⟩, none, 1)
def qr_50 : QRow := (10, prog_12_method_7_code, 5, ⟨"StraightTax$Ways", "makesLess", "(I)Z"⟩, (some .boolean), 1)
def qr_51 : QRow := (10, prog_12_method_8_code, 7, ⟨"StraightTax$Ways", "straightOn", "(III)I"⟩, (some .int), 3)
def qr_52 : QRow := (10, prog_12_method_9_code, 5, ⟨"StraightTax$Ways", "turning", "(II)I"⟩, (some .int), 2)
def qr_53 : QRow := (10, prog_12_method_10_code, 2, ⟨"StraightTax$Ways", "burdenFrom", "(I)I"⟩, (some .int), 1)
def qr_54 : QRow := (10, prog_12_method_3_code, 1, ⟨"StraightTax$Ways", "penceOf", "(I)I"⟩, (some .int), 1)
def qr_55 : QRow := (10, prog_12_method_4_code, 1, ⟨"StraightTax$Ways", "stepsOf", "(I)I"⟩, (some .int), 1)
def qr_56 : QRow := (10, prog_12_method_13_code, 9, ⟨"StraightTax$Ways", "stepAlong", "(II)I"⟩, (some .int), 2)
def qr_57 : QRow := (10, prog_12_method_14_code, 6, ⟨"StraightTax$Ways", "firstOfBest", "(IIII)I"⟩, (some .int), 4)
def qr_58 : QRow := (10, prog_12_method_12_code, 3, ⟨"StraightTax$Ways", "leastPence", "(II)I"⟩, (some .int), 2)
def qr_59 : QRow := (10, prog_12_method_11_code, 3, ⟨"StraightTax$Ways", "penceFrom", "(I)I"⟩, (some .int), 1)
def qr_60 : QRow := (10, prog_12_method_15_code, 6, ⟨"StraightTax$Ways", "leastIn", "(III)I"⟩, (some .int), 3)
def qr_61 : QRow := (10, prog_12_method_16_code, 7, ⟨"StraightTax$Ways", "comingIn", "(III)I"⟩, (some .int), 3)
def qr_62 : QRow := (10, prog_12_method_17_code, 7, ⟨"StraightTax$Ways", "turned", "(III)I"⟩, (some .int), 3)
def qr_63 : QRow := (10, prog_12_method_18_code, 7, ⟨"StraightTax$Ways", "tour", "(II)I"⟩, (some .int), 2)
def qr_64 : QRow := (10, prog_12_method_19_code, 6, ⟨"StraightTax$Ways", "tourOn", "(II)I"⟩, (some .int), 2)
def qr_65 : QRow := (10, prog_12_method_20_code, 6, ⟨"StraightTax$Ways", "fitting", "(IIII)I"⟩, (some .int), 4)
def qr_66 : QRow := (10, prog_12_method_21_code, 10, ⟨"StraightTax$Ways", "fittingOn", "(IIIII)I"⟩, (some .int), 5)
def qr_67 : QRow := (11, prog_1_method_2_code, 4, ⟨"StraightTax", "type", "(JI)I"⟩, (some .int), 2)
def qr_68 : QRow := (11, prog_1_method_3_code, 2, ⟨"StraightTax", "clear", "()I"⟩, (some .int), 0)
def qr_69 : QRow := (11, prog_1_method_4_code, 4, ⟨"StraightTax", "town", "()I"⟩, (some .int), 0)
def qr_70 : QRow := (11, prog_1_method_5_code, 2, ⟨"StraightTax", "square", "(I)I"⟩, (some .int), 1)
def qr_71 : QRow := (11, prog_1_method_6_code, 2, ⟨"StraightTax", "law", "(I)I"⟩, (some .int), 1)
def qr_72 : QRow := (11, prog_1_method_7_code, 2, ⟨"StraightTax", "stand", "(I)I"⟩, (some .int), 1)
def qr_73 : QRow := (11, prog_1_method_8_code, 5, ⟨"StraightTax", "step", "(I)I"⟩, (some .int), 1)
def qr_74 : QRow := (11, prog_1_method_27_code, 1, ⟨"StraightTax", "isDirection", "(I)Z"⟩, (some .boolean), 1)
def qr_75 : QRow := (11, prog_1_method_9_code, 1, ⟨"StraightTax", "undo", "()I"⟩, (some .int), 0)
def qr_76 : QRow := (11, prog_1_method_10_code, 2, ⟨"StraightTax", "one", "(I)I"⟩, (some .int), 1)
def qr_77 : QRow := (11, prog_1_method_11_code, 3, ⟨"StraightTax", "dusk", "(I)I"⟩, (some .int), 1)
def qr_78 : QRow := (11, prog_1_method_28_code, 1, ⟨"StraightTax", "isFlag", "(I)Z"⟩, (some .boolean), 1)
def qr_79 : QRow := (11, prog_1_method_12_code, 3, ⟨"StraightTax", "cost", "(II)I"⟩, (some .int), 2)
def qr_80 : QRow := (11, prog_1_method_32_code, 3, ⟨"StraightTax", "areFigures", "(I)Z"⟩, (some .boolean), 1)
def qr_81 : QRow := (11, prog_1_method_13_code, 5, ⟨"StraightTax", "cheapest", "(III)I"⟩, (some .int), 3)
def qr_82 : QRow := (11, prog_1_method_31_code, 3, ⟨"StraightTax", "areEnds", "(II)Z"⟩, (some .boolean), 2)
def qr_83 : QRow := (11, prog_1_method_14_code, 6, ⟨"StraightTax", "quickest", "(III)I"⟩, (some .int), 3)
def qr_84 : QRow := (11, prog_1_method_15_code, 10, ⟨"StraightTax", "line", "(IIII)I"⟩, (some .int), 4)
def qr_85 : QRow := (11, prog_1_method_16_code, 6, ⟨"StraightTax", "fewTurns", "(II)I"⟩, (some .int), 2)
def qr_86 : QRow := (11, prog_1_method_30_code, 2, ⟨"StraightTax", "isIn", "(II)Z"⟩, (some .boolean), 2)
def qr_87 : QRow := (11, prog_1_method_17_code, 3, ⟨"StraightTax", "round", "(II)I"⟩, (some .int), 2)
def qr_88 : QRow := (11, prog_1_method_33_code, 3, ⟨"StraightTax", "arePlaces", "(I)Z"⟩, (some .boolean), 1)
def qr_89 : QRow := (11, prog_1_method_18_code, 3, ⟨"StraightTax", "errand", "(II)I"⟩, (some .int), 2)
def qr_90 : QRow := (11, prog_1_method_19_code, 2, ⟨"StraightTax", "home", "()I"⟩, (some .int), 0)
def qr_91 : QRow := (11, prog_1_method_20_code, 6, ⟨"StraightTax", "help", "(I)I"⟩, (some .int), 1)
def qr_92 : QRow := (11, prog_1_method_21_code, 5, ⟨"StraightTax", "fits", "(IIII)I"⟩, (some .int), 4)
def qr_93 : QRow := (11, prog_1_method_22_code, 2, ⟨"StraightTax", "rating", "(I)I"⟩, (some .int), 1)
def qr_94 : QRow := (11, prog_1_method_23_code, 2, ⟨"StraightTax", "keep", "(I)I"⟩, (some .int), 1)
def qr_95 : QRow := (11, prog_1_method_29_code, 1, ⟨"StraightTax", "isImage", "(I)Z"⟩, (some .boolean), 1)
def qr_96 : QRow := (11, prog_1_method_24_code, 2, ⟨"StraightTax", "back", "(I)I"⟩, (some .int), 1)
def qr_97 : QRow := (11, prog_1_method_25_code, 2, ⟨"StraightTax", "count", "(I)I"⟩, (some .int), 1)
def qr_98 : QRow := (11, prog_1_method_26_code, 1, ⟨"StraightTax", "trace", "()J"⟩, (some .long), 0)
def qr_99 : QRow := (12, prog_14_method_9_code, 5, ⟨"StraightTaxModel", "type", "(JI)I"⟩, (some .int), 2)
def qr_100 : QRow := (12, prog_14_method_3_code, 6, ⟨"StraightTaxModel", "in", "(JJJ)Z"⟩, (some .boolean), 3)
def qr_101 : QRow := (12, prog_14_method_10_code, 2, ⟨"StraightTaxModel", "clear", "()I"⟩, (some .int), 0)
def qr_102 : QRow := (12, prog_14_method_17_code, 1, ⟨"StraightTaxModel", "town", "()I"⟩, (some .int), 0)
def qr_103 : QRow := (12, prog_14_method_11_code, 1, ⟨"StraightTaxModel", "isEnd", "()Z"⟩, (some .boolean), 0)
def qr_104 : QRow := (12, prog_14_method_16_code, 4, ⟨"StraightTaxModel", "takeItem", "()V"⟩, none, 0)
def qr_105 : QRow := (12, prog_14_method_13_code, 4, ⟨"StraightTaxModel", "takeLetters", "()J"⟩, (some .long), 0)
def qr_106 : QRow := (12, prog_14_method_12_code, 6, ⟨"StraightTaxModel", "takeNumber", "(II)I"⟩, (some .int), 2)
def qr_107 : QRow := (12, prog_14_method_6_code, 2, ⟨"StraightTaxModel", "lesser", "(II)I"⟩, (some .int), 2)
def qr_108 : QRow := (12, prog_14_method_14_code, 5, ⟨"StraightTaxModel", "takeSquare", "(Z)V"⟩, none, 1)
def qr_109 : QRow := (12, prog_14_method_4_code, 2, ⟨"StraightTaxModel", "has", "(II)Z"⟩, (some .boolean), 2)
def qr_110 : QRow := (12, prog_14_method_15_code, 4, ⟨"StraightTaxModel", "isAgain", "(II)Z"⟩, (some .boolean), 2)
def qr_111 : QRow := (12, prog_14_method_18_code, 2, ⟨"StraightTaxModel", "square", "(I)I"⟩, (some .int), 1)
def qr_112 : QRow := (12, prog_14_method_7_code, 2, ⟨"StraightTaxModel", "isSquare", "(I)Z"⟩, (some .boolean), 1)
def qr_113 : QRow := (12, prog_14_method_19_code, 2, ⟨"StraightTaxModel", "law", "(I)I"⟩, (some .int), 1)
def qr_114 : QRow := (12, prog_14_method_24_code, 2, ⟨"StraightTaxModel", "stand", "(I)I"⟩, (some .int), 1)
def qr_115 : QRow := (12, prog_14_method_8_code, 2, ⟨"StraightTaxModel", "isOpen", "(I)Z"⟩, (some .boolean), 1)
def qr_116 : QRow := (12, prog_14_method_25_code, 6, ⟨"StraightTaxModel", "step", "(I)I"⟩, (some .int), 1)
def qr_117 : QRow := (12, prog_14_method_20_code, 6, ⟨"StraightTaxModel", "to", "(II)I"⟩, (some .int), 2)
def qr_118 : QRow := (12, prog_14_method_22_code, 5, ⟨"StraightTaxModel", "runNow", "()I"⟩, (some .int), 0)
def qr_119 : QRow := (12, prog_14_method_23_code, 3, ⟨"StraightTaxModel", "behind", "(II)I"⟩, (some .int), 2)
def qr_120 : QRow := (12, prog_14_method_21_code, 4, ⟨"StraightTaxModel", "priceOf", "(I)I"⟩, (some .int), 1)
def qr_121 : QRow := (12, prog_14_method_26_code, 2, ⟨"StraightTaxModel", "undo", "()I"⟩, (some .int), 0)
def qr_122 : QRow := (12, prog_14_method_27_code, 2, ⟨"StraightTaxModel", "one", "(I)I"⟩, (some .int), 1)
def qr_123 : QRow := (12, prog_14_method_28_code, 3, ⟨"StraightTaxModel", "dusk", "(I)I"⟩, (some .int), 1)
def qr_124 : QRow := (12, prog_14_method_29_code, 10, ⟨"StraightTaxModel", "cost", "(II)I"⟩, (some .int), 2)
def qr_125 : QRow := (12, prog_14_method_34_code, 8, ⟨"StraightTaxModel", "cheapest", "(III)I"⟩, (some .int), 3)
def qr_126 : QRow := (12, prog_14_method_33_code, 3, ⟨"StraightTaxModel", "areOpen", "(II)Z"⟩, (some .boolean), 2)
def qr_127 : QRow := (12, prog_14_method_32_code, 10, ⟨"StraightTaxModel", "findRest", "(II)V"⟩, none, 2)
def qr_128 : QRow := (12, prog_14_method_31_code, 4, ⟨"StraightTaxModel", "runBehind", "(II)I"⟩, (some .int), 2)
def qr_129 : QRow := (12, prog_14_method_30_code, 8, ⟨"StraightTaxModel", "onward", "(III)I"⟩, (some .int), 3)
def qr_130 : QRow := (12, prog_14_method_35_code, 5, ⟨"StraightTaxModel", "isFirst", "(II)Z"⟩, (some .boolean), 2)
def qr_131 : QRow := (12, prog_14_method_37_code, 5, ⟨"StraightTaxModel", "quickest", "(III)I"⟩, (some .int), 3)
def qr_132 : QRow := (12, prog_14_method_36_code, 9, ⟨"StraightTaxModel", "findLine", "(II)V"⟩, none, 2)
def qr_133 : QRow := (12, prog_14_method_38_code, 8, ⟨"StraightTaxModel", "line", "(IIII)I"⟩, (some .int), 4)
def qr_134 : QRow := (12, prog_14_method_39_code, 9, ⟨"StraightTaxModel", "fewTurns", "(II)I"⟩, (some .int), 2)
def qr_135 : QRow := (12, prog_14_method_41_code, 8, ⟨"StraightTaxModel", "round", "(II)I"⟩, (some .int), 2)
def qr_136 : QRow := (12, prog_14_method_5_code, 3, ⟨"StraightTaxModel", "ones", "(I)I"⟩, (some .int), 1)
def qr_137 : QRow := (12, prog_14_method_40_code, 5, ⟨"StraightTaxModel", "costOf", "(III)I"⟩, (some .int), 3)
def qr_138 : QRow := (12, prog_14_method_42_code, 3, ⟨"StraightTaxModel", "errand", "(II)I"⟩, (some .int), 2)
def qr_139 : QRow := (12, prog_14_method_43_code, 2, ⟨"StraightTaxModel", "home", "()I"⟩, (some .int), 0)
def qr_140 : QRow := (12, prog_14_method_44_code, 7, ⟨"StraightTaxModel", "help", "(I)I"⟩, (some .int), 1)
def qr_141 : QRow := (12, prog_14_method_45_code, 9, ⟨"StraightTaxModel", "fits", "(IIII)I"⟩, (some .int), 4)
def qr_142 : QRow := (12, prog_14_method_46_code, 2, ⟨"StraightTaxModel", "rating", "(I)I"⟩, (some .int), 1)
def qr_143 : QRow := (12, prog_14_method_48_code, 2, ⟨"StraightTaxModel", "keep", "(I)I"⟩, (some .int), 1)
def qr_144 : QRow := (12, prog_14_method_47_code, 4, ⟨"StraightTaxModel", "copy", "(II)V"⟩, none, 2)
def qr_145 : QRow := (12, prog_14_method_49_code, 2, ⟨"StraightTaxModel", "back", "(I)I"⟩, (some .int), 1)
def qr_146 : QRow := (12, prog_14_method_50_code, 2, ⟨"StraightTaxModel", "count", "(I)I"⟩, (some .int), 1)
def qr_147 : QRow := (12, prog_14_method_51_code, 1, ⟨"StraightTaxModel", "trace", "()J"⟩, (some .long), 0)
def qr_148 : QRow := (13, prog_17_method_54_code, 1, ⟨"java/lang/String", "length", "()I"⟩, (some .int), 0)
def qr_149 : QRow := (13, prog_17_method_152_code, 1, ⟨"java/lang/String", "coder", "()B"⟩, (some .byte), 0)
def qr_150 : QRow := (13, prog_17_method_56_code, 2, ⟨"java/lang/String", "charAt", "(I)C"⟩, (some .char), 1)
def qr_151 : QRow := (13, prog_17_method_154_code, 1, ⟨"java/lang/String", "isLatin1", "()Z"⟩, (some .boolean), 0)
def qr_152 : QRow := (13, prog_17_method_155_code, 2, ⟨"java/lang/String", "checkIndex", "(II)V"⟩, none, 2)
def qr_153 : QRow := (14, prog_18_method_2_code, 2, ⟨"java/lang/StringLatin1", "charAt", "([BI)C"⟩, (some .char), 2)
def qr_154 : QRow := (15, prog_22_method_11_code, 3, ⟨"jdk/internal/util/Preconditions", "checkIndex", "(IILjava/util/function/BiFunction;)I"⟩, (some .int), 3)
def qr_155 : QRow := (16, prog_16_method_69_code, 2, ⟨"java/lang/Math", "min", "(II)I"⟩, (some .int), 2)
def qr_156 : QRow := (16, prog_16_method_65_code, 2, ⟨"java/lang/Math", "max", "(II)I"⟩, (some .int), 2)
def qr_157 : QRow := (17, prog_15_method_49_code, 1, ⟨"java/lang/Integer", "bitCount", "(I)I"⟩, (some .int), 1)
def qr_158 : QRow := (18, prog_21_method_103_code, 4, ⟨"java/util/Arrays", "fill", "([II)V"⟩, none, 2)
def qmt : List QRow := [qr_0, qr_1, qr_2, qr_3, qr_4, qr_5, qr_6, qr_7, qr_8, qr_9, qr_10, qr_11, qr_12, qr_13, qr_14, qr_15, qr_16, qr_17, qr_18, qr_19, qr_20, qr_21, qr_22, qr_23, qr_24, qr_25, qr_26, qr_27, qr_28, qr_29, qr_30, qr_31, qr_32, qr_33, qr_34, qr_35, qr_36, qr_37, qr_38, qr_39, qr_40, qr_41, qr_42, qr_43, qr_44, qr_45, qr_46, qr_47, qr_48, qr_49, qr_50, qr_51, qr_52, qr_53, qr_54, qr_55, qr_56, qr_57, qr_58, qr_59, qr_60, qr_61, qr_62, qr_63, qr_64, qr_65, qr_66, qr_67, qr_68, qr_69, qr_70, qr_71, qr_72, qr_73, qr_74, qr_75, qr_76, qr_77, qr_78, qr_79, qr_80, qr_81, qr_82, qr_83, qr_84, qr_85, qr_86, qr_87, qr_88, qr_89, qr_90, qr_91, qr_92, qr_93, qr_94, qr_95, qr_96, qr_97, qr_98, qr_99, qr_100, qr_101, qr_102, qr_103, qr_104, qr_105, qr_106, qr_107, qr_108, qr_109, qr_110, qr_111, qr_112, qr_113, qr_114, qr_115, qr_116, qr_117, qr_118, qr_119, qr_120, qr_121, qr_122, qr_123, qr_124, qr_125, qr_126, qr_127, qr_128, qr_129, qr_130, qr_131, qr_132, qr_133, qr_134, qr_135, qr_136, qr_137, qr_138, qr_139, qr_140, qr_141, qr_142, qr_143, qr_144, qr_145, qr_146, qr_147, qr_148, qr_149, qr_150, qr_151, qr_152, qr_153, qr_154, qr_155, qr_156, qr_157, qr_158]
set_option maxRecDepth 20000 in
theorem qi_0 : Cond.code qr_0.2.2.2.1 qr_0.2.1 qr_0.2.2.1 qr_0.2.2.2.2.1 ∈ lw_tbl := List.mem_of_getElem? (i := 789) rfl
set_option maxRecDepth 20000 in
theorem qi_1 : Cond.code qr_1.2.2.2.1 qr_1.2.1 qr_1.2.2.1 qr_1.2.2.2.2.1 ∈ lw_tbl := List.mem_of_getElem? (i := 794) rfl
set_option maxRecDepth 20000 in
theorem qi_2 : Cond.code qr_2.2.2.2.1 qr_2.2.1 qr_2.2.2.1 qr_2.2.2.2.2.1 ∈ lw_tbl := List.mem_of_getElem? (i := 800) rfl
set_option maxRecDepth 20000 in
theorem qi_3 : Cond.code qr_3.2.2.2.1 qr_3.2.1 qr_3.2.2.1 qr_3.2.2.2.2.1 ∈ lw_tbl := List.mem_of_getElem? (i := 804) rfl
set_option maxRecDepth 20000 in
theorem qi_4 : Cond.code qr_4.2.2.2.1 qr_4.2.1 qr_4.2.2.1 qr_4.2.2.2.2.1 ∈ lw_tbl := List.mem_of_getElem? (i := 742) rfl
set_option maxRecDepth 20000 in
theorem qi_5 : Cond.code qr_5.2.2.2.1 qr_5.2.1 qr_5.2.2.1 qr_5.2.2.2.2.1 ∈ lw_tbl := List.mem_of_getElem? (i := 754) rfl
set_option maxRecDepth 20000 in
theorem qi_6 : Cond.code qr_6.2.2.2.1 qr_6.2.1 qr_6.2.2.1 qr_6.2.2.2.2.1 ∈ lw_tbl := List.mem_of_getElem? (i := 761) rfl
set_option maxRecDepth 20000 in
theorem qi_7 : Cond.code qr_7.2.2.2.1 qr_7.2.1 qr_7.2.2.1 qr_7.2.2.2.2.1 ∈ lw_tbl := List.mem_of_getElem? (i := 810) rfl
set_option maxRecDepth 20000 in
theorem qi_8 : Cond.code qr_8.2.2.2.1 qr_8.2.1 qr_8.2.2.1 qr_8.2.2.2.2.1 ∈ lw_tbl := List.mem_of_getElem? (i := 390) rfl
set_option maxRecDepth 20000 in
theorem qi_9 : Cond.code qr_9.2.2.2.1 qr_9.2.1 qr_9.2.2.1 qr_9.2.2.2.2.1 ∈ lw_tbl := List.mem_of_getElem? (i := 402) rfl
set_option maxRecDepth 20000 in
theorem qi_10 : Cond.code qr_10.2.2.2.1 qr_10.2.1 qr_10.2.2.1 qr_10.2.2.2.2.1 ∈ lw_tbl := List.mem_of_getElem? (i := 407) rfl
set_option maxRecDepth 20000 in
theorem qi_11 : Cond.code qr_11.2.2.2.1 qr_11.2.1 qr_11.2.2.1 qr_11.2.2.2.2.1 ∈ lw_tbl := List.mem_of_getElem? (i := 410) rfl
set_option maxRecDepth 20000 in
theorem qi_12 : Cond.code qr_12.2.2.2.1 qr_12.2.1 qr_12.2.2.1 qr_12.2.2.2.2.1 ∈ lw_tbl := List.mem_of_getElem? (i := 414) rfl
set_option maxRecDepth 20000 in
theorem qi_13 : Cond.code qr_13.2.2.2.1 qr_13.2.1 qr_13.2.2.1 qr_13.2.2.2.2.1 ∈ lw_tbl := List.mem_of_getElem? (i := 419) rfl
set_option maxRecDepth 20000 in
theorem qi_14 : Cond.code qr_14.2.2.2.1 qr_14.2.1 qr_14.2.2.1 qr_14.2.2.2.2.1 ∈ lw_tbl := List.mem_of_getElem? (i := 475) rfl
set_option maxRecDepth 20000 in
theorem qi_15 : Cond.code qr_15.2.2.2.1 qr_15.2.1 qr_15.2.2.1 qr_15.2.2.2.2.1 ∈ lw_tbl := List.mem_of_getElem? (i := 479) rfl
set_option maxRecDepth 20000 in
theorem qi_16 : Cond.code qr_16.2.2.2.1 qr_16.2.1 qr_16.2.2.1 qr_16.2.2.2.2.1 ∈ lw_tbl := List.mem_of_getElem? (i := 486) rfl
set_option maxRecDepth 20000 in
theorem qi_17 : Cond.code qr_17.2.2.2.1 qr_17.2.1 qr_17.2.2.1 qr_17.2.2.2.2.1 ∈ lw_tbl := List.mem_of_getElem? (i := 490) rfl
set_option maxRecDepth 20000 in
theorem qi_18 : Cond.code qr_18.2.2.2.1 qr_18.2.1 qr_18.2.2.1 qr_18.2.2.2.2.1 ∈ lw_tbl := List.mem_of_getElem? (i := 494) rfl
set_option maxRecDepth 20000 in
theorem qi_19 : Cond.code qr_19.2.2.2.1 qr_19.2.1 qr_19.2.2.1 qr_19.2.2.2.2.1 ∈ lw_tbl := List.mem_of_getElem? (i := 504) rfl
set_option maxRecDepth 20000 in
theorem qi_20 : Cond.code qr_20.2.2.2.1 qr_20.2.1 qr_20.2.2.1 qr_20.2.2.2.2.1 ∈ lw_tbl := List.mem_of_getElem? (i := 508) rfl
set_option maxRecDepth 20000 in
theorem qi_21 : Cond.code qr_21.2.2.2.1 qr_21.2.1 qr_21.2.2.1 qr_21.2.2.2.2.1 ∈ lw_tbl := List.mem_of_getElem? (i := 512) rfl
set_option maxRecDepth 20000 in
theorem qi_22 : Cond.code qr_22.2.2.2.1 qr_22.2.1 qr_22.2.2.1 qr_22.2.2.2.2.1 ∈ lw_tbl := List.mem_of_getElem? (i := 516) rfl
set_option maxRecDepth 20000 in
theorem qi_23 : Cond.code qr_23.2.2.2.1 qr_23.2.1 qr_23.2.2.1 qr_23.2.2.2.2.1 ∈ lw_tbl := List.mem_of_getElem? (i := 183) rfl
set_option maxRecDepth 20000 in
theorem qi_24 : Cond.code qr_24.2.2.2.1 qr_24.2.1 qr_24.2.2.1 qr_24.2.2.2.2.1 ∈ lw_tbl := List.mem_of_getElem? (i := 190) rfl
set_option maxRecDepth 20000 in
theorem qi_25 : Cond.code qr_25.2.2.2.1 qr_25.2.1 qr_25.2.2.1 qr_25.2.2.2.2.1 ∈ lw_tbl := List.mem_of_getElem? (i := 198) rfl
set_option maxRecDepth 20000 in
theorem qi_26 : Cond.code qr_26.2.2.2.1 qr_26.2.1 qr_26.2.2.1 qr_26.2.2.2.2.1 ∈ lw_tbl := List.mem_of_getElem? (i := 202) rfl
set_option maxRecDepth 20000 in
theorem qi_27 : Cond.code qr_27.2.2.2.1 qr_27.2.1 qr_27.2.2.1 qr_27.2.2.2.2.1 ∈ lw_tbl := List.mem_of_getElem? (i := 206) rfl
set_option maxRecDepth 20000 in
theorem qi_28 : Cond.code qr_28.2.2.2.1 qr_28.2.1 qr_28.2.2.1 qr_28.2.2.2.2.1 ∈ lw_tbl := List.mem_of_getElem? (i := 210) rfl
set_option maxRecDepth 20000 in
theorem qi_29 : Cond.code qr_29.2.2.2.1 qr_29.2.1 qr_29.2.2.1 qr_29.2.2.2.2.1 ∈ lw_tbl := List.mem_of_getElem? (i := 214) rfl
set_option maxRecDepth 20000 in
theorem qi_30 : Cond.code qr_30.2.2.2.1 qr_30.2.1 qr_30.2.2.1 qr_30.2.2.2.2.1 ∈ lw_tbl := List.mem_of_getElem? (i := 217) rfl
set_option maxRecDepth 20000 in
theorem qi_31 : Cond.code qr_31.2.2.2.1 qr_31.2.1 qr_31.2.2.1 qr_31.2.2.2.2.1 ∈ lw_tbl := List.mem_of_getElem? (i := 500) rfl
set_option maxRecDepth 20000 in
theorem qi_32 : Cond.code qr_32.2.2.2.1 qr_32.2.1 qr_32.2.2.1 qr_32.2.2.2.2.1 ∈ lw_tbl := List.mem_of_getElem? (i := 547) rfl
set_option maxRecDepth 20000 in
theorem qi_33 : Cond.code qr_33.2.2.2.1 qr_33.2.1 qr_33.2.2.1 qr_33.2.2.2.2.1 ∈ lw_tbl := List.mem_of_getElem? (i := 560) rfl
set_option maxRecDepth 20000 in
theorem qi_34 : Cond.code qr_34.2.2.2.1 qr_34.2.1 qr_34.2.2.1 qr_34.2.2.2.2.1 ∈ lw_tbl := List.mem_of_getElem? (i := 564) rfl
set_option maxRecDepth 20000 in
theorem qi_35 : Cond.code qr_35.2.2.2.1 qr_35.2.1 qr_35.2.2.1 qr_35.2.2.2.2.1 ∈ lw_tbl := List.mem_of_getElem? (i := 568) rfl
set_option maxRecDepth 20000 in
theorem qi_36 : Cond.code qr_36.2.2.2.1 qr_36.2.1 qr_36.2.2.1 qr_36.2.2.2.2.1 ∈ lw_tbl := List.mem_of_getElem? (i := 701) rfl
set_option maxRecDepth 20000 in
theorem qi_37 : Cond.code qr_37.2.2.2.1 qr_37.2.1 qr_37.2.2.1 qr_37.2.2.2.2.1 ∈ lw_tbl := List.mem_of_getElem? (i := 705) rfl
set_option maxRecDepth 20000 in
theorem qi_38 : Cond.code qr_38.2.2.2.1 qr_38.2.1 qr_38.2.2.1 qr_38.2.2.2.2.1 ∈ lw_tbl := List.mem_of_getElem? (i := 774) rfl
set_option maxRecDepth 20000 in
theorem qi_39 : Cond.code qr_39.2.2.2.1 qr_39.2.1 qr_39.2.2.1 qr_39.2.2.2.2.1 ∈ lw_tbl := List.mem_of_getElem? (i := 843) rfl
set_option maxRecDepth 20000 in
theorem qi_40 : Cond.code qr_40.2.2.2.1 qr_40.2.1 qr_40.2.2.1 qr_40.2.2.2.2.1 ∈ lw_tbl := List.mem_of_getElem? (i := 521) rfl
set_option maxRecDepth 20000 in
theorem qi_41 : Cond.code qr_41.2.2.2.1 qr_41.2.1 qr_41.2.2.1 qr_41.2.2.2.2.1 ∈ lw_tbl := List.mem_of_getElem? (i := 552) rfl
set_option maxRecDepth 20000 in
theorem qi_42 : Cond.code qr_42.2.2.2.1 qr_42.2.1 qr_42.2.2.1 qr_42.2.2.2.2.1 ∈ lw_tbl := List.mem_of_getElem? (i := 556) rfl
set_option maxRecDepth 20000 in
theorem qi_43 : Cond.code qr_43.2.2.2.1 qr_43.2.1 qr_43.2.2.1 qr_43.2.2.2.2.1 ∈ lw_tbl := List.mem_of_getElem? (i := 572) rfl
set_option maxRecDepth 20000 in
theorem qi_44 : Cond.code qr_44.2.2.2.1 qr_44.2.1 qr_44.2.2.1 qr_44.2.2.2.2.1 ∈ lw_tbl := List.mem_of_getElem? (i := 580) rfl
set_option maxRecDepth 20000 in
theorem qi_45 : Cond.code qr_45.2.2.2.1 qr_45.2.1 qr_45.2.2.1 qr_45.2.2.2.2.1 ∈ lw_tbl := List.mem_of_getElem? (i := 828) rfl
set_option maxRecDepth 20000 in
theorem qi_46 : Cond.code qr_46.2.2.2.1 qr_46.2.1 qr_46.2.2.1 qr_46.2.2.2.2.1 ∈ lw_tbl := List.mem_of_getElem? (i := 816) rfl
set_option maxRecDepth 20000 in
theorem qi_47 : Cond.code qr_47.2.2.2.1 qr_47.2.1 qr_47.2.2.1 qr_47.2.2.2.2.1 ∈ lw_tbl := List.mem_of_getElem? (i := 603) rfl
set_option maxRecDepth 20000 in
theorem qi_48 : Cond.code qr_48.2.2.2.1 qr_48.2.1 qr_48.2.2.1 qr_48.2.2.2.2.1 ∈ lw_tbl := List.mem_of_getElem? (i := 608) rfl
set_option maxRecDepth 20000 in
theorem qi_49 : Cond.code qr_49.2.2.2.1 qr_49.2.1 qr_49.2.2.1 qr_49.2.2.2.2.1 ∈ lw_tbl := List.mem_of_getElem? (i := 623) rfl
set_option maxRecDepth 20000 in
theorem qi_50 : Cond.code qr_50.2.2.2.1 qr_50.2.1 qr_50.2.2.1 qr_50.2.2.2.2.1 ∈ lw_tbl := List.mem_of_getElem? (i := 630) rfl
set_option maxRecDepth 20000 in
theorem qi_51 : Cond.code qr_51.2.2.2.1 qr_51.2.1 qr_51.2.2.1 qr_51.2.2.2.2.1 ∈ lw_tbl := List.mem_of_getElem? (i := 635) rfl
set_option maxRecDepth 20000 in
theorem qi_52 : Cond.code qr_52.2.2.2.1 qr_52.2.1 qr_52.2.2.1 qr_52.2.2.2.2.1 ∈ lw_tbl := List.mem_of_getElem? (i := 641) rfl
set_option maxRecDepth 20000 in
theorem qi_53 : Cond.code qr_53.2.2.2.1 qr_53.2.1 qr_53.2.2.1 qr_53.2.2.2.2.1 ∈ lw_tbl := List.mem_of_getElem? (i := 645) rfl
set_option maxRecDepth 20000 in
theorem qi_54 : Cond.code qr_54.2.2.2.1 qr_54.2.1 qr_54.2.2.1 qr_54.2.2.2.2.1 ∈ lw_tbl := List.mem_of_getElem? (i := 649) rfl
set_option maxRecDepth 20000 in
theorem qi_55 : Cond.code qr_55.2.2.2.1 qr_55.2.1 qr_55.2.2.1 qr_55.2.2.2.2.1 ∈ lw_tbl := List.mem_of_getElem? (i := 652) rfl
set_option maxRecDepth 20000 in
theorem qi_56 : Cond.code qr_56.2.2.2.1 qr_56.2.1 qr_56.2.2.1 qr_56.2.2.2.2.1 ∈ lw_tbl := List.mem_of_getElem? (i := 656) rfl
set_option maxRecDepth 20000 in
theorem qi_57 : Cond.code qr_57.2.2.2.1 qr_57.2.1 qr_57.2.2.1 qr_57.2.2.2.2.1 ∈ lw_tbl := List.mem_of_getElem? (i := 661) rfl
set_option maxRecDepth 20000 in
theorem qi_58 : Cond.code qr_58.2.2.2.1 qr_58.2.1 qr_58.2.2.1 qr_58.2.2.2.2.1 ∈ lw_tbl := List.mem_of_getElem? (i := 671) rfl
set_option maxRecDepth 20000 in
theorem qi_59 : Cond.code qr_59.2.2.2.1 qr_59.2.1 qr_59.2.2.1 qr_59.2.2.2.2.1 ∈ lw_tbl := List.mem_of_getElem? (i := 676) rfl
set_option maxRecDepth 20000 in
theorem qi_60 : Cond.code qr_60.2.2.2.1 qr_60.2.1 qr_60.2.2.1 qr_60.2.2.2.2.1 ∈ lw_tbl := List.mem_of_getElem? (i := 681) rfl
set_option maxRecDepth 20000 in
theorem qi_61 : Cond.code qr_61.2.2.2.1 qr_61.2.1 qr_61.2.2.1 qr_61.2.2.2.2.1 ∈ lw_tbl := List.mem_of_getElem? (i := 685) rfl
set_option maxRecDepth 20000 in
theorem qi_62 : Cond.code qr_62.2.2.2.1 qr_62.2.1 qr_62.2.2.1 qr_62.2.2.2.2.1 ∈ lw_tbl := List.mem_of_getElem? (i := 689) rfl
set_option maxRecDepth 20000 in
theorem qi_63 : Cond.code qr_63.2.2.2.1 qr_63.2.1 qr_63.2.2.1 qr_63.2.2.2.2.1 ∈ lw_tbl := List.mem_of_getElem? (i := 729) rfl
set_option maxRecDepth 20000 in
theorem qi_64 : Cond.code qr_64.2.2.2.1 qr_64.2.1 qr_64.2.2.1 qr_64.2.2.2.2.1 ∈ lw_tbl := List.mem_of_getElem? (i := 734) rfl
set_option maxRecDepth 20000 in
theorem qi_65 : Cond.code qr_65.2.2.2.1 qr_65.2.1 qr_65.2.2.1 qr_65.2.2.2.2.1 ∈ lw_tbl := List.mem_of_getElem? (i := 770) rfl
set_option maxRecDepth 20000 in
theorem qi_66 : Cond.code qr_66.2.2.2.1 qr_66.2.1 qr_66.2.2.1 qr_66.2.2.2.2.1 ∈ lw_tbl := List.mem_of_getElem? (i := 778) rfl
set_option maxRecDepth 20000 in
theorem qi_67 : Cond.code qr_67.2.2.2.1 qr_67.2.1 qr_67.2.2.1 qr_67.2.2.2.2.1 ∈ lw_tbl := List.mem_of_getElem? (i := 386) rfl
set_option maxRecDepth 20000 in
theorem qi_68 : Cond.code qr_68.2.2.2.1 qr_68.2.1 qr_68.2.2.1 qr_68.2.2.2.2.1 ∈ lw_tbl := List.mem_of_getElem? (i := 394) rfl
set_option maxRecDepth 20000 in
theorem qi_69 : Cond.code qr_69.2.2.2.1 qr_69.2.1 qr_69.2.2.1 qr_69.2.2.2.2.1 ∈ lw_tbl := List.mem_of_getElem? (i := 398) rfl
set_option maxRecDepth 20000 in
theorem qi_70 : Cond.code qr_70.2.2.2.1 qr_70.2.1 qr_70.2.2.1 qr_70.2.2.2.2.1 ∈ lw_tbl := List.mem_of_getElem? (i := 525) rfl
set_option maxRecDepth 20000 in
theorem qi_71 : Cond.code qr_71.2.2.2.1 qr_71.2.1 qr_71.2.2.1 qr_71.2.2.2.2.1 ∈ lw_tbl := List.mem_of_getElem? (i := 531) rfl
set_option maxRecDepth 20000 in
theorem qi_72 : Cond.code qr_72.2.2.2.1 qr_72.2.1 qr_72.2.2.1 qr_72.2.2.2.2.1 ∈ lw_tbl := List.mem_of_getElem? (i := 535) rfl
set_option maxRecDepth 20000 in
theorem qi_73 : Cond.code qr_73.2.2.2.1 qr_73.2.1 qr_73.2.2.1 qr_73.2.2.2.2.1 ∈ lw_tbl := List.mem_of_getElem? (i := 540) rfl
set_option maxRecDepth 20000 in
theorem qi_74 : Cond.code qr_74.2.2.2.1 qr_74.2.1 qr_74.2.2.1 qr_74.2.2.2.2.1 ∈ lw_tbl := List.mem_of_getElem? (i := 543) rfl
set_option maxRecDepth 20000 in
theorem qi_75 : Cond.code qr_75.2.2.2.1 qr_75.2.1 qr_75.2.2.1 qr_75.2.2.2.2.1 ∈ lw_tbl := List.mem_of_getElem? (i := 576) rfl
set_option maxRecDepth 20000 in
theorem qi_76 : Cond.code qr_76.2.2.2.1 qr_76.2.1 qr_76.2.2.1 qr_76.2.2.2.2.1 ∈ lw_tbl := List.mem_of_getElem? (i := 584) rfl
set_option maxRecDepth 20000 in
theorem qi_77 : Cond.code qr_77.2.2.2.1 qr_77.2.1 qr_77.2.2.1 qr_77.2.2.2.2.1 ∈ lw_tbl := List.mem_of_getElem? (i := 588) rfl
set_option maxRecDepth 20000 in
theorem qi_78 : Cond.code qr_78.2.2.2.1 qr_78.2.1 qr_78.2.2.1 qr_78.2.2.2.2.1 ∈ lw_tbl := List.mem_of_getElem? (i := 591) rfl
set_option maxRecDepth 20000 in
theorem qi_79 : Cond.code qr_79.2.2.2.1 qr_79.2.1 qr_79.2.2.1 qr_79.2.2.2.2.1 ∈ lw_tbl := List.mem_of_getElem? (i := 595) rfl
set_option maxRecDepth 20000 in
theorem qi_80 : Cond.code qr_80.2.2.2.1 qr_80.2.1 qr_80.2.2.1 qr_80.2.2.2.2.1 ∈ lw_tbl := List.mem_of_getElem? (i := 598) rfl
set_option maxRecDepth 20000 in
theorem qi_81 : Cond.code qr_81.2.2.2.1 qr_81.2.1 qr_81.2.2.1 qr_81.2.2.2.2.1 ∈ lw_tbl := List.mem_of_getElem? (i := 615) rfl
set_option maxRecDepth 20000 in
theorem qi_82 : Cond.code qr_82.2.2.2.1 qr_82.2.1 qr_82.2.2.1 qr_82.2.2.2.2.1 ∈ lw_tbl := List.mem_of_getElem? (i := 619) rfl
set_option maxRecDepth 20000 in
theorem qi_83 : Cond.code qr_83.2.2.2.1 qr_83.2.1 qr_83.2.2.1 qr_83.2.2.2.2.1 ∈ lw_tbl := List.mem_of_getElem? (i := 665) rfl
set_option maxRecDepth 20000 in
theorem qi_84 : Cond.code qr_84.2.2.2.1 qr_84.2.1 qr_84.2.2.1 qr_84.2.2.2.2.1 ∈ lw_tbl := List.mem_of_getElem? (i := 693) rfl
set_option maxRecDepth 20000 in
theorem qi_85 : Cond.code qr_85.2.2.2.1 qr_85.2.1 qr_85.2.2.1 qr_85.2.2.2.2.1 ∈ lw_tbl := List.mem_of_getElem? (i := 697) rfl
set_option maxRecDepth 20000 in
theorem qi_86 : Cond.code qr_86.2.2.2.1 qr_86.2.1 qr_86.2.2.1 qr_86.2.2.2.2.1 ∈ lw_tbl := List.mem_of_getElem? (i := 708) rfl
set_option maxRecDepth 20000 in
theorem qi_87 : Cond.code qr_87.2.2.2.1 qr_87.2.1 qr_87.2.2.1 qr_87.2.2.2.2.1 ∈ lw_tbl := List.mem_of_getElem? (i := 714) rfl
set_option maxRecDepth 20000 in
theorem qi_88 : Cond.code qr_88.2.2.2.1 qr_88.2.1 qr_88.2.2.1 qr_88.2.2.2.2.1 ∈ lw_tbl := List.mem_of_getElem? (i := 718) rfl
set_option maxRecDepth 20000 in
theorem qi_89 : Cond.code qr_89.2.2.2.1 qr_89.2.1 qr_89.2.2.1 qr_89.2.2.2.2.1 ∈ lw_tbl := List.mem_of_getElem? (i := 738) rfl
set_option maxRecDepth 20000 in
theorem qi_90 : Cond.code qr_90.2.2.2.1 qr_90.2.1 qr_90.2.2.1 qr_90.2.2.2.2.1 ∈ lw_tbl := List.mem_of_getElem? (i := 746) rfl
set_option maxRecDepth 20000 in
theorem qi_91 : Cond.code qr_91.2.2.2.1 qr_91.2.1 qr_91.2.2.1 qr_91.2.2.2.2.1 ∈ lw_tbl := List.mem_of_getElem? (i := 750) rfl
set_option maxRecDepth 20000 in
theorem qi_92 : Cond.code qr_92.2.2.2.1 qr_92.2.1 qr_92.2.2.1 qr_92.2.2.2.2.1 ∈ lw_tbl := List.mem_of_getElem? (i := 766) rfl
set_option maxRecDepth 20000 in
theorem qi_93 : Cond.code qr_93.2.2.2.1 qr_93.2.1 qr_93.2.2.1 qr_93.2.2.2.2.1 ∈ lw_tbl := List.mem_of_getElem? (i := 782) rfl
set_option maxRecDepth 20000 in
theorem qi_94 : Cond.code qr_94.2.2.2.1 qr_94.2.1 qr_94.2.2.1 qr_94.2.2.2.2.1 ∈ lw_tbl := List.mem_of_getElem? (i := 821) rfl
set_option maxRecDepth 20000 in
theorem qi_95 : Cond.code qr_95.2.2.2.1 qr_95.2.1 qr_95.2.2.1 qr_95.2.2.2.2.1 ∈ lw_tbl := List.mem_of_getElem? (i := 824) rfl
set_option maxRecDepth 20000 in
theorem qi_96 : Cond.code qr_96.2.2.2.1 qr_96.2.1 qr_96.2.2.1 qr_96.2.2.2.2.1 ∈ lw_tbl := List.mem_of_getElem? (i := 835) rfl
set_option maxRecDepth 20000 in
theorem qi_97 : Cond.code qr_97.2.2.2.1 qr_97.2.1 qr_97.2.2.1 qr_97.2.2.2.2.1 ∈ lw_tbl := List.mem_of_getElem? (i := 839) rfl
set_option maxRecDepth 20000 in
theorem qi_98 : Cond.code qr_98.2.2.2.1 qr_98.2.1 qr_98.2.2.1 qr_98.2.2.2.2.1 ∈ lw_tbl := List.mem_of_getElem? (i := 847) rfl
set_option maxRecDepth 20000 in
theorem qi_99 : Cond.code qr_99.2.2.2.1 qr_99.2.1 qr_99.2.2.1 qr_99.2.2.2.2.1 ∈ lw_tbl := List.mem_of_getElem? (i := 963) rfl
set_option maxRecDepth 20000 in
theorem qi_100 : Cond.code qr_100.2.2.2.1 qr_100.2.1 qr_100.2.2.1 qr_100.2.2.2.2.1 ∈ lw_tbl := List.mem_of_getElem? (i := 967) rfl
set_option maxRecDepth 20000 in
theorem qi_101 : Cond.code qr_101.2.2.2.1 qr_101.2.1 qr_101.2.2.1 qr_101.2.2.2.2.1 ∈ lw_tbl := List.mem_of_getElem? (i := 972) rfl
set_option maxRecDepth 20000 in
theorem qi_102 : Cond.code qr_102.2.2.2.1 qr_102.2.1 qr_102.2.2.1 qr_102.2.2.2.2.1 ∈ lw_tbl := List.mem_of_getElem? (i := 976) rfl
set_option maxRecDepth 20000 in
theorem qi_103 : Cond.code qr_103.2.2.2.1 qr_103.2.1 qr_103.2.2.1 qr_103.2.2.2.2.1 ∈ lw_tbl := List.mem_of_getElem? (i := 980) rfl
set_option maxRecDepth 20000 in
theorem qi_104 : Cond.code qr_104.2.2.2.1 qr_104.2.1 qr_104.2.2.1 qr_104.2.2.2.2.1 ∈ lw_tbl := List.mem_of_getElem? (i := 984) rfl
set_option maxRecDepth 20000 in
theorem qi_105 : Cond.code qr_105.2.2.2.1 qr_105.2.1 qr_105.2.2.1 qr_105.2.2.2.2.1 ∈ lw_tbl := List.mem_of_getElem? (i := 988) rfl
set_option maxRecDepth 20000 in
theorem qi_106 : Cond.code qr_106.2.2.2.1 qr_106.2.1 qr_106.2.2.1 qr_106.2.2.2.2.1 ∈ lw_tbl := List.mem_of_getElem? (i := 997) rfl
set_option maxRecDepth 20000 in
theorem qi_107 : Cond.code qr_107.2.2.2.1 qr_107.2.1 qr_107.2.2.1 qr_107.2.2.2.2.1 ∈ lw_tbl := List.mem_of_getElem? (i := 1002) rfl
set_option maxRecDepth 20000 in
theorem qi_108 : Cond.code qr_108.2.2.2.1 qr_108.2.1 qr_108.2.2.1 qr_108.2.2.2.2.1 ∈ lw_tbl := List.mem_of_getElem? (i := 1008) rfl
set_option maxRecDepth 20000 in
theorem qi_109 : Cond.code qr_109.2.2.2.1 qr_109.2.1 qr_109.2.2.1 qr_109.2.2.2.2.1 ∈ lw_tbl := List.mem_of_getElem? (i := 1011) rfl
set_option maxRecDepth 20000 in
theorem qi_110 : Cond.code qr_110.2.2.2.1 qr_110.2.1 qr_110.2.2.1 qr_110.2.2.2.2.1 ∈ lw_tbl := List.mem_of_getElem? (i := 1016) rfl
set_option maxRecDepth 20000 in
theorem qi_111 : Cond.code qr_111.2.2.2.1 qr_111.2.1 qr_111.2.2.1 qr_111.2.2.2.2.1 ∈ lw_tbl := List.mem_of_getElem? (i := 1022) rfl
set_option maxRecDepth 20000 in
theorem qi_112 : Cond.code qr_112.2.2.2.1 qr_112.2.1 qr_112.2.2.1 qr_112.2.2.2.2.1 ∈ lw_tbl := List.mem_of_getElem? (i := 1026) rfl
set_option maxRecDepth 20000 in
theorem qi_113 : Cond.code qr_113.2.2.2.1 qr_113.2.1 qr_113.2.2.1 qr_113.2.2.2.2.1 ∈ lw_tbl := List.mem_of_getElem? (i := 1030) rfl
set_option maxRecDepth 20000 in
theorem qi_114 : Cond.code qr_114.2.2.2.1 qr_114.2.1 qr_114.2.2.1 qr_114.2.2.2.2.1 ∈ lw_tbl := List.mem_of_getElem? (i := 1034) rfl
set_option maxRecDepth 20000 in
theorem qi_115 : Cond.code qr_115.2.2.2.1 qr_115.2.1 qr_115.2.2.1 qr_115.2.2.2.2.1 ∈ lw_tbl := List.mem_of_getElem? (i := 1038) rfl
set_option maxRecDepth 20000 in
theorem qi_116 : Cond.code qr_116.2.2.2.1 qr_116.2.1 qr_116.2.2.1 qr_116.2.2.2.2.1 ∈ lw_tbl := List.mem_of_getElem? (i := 1042) rfl
set_option maxRecDepth 20000 in
theorem qi_117 : Cond.code qr_117.2.2.2.1 qr_117.2.1 qr_117.2.2.1 qr_117.2.2.2.2.1 ∈ lw_tbl := List.mem_of_getElem? (i := 1047) rfl
set_option maxRecDepth 20000 in
theorem qi_118 : Cond.code qr_118.2.2.2.1 qr_118.2.1 qr_118.2.2.1 qr_118.2.2.2.2.1 ∈ lw_tbl := List.mem_of_getElem? (i := 1051) rfl
set_option maxRecDepth 20000 in
theorem qi_119 : Cond.code qr_119.2.2.2.1 qr_119.2.1 qr_119.2.2.1 qr_119.2.2.2.2.1 ∈ lw_tbl := List.mem_of_getElem? (i := 1055) rfl
set_option maxRecDepth 20000 in
theorem qi_120 : Cond.code qr_120.2.2.2.1 qr_120.2.1 qr_120.2.2.1 qr_120.2.2.2.2.1 ∈ lw_tbl := List.mem_of_getElem? (i := 1059) rfl
set_option maxRecDepth 20000 in
theorem qi_121 : Cond.code qr_121.2.2.2.1 qr_121.2.1 qr_121.2.2.1 qr_121.2.2.2.2.1 ∈ lw_tbl := List.mem_of_getElem? (i := 1063) rfl
set_option maxRecDepth 20000 in
theorem qi_122 : Cond.code qr_122.2.2.2.1 qr_122.2.1 qr_122.2.2.1 qr_122.2.2.2.2.1 ∈ lw_tbl := List.mem_of_getElem? (i := 1067) rfl
set_option maxRecDepth 20000 in
theorem qi_123 : Cond.code qr_123.2.2.2.1 qr_123.2.1 qr_123.2.2.1 qr_123.2.2.2.2.1 ∈ lw_tbl := List.mem_of_getElem? (i := 1071) rfl
set_option maxRecDepth 20000 in
theorem qi_124 : Cond.code qr_124.2.2.2.1 qr_124.2.1 qr_124.2.2.1 qr_124.2.2.2.2.1 ∈ lw_tbl := List.mem_of_getElem? (i := 1075) rfl
set_option maxRecDepth 20000 in
theorem qi_125 : Cond.code qr_125.2.2.2.1 qr_125.2.1 qr_125.2.2.1 qr_125.2.2.2.2.1 ∈ lw_tbl := List.mem_of_getElem? (i := 1081) rfl
set_option maxRecDepth 20000 in
theorem qi_126 : Cond.code qr_126.2.2.2.1 qr_126.2.1 qr_126.2.2.1 qr_126.2.2.2.2.1 ∈ lw_tbl := List.mem_of_getElem? (i := 1085) rfl
set_option maxRecDepth 20000 in
theorem qi_127 : Cond.code qr_127.2.2.2.1 qr_127.2.1 qr_127.2.2.1 qr_127.2.2.2.2.1 ∈ lw_tbl := List.mem_of_getElem? (i := 1089) rfl
set_option maxRecDepth 20000 in
theorem qi_128 : Cond.code qr_128.2.2.2.1 qr_128.2.1 qr_128.2.2.1 qr_128.2.2.2.2.1 ∈ lw_tbl := List.mem_of_getElem? (i := 1094) rfl
set_option maxRecDepth 20000 in
theorem qi_129 : Cond.code qr_129.2.2.2.1 qr_129.2.1 qr_129.2.2.1 qr_129.2.2.2.2.1 ∈ lw_tbl := List.mem_of_getElem? (i := 1098) rfl
set_option maxRecDepth 20000 in
theorem qi_130 : Cond.code qr_130.2.2.2.1 qr_130.2.1 qr_130.2.2.1 qr_130.2.2.2.2.1 ∈ lw_tbl := List.mem_of_getElem? (i := 1102) rfl
set_option maxRecDepth 20000 in
theorem qi_131 : Cond.code qr_131.2.2.2.1 qr_131.2.1 qr_131.2.2.1 qr_131.2.2.2.2.1 ∈ lw_tbl := List.mem_of_getElem? (i := 1106) rfl
set_option maxRecDepth 20000 in
theorem qi_132 : Cond.code qr_132.2.2.2.1 qr_132.2.1 qr_132.2.2.1 qr_132.2.2.2.2.1 ∈ lw_tbl := List.mem_of_getElem? (i := 1110) rfl
set_option maxRecDepth 20000 in
theorem qi_133 : Cond.code qr_133.2.2.2.1 qr_133.2.1 qr_133.2.2.1 qr_133.2.2.2.2.1 ∈ lw_tbl := List.mem_of_getElem? (i := 1114) rfl
set_option maxRecDepth 20000 in
theorem qi_134 : Cond.code qr_134.2.2.2.1 qr_134.2.1 qr_134.2.2.1 qr_134.2.2.2.2.1 ∈ lw_tbl := List.mem_of_getElem? (i := 1118) rfl
set_option maxRecDepth 20000 in
theorem qi_135 : Cond.code qr_135.2.2.2.1 qr_135.2.1 qr_135.2.2.1 qr_135.2.2.2.2.1 ∈ lw_tbl := List.mem_of_getElem? (i := 1122) rfl
set_option maxRecDepth 20000 in
theorem qi_136 : Cond.code qr_136.2.2.2.1 qr_136.2.1 qr_136.2.2.1 qr_136.2.2.2.2.1 ∈ lw_tbl := List.mem_of_getElem? (i := 1125) rfl
set_option maxRecDepth 20000 in
theorem qi_137 : Cond.code qr_137.2.2.2.1 qr_137.2.1 qr_137.2.2.1 qr_137.2.2.2.2.1 ∈ lw_tbl := List.mem_of_getElem? (i := 1129) rfl
set_option maxRecDepth 20000 in
theorem qi_138 : Cond.code qr_138.2.2.2.1 qr_138.2.1 qr_138.2.2.1 qr_138.2.2.2.2.1 ∈ lw_tbl := List.mem_of_getElem? (i := 1133) rfl
set_option maxRecDepth 20000 in
theorem qi_139 : Cond.code qr_139.2.2.2.1 qr_139.2.1 qr_139.2.2.1 qr_139.2.2.2.2.1 ∈ lw_tbl := List.mem_of_getElem? (i := 1137) rfl
set_option maxRecDepth 20000 in
theorem qi_140 : Cond.code qr_140.2.2.2.1 qr_140.2.1 qr_140.2.2.1 qr_140.2.2.2.2.1 ∈ lw_tbl := List.mem_of_getElem? (i := 1141) rfl
set_option maxRecDepth 20000 in
theorem qi_141 : Cond.code qr_141.2.2.2.1 qr_141.2.1 qr_141.2.2.1 qr_141.2.2.2.2.1 ∈ lw_tbl := List.mem_of_getElem? (i := 1145) rfl
set_option maxRecDepth 20000 in
theorem qi_142 : Cond.code qr_142.2.2.2.1 qr_142.2.1 qr_142.2.2.1 qr_142.2.2.2.2.1 ∈ lw_tbl := List.mem_of_getElem? (i := 1149) rfl
set_option maxRecDepth 20000 in
theorem qi_143 : Cond.code qr_143.2.2.2.1 qr_143.2.1 qr_143.2.2.1 qr_143.2.2.2.2.1 ∈ lw_tbl := List.mem_of_getElem? (i := 1159) rfl
set_option maxRecDepth 20000 in
theorem qi_144 : Cond.code qr_144.2.2.2.1 qr_144.2.1 qr_144.2.2.1 qr_144.2.2.2.2.1 ∈ lw_tbl := List.mem_of_getElem? (i := 1163) rfl
set_option maxRecDepth 20000 in
theorem qi_145 : Cond.code qr_145.2.2.2.1 qr_145.2.1 qr_145.2.2.1 qr_145.2.2.2.2.1 ∈ lw_tbl := List.mem_of_getElem? (i := 1167) rfl
set_option maxRecDepth 20000 in
theorem qi_146 : Cond.code qr_146.2.2.2.1 qr_146.2.1 qr_146.2.2.1 qr_146.2.2.2.2.1 ∈ lw_tbl := List.mem_of_getElem? (i := 1171) rfl
set_option maxRecDepth 20000 in
theorem qi_147 : Cond.code qr_147.2.2.2.1 qr_147.2.1 qr_147.2.2.1 qr_147.2.2.2.2.1 ∈ lw_tbl := List.mem_of_getElem? (i := 1175) rfl
set_option maxRecDepth 20000 in
theorem qi_148 : Cond.code qr_148.2.2.2.1 qr_148.2.1 qr_148.2.2.1 qr_148.2.2.2.2.1 ∈ lw_tbl := List.mem_of_getElem? (i := 423) rfl
set_option maxRecDepth 20000 in
theorem qi_149 : Cond.code qr_149.2.2.2.1 qr_149.2.1 qr_149.2.2.1 qr_149.2.2.2.2.1 ∈ lw_tbl := List.mem_of_getElem? (i := 427) rfl
set_option maxRecDepth 20000 in
theorem qi_150 : Cond.code qr_150.2.2.2.1 qr_150.2.1 qr_150.2.2.1 qr_150.2.2.2.2.1 ∈ lw_tbl := List.mem_of_getElem? (i := 433) rfl
set_option maxRecDepth 20000 in
theorem qi_151 : Cond.code qr_151.2.2.2.1 qr_151.2.1 qr_151.2.2.1 qr_151.2.2.2.2.1 ∈ lw_tbl := List.mem_of_getElem? (i := 437) rfl
set_option maxRecDepth 20000 in
theorem qi_152 : Cond.code qr_152.2.2.2.1 qr_152.2.1 qr_152.2.2.1 qr_152.2.2.2.2.1 ∈ lw_tbl := List.mem_of_getElem? (i := 443) rfl
set_option maxRecDepth 20000 in
theorem qi_153 : Cond.code qr_153.2.2.2.1 qr_153.2.1 qr_153.2.2.1 qr_153.2.2.2.2.1 ∈ lw_tbl := List.mem_of_getElem? (i := 440) rfl
set_option maxRecDepth 20000 in
theorem qi_154 : Cond.code qr_154.2.2.2.1 qr_154.2.1 qr_154.2.2.1 qr_154.2.2.2.2.1 ∈ lw_tbl := List.mem_of_getElem? (i := 448) rfl
set_option maxRecDepth 20000 in
theorem qi_155 : Cond.code qr_155.2.2.2.1 qr_155.2.1 qr_155.2.2.1 qr_155.2.2.2.2.1 ∈ lw_tbl := List.mem_of_getElem? (i := 482) rfl
set_option maxRecDepth 20000 in
theorem qi_156 : Cond.code qr_156.2.2.2.1 qr_156.2.1 qr_156.2.2.1 qr_156.2.2.2.2.1 ∈ lw_tbl := List.mem_of_getElem? (i := 815) rfl
set_option maxRecDepth 20000 in
theorem qi_157 : Cond.code qr_157.2.2.2.1 qr_157.2.1 qr_157.2.2.1 qr_157.2.2.2.2.1 ∈ lw_tbl := List.mem_of_getElem? (i := 722) rfl
set_option maxRecDepth 20000 in
theorem qi_158 : Cond.code qr_158.2.2.2.1 qr_158.2.1 qr_158.2.2.1 qr_158.2.2.2.2.1 ∈ lw_tbl := List.mem_of_getElem? (i := 186) rfl
theorem qic_0 : ∀ r ∈ ([qr_0, qr_1, qr_2, qr_3, qr_4, qr_5, qr_6, qr_7, qr_8, qr_9, qr_10, qr_11, qr_12, qr_13, qr_14, qr_15, qr_16, qr_17, qr_18, qr_19] : List QRow), Cond.code r.2.2.2.1 r.2.1 r.2.2.1 r.2.2.2.2.1 ∈ lw_tbl := (List.forall_mem_cons.mpr ⟨qi_0, (List.forall_mem_cons.mpr ⟨qi_1, (List.forall_mem_cons.mpr ⟨qi_2, (List.forall_mem_cons.mpr ⟨qi_3, (List.forall_mem_cons.mpr ⟨qi_4, (List.forall_mem_cons.mpr ⟨qi_5, (List.forall_mem_cons.mpr ⟨qi_6, (List.forall_mem_cons.mpr ⟨qi_7, (List.forall_mem_cons.mpr ⟨qi_8, (List.forall_mem_cons.mpr ⟨qi_9, (List.forall_mem_cons.mpr ⟨qi_10, (List.forall_mem_cons.mpr ⟨qi_11, (List.forall_mem_cons.mpr ⟨qi_12, (List.forall_mem_cons.mpr ⟨qi_13, (List.forall_mem_cons.mpr ⟨qi_14, (List.forall_mem_cons.mpr ⟨qi_15, (List.forall_mem_cons.mpr ⟨qi_16, (List.forall_mem_cons.mpr ⟨qi_17, (List.forall_mem_cons.mpr ⟨qi_18, (List.forall_mem_cons.mpr ⟨qi_19, (fun _ h => absurd h List.not_mem_nil)⟩)⟩)⟩)⟩)⟩)⟩)⟩)⟩)⟩)⟩)⟩)⟩)⟩)⟩)⟩)⟩)⟩)⟩)⟩)⟩)
theorem qic_1 : ∀ r ∈ ([qr_20, qr_21, qr_22, qr_23, qr_24, qr_25, qr_26, qr_27, qr_28, qr_29, qr_30, qr_31, qr_32, qr_33, qr_34, qr_35, qr_36, qr_37, qr_38, qr_39] : List QRow), Cond.code r.2.2.2.1 r.2.1 r.2.2.1 r.2.2.2.2.1 ∈ lw_tbl := (List.forall_mem_cons.mpr ⟨qi_20, (List.forall_mem_cons.mpr ⟨qi_21, (List.forall_mem_cons.mpr ⟨qi_22, (List.forall_mem_cons.mpr ⟨qi_23, (List.forall_mem_cons.mpr ⟨qi_24, (List.forall_mem_cons.mpr ⟨qi_25, (List.forall_mem_cons.mpr ⟨qi_26, (List.forall_mem_cons.mpr ⟨qi_27, (List.forall_mem_cons.mpr ⟨qi_28, (List.forall_mem_cons.mpr ⟨qi_29, (List.forall_mem_cons.mpr ⟨qi_30, (List.forall_mem_cons.mpr ⟨qi_31, (List.forall_mem_cons.mpr ⟨qi_32, (List.forall_mem_cons.mpr ⟨qi_33, (List.forall_mem_cons.mpr ⟨qi_34, (List.forall_mem_cons.mpr ⟨qi_35, (List.forall_mem_cons.mpr ⟨qi_36, (List.forall_mem_cons.mpr ⟨qi_37, (List.forall_mem_cons.mpr ⟨qi_38, (List.forall_mem_cons.mpr ⟨qi_39, (fun _ h => absurd h List.not_mem_nil)⟩)⟩)⟩)⟩)⟩)⟩)⟩)⟩)⟩)⟩)⟩)⟩)⟩)⟩)⟩)⟩)⟩)⟩)⟩)⟩)
theorem qic_2 : ∀ r ∈ ([qr_40, qr_41, qr_42, qr_43, qr_44, qr_45, qr_46, qr_47, qr_48, qr_49, qr_50, qr_51, qr_52, qr_53, qr_54, qr_55, qr_56, qr_57, qr_58, qr_59] : List QRow), Cond.code r.2.2.2.1 r.2.1 r.2.2.1 r.2.2.2.2.1 ∈ lw_tbl := (List.forall_mem_cons.mpr ⟨qi_40, (List.forall_mem_cons.mpr ⟨qi_41, (List.forall_mem_cons.mpr ⟨qi_42, (List.forall_mem_cons.mpr ⟨qi_43, (List.forall_mem_cons.mpr ⟨qi_44, (List.forall_mem_cons.mpr ⟨qi_45, (List.forall_mem_cons.mpr ⟨qi_46, (List.forall_mem_cons.mpr ⟨qi_47, (List.forall_mem_cons.mpr ⟨qi_48, (List.forall_mem_cons.mpr ⟨qi_49, (List.forall_mem_cons.mpr ⟨qi_50, (List.forall_mem_cons.mpr ⟨qi_51, (List.forall_mem_cons.mpr ⟨qi_52, (List.forall_mem_cons.mpr ⟨qi_53, (List.forall_mem_cons.mpr ⟨qi_54, (List.forall_mem_cons.mpr ⟨qi_55, (List.forall_mem_cons.mpr ⟨qi_56, (List.forall_mem_cons.mpr ⟨qi_57, (List.forall_mem_cons.mpr ⟨qi_58, (List.forall_mem_cons.mpr ⟨qi_59, (fun _ h => absurd h List.not_mem_nil)⟩)⟩)⟩)⟩)⟩)⟩)⟩)⟩)⟩)⟩)⟩)⟩)⟩)⟩)⟩)⟩)⟩)⟩)⟩)⟩)
theorem qic_3 : ∀ r ∈ ([qr_60, qr_61, qr_62, qr_63, qr_64, qr_65, qr_66, qr_67, qr_68, qr_69, qr_70, qr_71, qr_72, qr_73, qr_74, qr_75, qr_76, qr_77, qr_78, qr_79] : List QRow), Cond.code r.2.2.2.1 r.2.1 r.2.2.1 r.2.2.2.2.1 ∈ lw_tbl := (List.forall_mem_cons.mpr ⟨qi_60, (List.forall_mem_cons.mpr ⟨qi_61, (List.forall_mem_cons.mpr ⟨qi_62, (List.forall_mem_cons.mpr ⟨qi_63, (List.forall_mem_cons.mpr ⟨qi_64, (List.forall_mem_cons.mpr ⟨qi_65, (List.forall_mem_cons.mpr ⟨qi_66, (List.forall_mem_cons.mpr ⟨qi_67, (List.forall_mem_cons.mpr ⟨qi_68, (List.forall_mem_cons.mpr ⟨qi_69, (List.forall_mem_cons.mpr ⟨qi_70, (List.forall_mem_cons.mpr ⟨qi_71, (List.forall_mem_cons.mpr ⟨qi_72, (List.forall_mem_cons.mpr ⟨qi_73, (List.forall_mem_cons.mpr ⟨qi_74, (List.forall_mem_cons.mpr ⟨qi_75, (List.forall_mem_cons.mpr ⟨qi_76, (List.forall_mem_cons.mpr ⟨qi_77, (List.forall_mem_cons.mpr ⟨qi_78, (List.forall_mem_cons.mpr ⟨qi_79, (fun _ h => absurd h List.not_mem_nil)⟩)⟩)⟩)⟩)⟩)⟩)⟩)⟩)⟩)⟩)⟩)⟩)⟩)⟩)⟩)⟩)⟩)⟩)⟩)⟩)
theorem qic_4 : ∀ r ∈ ([qr_80, qr_81, qr_82, qr_83, qr_84, qr_85, qr_86, qr_87, qr_88, qr_89, qr_90, qr_91, qr_92, qr_93, qr_94, qr_95, qr_96, qr_97, qr_98, qr_99] : List QRow), Cond.code r.2.2.2.1 r.2.1 r.2.2.1 r.2.2.2.2.1 ∈ lw_tbl := (List.forall_mem_cons.mpr ⟨qi_80, (List.forall_mem_cons.mpr ⟨qi_81, (List.forall_mem_cons.mpr ⟨qi_82, (List.forall_mem_cons.mpr ⟨qi_83, (List.forall_mem_cons.mpr ⟨qi_84, (List.forall_mem_cons.mpr ⟨qi_85, (List.forall_mem_cons.mpr ⟨qi_86, (List.forall_mem_cons.mpr ⟨qi_87, (List.forall_mem_cons.mpr ⟨qi_88, (List.forall_mem_cons.mpr ⟨qi_89, (List.forall_mem_cons.mpr ⟨qi_90, (List.forall_mem_cons.mpr ⟨qi_91, (List.forall_mem_cons.mpr ⟨qi_92, (List.forall_mem_cons.mpr ⟨qi_93, (List.forall_mem_cons.mpr ⟨qi_94, (List.forall_mem_cons.mpr ⟨qi_95, (List.forall_mem_cons.mpr ⟨qi_96, (List.forall_mem_cons.mpr ⟨qi_97, (List.forall_mem_cons.mpr ⟨qi_98, (List.forall_mem_cons.mpr ⟨qi_99, (fun _ h => absurd h List.not_mem_nil)⟩)⟩)⟩)⟩)⟩)⟩)⟩)⟩)⟩)⟩)⟩)⟩)⟩)⟩)⟩)⟩)⟩)⟩)⟩)⟩)
theorem qic_5 : ∀ r ∈ ([qr_100, qr_101, qr_102, qr_103, qr_104, qr_105, qr_106, qr_107, qr_108, qr_109, qr_110, qr_111, qr_112, qr_113, qr_114, qr_115, qr_116, qr_117, qr_118, qr_119] : List QRow), Cond.code r.2.2.2.1 r.2.1 r.2.2.1 r.2.2.2.2.1 ∈ lw_tbl := (List.forall_mem_cons.mpr ⟨qi_100, (List.forall_mem_cons.mpr ⟨qi_101, (List.forall_mem_cons.mpr ⟨qi_102, (List.forall_mem_cons.mpr ⟨qi_103, (List.forall_mem_cons.mpr ⟨qi_104, (List.forall_mem_cons.mpr ⟨qi_105, (List.forall_mem_cons.mpr ⟨qi_106, (List.forall_mem_cons.mpr ⟨qi_107, (List.forall_mem_cons.mpr ⟨qi_108, (List.forall_mem_cons.mpr ⟨qi_109, (List.forall_mem_cons.mpr ⟨qi_110, (List.forall_mem_cons.mpr ⟨qi_111, (List.forall_mem_cons.mpr ⟨qi_112, (List.forall_mem_cons.mpr ⟨qi_113, (List.forall_mem_cons.mpr ⟨qi_114, (List.forall_mem_cons.mpr ⟨qi_115, (List.forall_mem_cons.mpr ⟨qi_116, (List.forall_mem_cons.mpr ⟨qi_117, (List.forall_mem_cons.mpr ⟨qi_118, (List.forall_mem_cons.mpr ⟨qi_119, (fun _ h => absurd h List.not_mem_nil)⟩)⟩)⟩)⟩)⟩)⟩)⟩)⟩)⟩)⟩)⟩)⟩)⟩)⟩)⟩)⟩)⟩)⟩)⟩)⟩)
theorem qic_6 : ∀ r ∈ ([qr_120, qr_121, qr_122, qr_123, qr_124, qr_125, qr_126, qr_127, qr_128, qr_129, qr_130, qr_131, qr_132, qr_133, qr_134, qr_135, qr_136, qr_137, qr_138, qr_139] : List QRow), Cond.code r.2.2.2.1 r.2.1 r.2.2.1 r.2.2.2.2.1 ∈ lw_tbl := (List.forall_mem_cons.mpr ⟨qi_120, (List.forall_mem_cons.mpr ⟨qi_121, (List.forall_mem_cons.mpr ⟨qi_122, (List.forall_mem_cons.mpr ⟨qi_123, (List.forall_mem_cons.mpr ⟨qi_124, (List.forall_mem_cons.mpr ⟨qi_125, (List.forall_mem_cons.mpr ⟨qi_126, (List.forall_mem_cons.mpr ⟨qi_127, (List.forall_mem_cons.mpr ⟨qi_128, (List.forall_mem_cons.mpr ⟨qi_129, (List.forall_mem_cons.mpr ⟨qi_130, (List.forall_mem_cons.mpr ⟨qi_131, (List.forall_mem_cons.mpr ⟨qi_132, (List.forall_mem_cons.mpr ⟨qi_133, (List.forall_mem_cons.mpr ⟨qi_134, (List.forall_mem_cons.mpr ⟨qi_135, (List.forall_mem_cons.mpr ⟨qi_136, (List.forall_mem_cons.mpr ⟨qi_137, (List.forall_mem_cons.mpr ⟨qi_138, (List.forall_mem_cons.mpr ⟨qi_139, (fun _ h => absurd h List.not_mem_nil)⟩)⟩)⟩)⟩)⟩)⟩)⟩)⟩)⟩)⟩)⟩)⟩)⟩)⟩)⟩)⟩)⟩)⟩)⟩)⟩)
theorem qic_7 : ∀ r ∈ ([qr_140, qr_141, qr_142, qr_143, qr_144, qr_145, qr_146, qr_147, qr_148, qr_149, qr_150, qr_151, qr_152, qr_153, qr_154, qr_155, qr_156, qr_157, qr_158] : List QRow), Cond.code r.2.2.2.1 r.2.1 r.2.2.1 r.2.2.2.2.1 ∈ lw_tbl := (List.forall_mem_cons.mpr ⟨qi_140, (List.forall_mem_cons.mpr ⟨qi_141, (List.forall_mem_cons.mpr ⟨qi_142, (List.forall_mem_cons.mpr ⟨qi_143, (List.forall_mem_cons.mpr ⟨qi_144, (List.forall_mem_cons.mpr ⟨qi_145, (List.forall_mem_cons.mpr ⟨qi_146, (List.forall_mem_cons.mpr ⟨qi_147, (List.forall_mem_cons.mpr ⟨qi_148, (List.forall_mem_cons.mpr ⟨qi_149, (List.forall_mem_cons.mpr ⟨qi_150, (List.forall_mem_cons.mpr ⟨qi_151, (List.forall_mem_cons.mpr ⟨qi_152, (List.forall_mem_cons.mpr ⟨qi_153, (List.forall_mem_cons.mpr ⟨qi_154, (List.forall_mem_cons.mpr ⟨qi_155, (List.forall_mem_cons.mpr ⟨qi_156, (List.forall_mem_cons.mpr ⟨qi_157, (List.forall_mem_cons.mpr ⟨qi_158, (fun _ h => absurd h List.not_mem_nil)⟩)⟩)⟩)⟩)⟩)⟩)⟩)⟩)⟩)⟩)⟩)⟩)⟩)⟩)⟩)⟩)⟩)⟩)⟩)
theorem qmt_in : ∀ r ∈ qmt, Cond.code r.2.2.2.1 r.2.1 r.2.2.1 r.2.2.2.2.1 ∈ lw_tbl := by
  show ∀ r ∈ ([qr_0, qr_1, qr_2, qr_3, qr_4, qr_5, qr_6, qr_7, qr_8, qr_9, qr_10, qr_11, qr_12, qr_13, qr_14, qr_15, qr_16, qr_17, qr_18, qr_19] ++ ([qr_20, qr_21, qr_22, qr_23, qr_24, qr_25, qr_26, qr_27, qr_28, qr_29, qr_30, qr_31, qr_32, qr_33, qr_34, qr_35, qr_36, qr_37, qr_38, qr_39] ++ ([qr_40, qr_41, qr_42, qr_43, qr_44, qr_45, qr_46, qr_47, qr_48, qr_49, qr_50, qr_51, qr_52, qr_53, qr_54, qr_55, qr_56, qr_57, qr_58, qr_59] ++ ([qr_60, qr_61, qr_62, qr_63, qr_64, qr_65, qr_66, qr_67, qr_68, qr_69, qr_70, qr_71, qr_72, qr_73, qr_74, qr_75, qr_76, qr_77, qr_78, qr_79] ++ ([qr_80, qr_81, qr_82, qr_83, qr_84, qr_85, qr_86, qr_87, qr_88, qr_89, qr_90, qr_91, qr_92, qr_93, qr_94, qr_95, qr_96, qr_97, qr_98, qr_99] ++ ([qr_100, qr_101, qr_102, qr_103, qr_104, qr_105, qr_106, qr_107, qr_108, qr_109, qr_110, qr_111, qr_112, qr_113, qr_114, qr_115, qr_116, qr_117, qr_118, qr_119] ++ ([qr_120, qr_121, qr_122, qr_123, qr_124, qr_125, qr_126, qr_127, qr_128, qr_129, qr_130, qr_131, qr_132, qr_133, qr_134, qr_135, qr_136, qr_137, qr_138, qr_139] ++ ([qr_140, qr_141, qr_142, qr_143, qr_144, qr_145, qr_146, qr_147, qr_148, qr_149, qr_150, qr_151, qr_152, qr_153, qr_154, qr_155, qr_156, qr_157, qr_158]))))))) : List QRow), Cond.code r.2.2.2.1 r.2.1 r.2.2.1 r.2.2.2.2.1 ∈ lw_tbl
  exact List.forall_mem_append.mpr ⟨qic_0, List.forall_mem_append.mpr ⟨qic_1, List.forall_mem_append.mpr ⟨qic_2, List.forall_mem_append.mpr ⟨qic_3, List.forall_mem_append.mpr ⟨qic_4, List.forall_mem_append.mpr ⟨qic_5, List.forall_mem_append.mpr ⟨qic_6, qic_7⟩⟩⟩⟩⟩⟩⟩
/-- a call, by the caller's class and the pool's entry: 0 virtual, 1 static, 2 static of a nest mate, 3 super, 4 by the receiver's kind, 5 arraycopy; and the method -/
def qct : List ((Nat × Nat) × (Nat × Nat)) := [((0, 15), (3, 46)), ((1, 15), (3, 46)), ((1, 23), (0, 42)), ((2, 15), (3, 3)), ((3, 15), (3, 46)), ((4, 28), (0, 49)), ((4, 34), (0, 59)), ((4, 39), (1, 155)), ((5, 15), (3, 1)), ((5, 29), (1, 156)), ((6, 19), (0, 23)), ((6, 37), (0, 10)), ((6, 43), (0, 16)), ((6, 47), (0, 18)), ((6, 51), (0, 19)), ((6, 54), (0, 20)), ((6, 57), (0, 21)), ((6, 60), (0, 22)), ((6, 67), (0, 17)), ((6, 80), (0, 25)), ((6, 84), (0, 29)), ((6, 88), (0, 31)), ((6, 107), (1, 11)), ((6, 111), (0, 12)), ((6, 114), (1, 14)), ((6, 117), (0, 15)), ((6, 122), (0, 13)), ((6, 135), (0, 148)), ((6, 140), (0, 150)), ((6, 144), (1, 155)), ((7, 47), (1, 158)), ((7, 59), (0, 25)), ((7, 63), (0, 26)), ((7, 67), (0, 28)), ((7, 71), (1, 30)), ((7, 74), (0, 27)), ((7, 77), (0, 29)), ((7, 81), (2, 74)), ((7, 84), (2, 86)), ((7, 88), (0, 32)), ((7, 91), (0, 37)), ((7, 94), (0, 34)), ((8, 38), (5, 0)), ((10, 48), (0, 35)), ((10, 55), (0, 32)), ((10, 59), (0, 33)), ((10, 64), (1, 158)), ((10, 70), (0, 28)), ((10, 74), (0, 50)), ((10, 78), (0, 26)), ((10, 81), (0, 51)), ((10, 85), (0, 34)), ((10, 88), (0, 52)), ((10, 91), (1, 155)), ((10, 96), (0, 53)), ((10, 100), (1, 54)), ((10, 103), (0, 49)), ((10, 107), (0, 59)), ((10, 110), (0, 57)), ((10, 113), (0, 61)), ((10, 116), (0, 62)), ((10, 119), (2, 86)), ((10, 123), (0, 64)), ((10, 126), (0, 38)), ((10, 129), (0, 66)), ((11, 83), (0, 8)), ((11, 91), (0, 9)), ((11, 95), (0, 24)), ((11, 98), (0, 40)), ((11, 108), (0, 27)), ((11, 112), (0, 29)), ((11, 131), (0, 26)), ((11, 137), (1, 74)), ((11, 140), (0, 32)), ((11, 147), (0, 41)), ((11, 151), (0, 42)), ((11, 154), (0, 33)), ((11, 158), (0, 35)), ((11, 162), (0, 43)), ((11, 166), (0, 44)), ((11, 172), (1, 78)), ((11, 175), (1, 80)), ((11, 178), (0, 47)), ((11, 182), (0, 48)), ((11, 185), (0, 82)), ((11, 189), (0, 49)), ((11, 193), (0, 53)), ((11, 197), (1, 54)), ((11, 200), (1, 55)), ((11, 203), (0, 56)), ((11, 207), (1, 155)), ((11, 212), (0, 58)), ((11, 215), (0, 60)), ((11, 219), (0, 36)), ((11, 222), (1, 86)), ((11, 225), (0, 88)), ((11, 228), (0, 63)), ((11, 231), (0, 4)), ((11, 233), (0, 5)), ((11, 237), (0, 28)), ((11, 240), (0, 6)), ((11, 244), (0, 65)), ((11, 247), (4, 46)), ((11, 251), (1, 95)), ((11, 254), (0, 45)), ((11, 264), (0, 39)), ((11, 268), (1, 157)), ((12, 72), (1, 100)), ((12, 76), (0, 112)), ((12, 83), (1, 109)), ((12, 100), (0, 103)), ((12, 108), (1, 107)), ((12, 123), (0, 106)), ((12, 138), (0, 105)), ((12, 151), (0, 108)), ((12, 157), (0, 110)), ((12, 164), (0, 104)), ((12, 179), (0, 119)), ((12, 182), (0, 115)), ((12, 187), (0, 117)), ((12, 190), (0, 118)), ((12, 194), (0, 120)), ((12, 203), (0, 128)), ((12, 206), (0, 129)), ((12, 210), (0, 126)), ((12, 213), (0, 127)), ((12, 217), (0, 130)), ((12, 220), (0, 132)), ((12, 223), (1, 136)), ((12, 226), (0, 137)), ((12, 244), (0, 144)), ((13, 335), (0, 149)), ((13, 492), (0, 151)), ((13, 495), (1, 153)), ((13, 1059), (1, 154)), ((14, 9), (1, 152))]
def qcp : List (List Nat) := [[791, 786, 300, 784, 48], [796, 786, 279, 784, 48], [797, 554, 555, 44], [802, 1177, 286, 803, 49], [806, 786, 272, 784, 48], [755, 621, 622, 54], [756, 674, 675, 54], [762, 481, 60], [812, 1178, 293, 793, 50], [813, 814, 60], [403, 181, 182, 46], [404, 406, 0, 43], [483, 485, 4, 43], [491, 493, 6, 43], [501, 503, 7, 43], [505, 507, 8, 43], [509, 511, 9, 43], [513, 515, 10, 43], [487, 489, 5, 43], [495, 196, 197, 46], [496, 212, 213, 46], [497, 498, 499, 46], [408, 409, 43], [411, 413, 1, 43], [473, 474, 43], [476, 478, 3, 43], [416, 418, 2, 43], [420, 421, 422, 56], [430, 431, 432, 56], [480, 481, 60], [184, 185, 47], [195, 196, 197, 46], [199, 200, 201, 46], [207, 208, 209, 46], [215, 216, 46], [203, 204, 205, 46], [211, 212, 213, 46], [0, 542, 42], [0, 707, 42], [709, 545, 546, 46], [702, 703, 704, 46], [561, 562, 563, 46], [], [604, 566, 567, 46], [610, 545, 546, 46], [611, 558, 559, 46], [625, 185, 47], [626, 208, 209, 46], [627, 629, 12, 54], [631, 200, 201, 46], [632, 634, 13, 54], [637, 562, 563, 46], [638, 640, 14, 54], [636, 481, 60], [657, 643, 644, 54], [677, 648, 54], [672, 621, 622, 54], [673, 674, 675, 54], [658, 660, 15, 54], [682, 684, 16, 54], [686, 688, 17, 54], [0, 707, 42], [731, 733, 19, 54], [771, 772, 773, 46], [775, 777, 20, 54], [387, 388, 389, 43], [399, 400, 401, 43], [517, 188, 189, 46], [518, 519, 520, 44], [526, 204, 205, 46], [527, 212, 213, 46], [536, 200, 201, 46], [541, 542, 42], [544, 545, 546, 46], [549, 550, 551, 44], [553, 554, 555, 44], [557, 558, 559, 46], [565, 566, 567, 46], [569, 570, 571, 44], [577, 578, 579, 44], [589, 590, 42], [596, 597, 42], [600, 601, 602, 54], [605, 606, 607, 54], [616, 618, 11, 42], [620, 621, 622, 54], [642, 643, 644, 54], [647, 648, 54], [650, 651, 54], [653, 654, 655, 54], [667, 481, 60], [668, 669, 670, 54], [678, 679, 680, 54], [698, 699, 700, 46], [710, 707, 42], [715, 717, 18, 42], [726, 727, 728, 54], [739, 740, 741, 45], [751, 752, 753, 45], [719, 208, 209, 46], [758, 759, 760, 45], [767, 768, 769, 54], [783, 786, 784], [822, 823, 42], [825, 826, 827, 44], [840, 841, 842, 46], [720, 721, 61], [965, 966, 55], [1023, 1025, 27, 55], [1009, 1010, 55], [977, 979, 21, 55], [1000, 1001, 55], [994, 996, 24, 55], [985, 987, 23, 55], [1005, 1007, 25, 55], [1013, 1015, 26, 55], [981, 983, 22, 55], [1052, 1054, 31, 55], [1035, 1037, 28, 55], [1044, 1046, 29, 55], [1048, 1050, 30, 55], [1056, 1058, 32, 55], [1091, 1093, 35, 55], [1095, 1097, 36, 55], [1082, 1084, 33, 55], [1086, 1088, 34, 55], [1099, 1101, 37, 55], [1107, 1109, 38, 55], [1123, 1124, 55], [1126, 1128, 39, 55], [1160, 1162, 40, 55], [424, 425, 426, 56], [434, 435, 436, 56], [438, 439, 57], [446, 447, 58], [441, 442, 56]]
def qdt : List (Nat × Nat) := [(0, 0), (1, 1), (2, 2), (3, 3), (5, 7), (9, 46)]
/-- a field: its class, its place, whether a nest mate's -/
def qft : List ((Nat × Nat) × (Nat × Nat × Nat)) := [((0, 7), (11, 9, 1)), ((0, 19), (11, 4, 1)), ((0, 23), (4, 0, 0)), ((1, 7), (11, 9, 1)), ((1, 19), (11, 1, 1)), ((2, 7), (11, 9, 1)), ((3, 7), (11, 9, 1)), ((3, 19), (11, 1, 1)), ((3, 23), (8, 2, 0)), ((4, 9), (4, 0, 0)), ((4, 15), (4, 1, 0)), ((4, 19), (4, 2, 0)), ((4, 22), (4, 3, 0)), ((4, 25), (4, 4, 0)), ((5, 7), (11, 9, 1)), ((5, 19), (11, 1, 1)), ((5, 23), (8, 0, 0)), ((6, 9), (6, 0, 0)), ((6, 15), (6, 1, 0)), ((6, 24), (6, 2, 0)), ((6, 27), (6, 6, 0)), ((6, 31), (6, 7, 0)), ((6, 34), (6, 8, 0)), ((6, 40), (6, 4, 0)), ((6, 64), (6, 3, 0)), ((6, 71), (6, 5, 0)), ((6, 74), (7, 0, 0)), ((6, 77), (7, 1, 0)), ((6, 92), (7, 2, 0)), ((6, 95), (7, 3, 0)), ((6, 98), (7, 4, 0)), ((6, 101), (7, 5, 0)), ((6, 104), (7, 6, 0)), ((7, 9), (7, 7, 0)), ((7, 15), (7, 8, 0)), ((7, 24), (7, 0, 0)), ((7, 28), (7, 1, 0)), ((7, 31), (7, 2, 0)), ((7, 34), (7, 3, 0)), ((7, 37), (7, 4, 0)), ((7, 40), (7, 5, 0)), ((7, 44), (7, 6, 0)), ((8, 9), (8, 0, 0)), ((8, 15), (8, 1, 0)), ((8, 18), (8, 2, 0)), ((8, 21), (8, 3, 0)), ((8, 25), (8, 4, 0)), ((8, 29), (8, 5, 0)), ((8, 32), (8, 6, 0)), ((8, 35), (8, 7, 0)), ((9, 7), (11, 9, 1)), ((9, 13), (11, 1, 1)), ((9, 17), (8, 1, 0)), ((10, 9), (10, 1, 0)), ((10, 15), (10, 2, 0)), ((10, 19), (10, 3, 0)), ((10, 23), (10, 4, 0)), ((10, 26), (10, 5, 0)), ((10, 29), (10, 6, 0)), ((10, 32), (10, 7, 0)), ((10, 35), (10, 8, 0)), ((10, 38), (10, 9, 0)), ((10, 41), (10, 10, 0)), ((10, 44), (10, 0, 0)), ((11, 12), (11, 0, 0)), ((11, 19), (11, 1, 0)), ((11, 23), (11, 2, 0)), ((11, 27), (11, 3, 0)), ((11, 34), (11, 4, 0)), ((11, 40), (11, 5, 0)), ((11, 47), (11, 7, 0)), ((11, 51), (11, 8, 0)), ((11, 54), (11, 9, 0)), ((11, 79), (11, 6, 0)), ((11, 87), (6, 0, 0)), ((11, 101), (8, 3, 0)), ((11, 105), (4, 0, 0)), ((11, 116), (7, 2, 0)), ((11, 119), (7, 3, 0)), ((11, 122), (7, 4, 0)), ((11, 125), (7, 5, 0)), ((11, 128), (7, 6, 0)), ((11, 134), (8, 0, 0)), ((11, 144), (8, 2, 0)), ((11, 169), (8, 1, 0)), ((11, 258), (7, 0, 0)), ((11, 261), (7, 1, 0)), ((12, 7), (12, 0, 0)), ((12, 13), (12, 1, 0)), ((12, 16), (12, 4, 0)), ((12, 19), (12, 5, 0)), ((12, 22), (12, 6, 0)), ((12, 25), (12, 9, 0)), ((12, 29), (12, 11, 0)), ((12, 32), (12, 12, 0)), ((12, 36), (12, 14, 0)), ((12, 39), (12, 15, 0)), ((12, 42), (12, 21, 0)), ((12, 45), (12, 26, 0)), ((12, 48), (12, 27, 0)), ((12, 51), (12, 28, 0)), ((12, 54), (12, 29, 0)), ((12, 57), (12, 30, 0)), ((12, 60), (12, 31, 0)), ((12, 63), (12, 32, 0)), ((12, 66), (12, 33, 0)), ((12, 69), (12, 34, 0)), ((12, 80), (12, 2, 0)), ((12, 89), (12, 10, 0)), ((12, 94), (12, 24, 0)), ((12, 97), (12, 25, 0)), ((12, 120), (12, 17, 0)), ((12, 126), (12, 18, 0)), ((12, 129), (12, 19, 0)), ((12, 132), (12, 20, 0)), ((12, 135), (12, 22, 0)), ((12, 144), (12, 23, 0)), ((12, 167), (12, 3, 0)), ((12, 170), (12, 7, 0)), ((12, 173), (12, 8, 0)), ((12, 176), (12, 13, 0)), ((12, 229), (12, 16, 0)), ((13, 9), (13, 0, 0)), ((13, 15), (13, 1, 0))]
def qst : List ((Nat × Nat) × Value) := [((7, 53), .ref 1000), ((7, 56), .ref 1001), ((13, 38), .int 1), ((13, 1053), .ref 1030)]
def qci : List ((Nat × Nat) × Int32) := [((4, 38), 1073741824), ((10, 54), 99999999), ((10, 63), 1073741824), ((11, 196), 1073741824), ((11, 206), 1073741823), ((11, 250), -1000000), ((11, 267), 999999999), ((12, 202), 100000000), ((12, 243), -1000000), ((17, 265), 1431655765), ((17, 266), 858993459), ((17, 267), 252645135)]
def qcj : List ((Nat × Nat) × Int64) := [((0, 13), 100000), ((1, 13), 100), ((2, 13), 1000), ((3, 13), 10), ((5, 13), 10000), ((12, 87), 8), ((12, 92), 255), ((12, 104), 48), ((12, 106), 57), ((12, 112), 97), ((12, 114), 122), ((12, 116), 32), ((12, 118), 96), ((12, 142), 671470), ((12, 147), 8902245), ((12, 149), 5638647), ((12, 155), 20536), ((12, 160), 150636933), ((12, 162), 8441477), ((12, 185), 3), ((12, 198), 444444444), ((12, 200), 4), ((12, 233), 11), ((12, 235), 101), ((12, 237), 1011), ((12, 239), 10101), ((12, 241), 100001)]
def qcs : List ((Nat × Nat) × Nat) := [((6, 120), 0), ((6, 126), 1), ((6, 128), 2), ((6, 130), 3), ((6, 132), 4), ((6, 134), 5)]
def q_tyf : Nat → Nat → FieldType := fun ci => match ci with
  | 0 => tyX0
  | 1 => tyX1
  | 2 => tyX2
  | 3 => tyX3
  | 4 => tyX4
  | 5 => tyX5
  | 6 => tyX6
  | 7 => tyX7
  | 8 => tyX8
  | 9 => tyX9
  | 10 => tyX10
  | 11 => tyX11
  | 12 => tyX12
  | _ => fun _ => .int
def qstx : List String := ["town", "house", "elbow", "tax", "double", "haste"]
def qsix : List Nat := [120, 126, 128, 130, 132, 134]
def qsln : List Nat := [4, 5, 5, 3, 6, 5]
def qsby : List (List Int32) := [[116, 111, 119, 110], [104, 111, 117, 115, 101], [101, 108, 98, 111, 119], [116, 97, 120], [100, 111, 117, 98, 108, 101], [104, 97, 115, 116, 101]]
def qnest : List Cond := [(Jvm.Cond.fieldLinkNest "StraightTax$Beggar" (7 : Nat) "StraightTax" "marks" "J" "StraightTax"), (Jvm.Cond.fieldLinkNest "StraightTax$Beggar" (19 : Nat) "StraightTax" "errands" "LStraightTax$Errands;" "StraightTax"), (Jvm.Cond.fieldLinkNest "StraightTax$Courtier" (7 : Nat) "StraightTax" "marks" "J" "StraightTax"), (Jvm.Cond.fieldLinkNest "StraightTax$Courtier" (19 : Nat) "StraightTax" "now" "LStraightTax$Walk;" "StraightTax"), (Jvm.Cond.fieldLinkNest "StraightTax$Dancer" (7 : Nat) "StraightTax" "marks" "J" "StraightTax"), (Jvm.Cond.fieldLinkNest "StraightTax$Drover" (7 : Nat) "StraightTax" "marks" "J" "StraightTax"), (Jvm.Cond.fieldLinkNest "StraightTax$Drover" (19 : Nat) "StraightTax" "now" "LStraightTax$Walk;" "StraightTax"), (Jvm.Cond.fieldLinkNest "StraightTax$Lawyer" (7 : Nat) "StraightTax" "marks" "J" "StraightTax"), (Jvm.Cond.fieldLinkNest "StraightTax$Lawyer" (19 : Nat) "StraightTax" "now" "LStraightTax$Walk;" "StraightTax"), (Jvm.Cond.fieldLinkNest "StraightTax$Walker" (7 : Nat) "StraightTax" "marks" "J" "StraightTax"), (Jvm.Cond.fieldLinkNest "StraightTax$Walker" (13 : Nat) "StraightTax" "now" "LStraightTax$Walk;" "StraightTax"), (Jvm.Cond.methodLinkNest "StraightTax$Town" (81 : Nat) ({ cls := "StraightTax", name := "isDirection", desc := "(I)Z" } : Jvm.MethodName) "StraightTax"), (Jvm.Cond.methodLinkNest "StraightTax$Town" (84 : Nat) ({ cls := "StraightTax", name := "isIn", desc := "(II)Z" } : Jvm.MethodName) "StraightTax"), (Jvm.Cond.methodLinkNest "StraightTax$Ways" (119 : Nat) ({ cls := "StraightTax", name := "isIn", desc := "(II)Z" } : Jvm.MethodName) "StraightTax")]
end
section
/-! THE SMALL MACHINE: the class's bytecode over a memory of numbered cells (ints, longs, references apart). No cell is made here. -/
abbrev QV : Type := (Nat → Nat → Int32) × (Nat → Nat → Int64) × (Nat → Nat → Option Nat)
abbrev QL : Type := List (Option Value)
abbrev QH : Type := List (Nat × Nat)
def q_at (l : QL) (i : Nat) : Option Value := l.getD i none
def q_unl : Option Value → Option Value
  | some (.long _) => none
  | some (.double _) => none
  | x => x
def q_st1 : QL → Nat → Value → QL
  | [], _, _ => []
  | _ :: t, 0, v => some v :: t
  | x :: t, 1, v => q_unl x :: q_st1 t 0 v
  | x :: t, i + 2, v => x :: q_st1 t (i + 1) v
def q_st2 : QL → Nat → Value → QL
  | [], _, _ => []
  | [_], 0, _ => []
  | _ :: _ :: t, 0, v => some v :: none :: t
  | x :: t, 1, v => q_unl x :: q_st2 t 0 v
  | x :: t, i + 2, v => x :: q_st2 t (i + 1) v
/-- a method's locals at its entry -/
def q_en : List Value → Nat → QL
  | [], n => List.replicate n none
  | .int v :: t, n + 1 => some (.int v) :: q_en t n
  | .ref v :: t, n + 1 => some (.ref v) :: q_en t n
  | .long v :: t, n + 2 => some (.long v) :: none :: q_en t n
  | _ :: _, n => List.replicate n none
def q_lk {α : Type} (t : List ((Nat × Nat) × α)) (o i : Nat) : Option α := (t.find? (fun e => e.1.1 == o && e.1.2 == i)).map (fun e => e.2)
/-- an instruction: the class that it stands in, what it is, how long -/
def q_dec (j pc : Nat) : Option (Nat × Instr × Nat) := match qmt[j]? with
  | none => none
  | some r => match decode r.2.1 pc with
    | .error _ => none
    | .ok (i, n) => some (r.1, i, n)
def q_rt (j : Nat) : Option (Option FieldType) := (qmt[j]?).map (fun r => r.2.2.2.2.1)
/-- its end -/
def q_ret (j : Nat) (i : Instr) (n : Nat) (st : List Value) : Option (Option Value) := match i with
  | .ireturn => match st with
    | [.int v] => if n = 1 then (match q_rt j with
      | some (some ty) => if narrow ty (.int v) = .int v then some (some (.int v)) else none
      | _ => none) else none
    | _ => none
  | .lreturn => match st with
    | [.long v] => if n = 1 ∧ q_rt j = some (some .long) then some (some (.long v)) else none
    | _ => none
  | .return_ => match st with
    | [] => if n = 1 ∧ q_rt j = some none then some none else none
    | _ => none
  | _ => none
/-- the kind of a cell: of this world's own, or a text constant -/
def q_cls (sh : QH) (c : Nat) : Option Nat := match sh[c]? with
  | some (k, _) => some k
  | none => if 1010 ≤ c ∧ c < 1016 then some 13 else none
def q_np (j : Nat) : Nat := (qmt[j]?).elim 0 (fun r => r.2.2.2.2.2)
def q_own (j : Nat) : Nat := (qmt[j]?).elim 99 (fun r => r.1)
def q_ml (j : Nat) : Nat := (qmt[j]?).elim 0 (fun r => r.2.2.1)
def q_nm (j : Nat) : String := (qmt[j]?).elim "" (fun r => r.2.2.2.1.name)
/-- a call: the method, what it is given, what stays on the stack -/
def q_call (sh : QH) (o : Nat) (i : Instr) (n : Nat) (st : List Value) : Option (Nat × List Value × List Value) := match i with
  | .invokevirtual x => match q_lk qct o x with
    | some (0, j) => match st.drop (q_np j) with
      | .ref c :: r => if n = 3 ∧ q_cls sh c = some (q_own j) ∧ (r.map fun v => v.category).sum ≤ 8 then some (j, .ref c :: (st.take (q_np j)).reverse, r) else none
      | _ => none
    | some (4, j0) => match st.drop (q_np j0) with
      | .ref c :: r => match q_cls sh c with
        | some k => match (qdt.find? (fun e => e.1 == k)) with
          | some (_, j) => if n = 3 ∧ c < sh.length ∧ (r.map fun v => v.category).sum ≤ 8 then some (j, .ref c :: (st.take (q_np j0)).reverse, r) else none
          | none => none
        | none => none
      | _ => none
    | _ => none
  | .invokestatic x => match q_lk qct o x with
    | some (1, j) => if n = 3 ∧ q_np j ≤ st.length ∧ ((st.drop (q_np j)).map fun v => v.category).sum ≤ 8 then some (j, (st.take (q_np j)).reverse, st.drop (q_np j)) else none
    | some (2, j) => if n = 3 ∧ q_np j ≤ st.length ∧ ((st.drop (q_np j)).map fun v => v.category).sum ≤ 8 then some (j, (st.take (q_np j)).reverse, st.drop (q_np j)) else none
    | _ => none
  | .invokespecial x => match q_lk qct o x with
    | some (3, j) => match st.drop (q_np j) with
      | .ref c :: r => match q_cls sh c with
        | some k => if n = 3 ∧ c < sh.length ∧ k < 13 ∧ (r.map fun v => v.category).sum ≤ 8 then some (j, .ref c :: (st.take (q_np j)).reverse, r) else none
        | none => none
      | _ => none
    | _ => none
  | _ => none
abbrev QN : Type := Nat × QL × List Value
def q_ldI (k i n pc : Nat) (ls : QL) (st : List Value) : Option QN := match q_at ls i with
  | some (.int x) => if n = k then some (pc + k, ls, .int x :: st) else none
  | _ => none
def q_ldL (k i n pc : Nat) (ls : QL) (st : List Value) : Option QN := match q_at ls i with
  | some (.long x) => if n = k then some (pc + k, ls, .long x :: st) else none
  | _ => none
def q_ldA (k i n pc : Nat) (ls : QL) (st : List Value) : Option QN := match q_at ls i with
  | some (.ref x) => if n = k then some (pc + k, ls, .ref x :: st) else none
  | _ => none
def q_stI (k i n pc : Nat) (ls : QL) (st : List Value) : Option QN := match st with
  | .int x :: r => if n = k ∧ i < ls.length then some (pc + k, q_st1 ls i (.int x), r) else none
  | _ => none
def q_stL (k i n pc : Nat) (ls : QL) (st : List Value) : Option QN := match st with
  | .long x :: r => if n = k ∧ i + 1 < ls.length then some (pc + k, q_st2 ls i (.long x), r) else none
  | _ => none
def q_stA (k i n pc : Nat) (ls : QL) (st : List Value) : Option QN := match st with
  | .ref x :: r => if n = k ∧ i < ls.length then some (pc + k, q_st1 ls i (.ref x), r) else none
  | _ => none
def q_b (f : Int32 → Int32 → Int32) (n pc : Nat) (ls : QL) (st : List Value) : Option QN := match st with
  | .int y :: .int x :: r => if n = 1 then some (pc + 1, ls, .int (f x y) :: r) else none
  | _ => none
def q_bz (f : Int32 → Int32 → Int32) (n pc : Nat) (ls : QL) (st : List Value) : Option QN := match st with
  | .int y :: .int x :: r => if n = 1 ∧ ¬ y = 0 then some (pc + 1, ls, .int (f x y) :: r) else none
  | _ => none
def q_bl (f : Int64 → Int64 → Int64) (n pc : Nat) (ls : QL) (st : List Value) : Option QN := match st with
  | .long y :: .long x :: r => if n = 1 then some (pc + 1, ls, .long (f x y) :: r) else none
  | _ => none
def q_u (f : Int32 → Int32) (n pc : Nat) (ls : QL) (st : List Value) : Option QN := match st with
  | .int x :: r => if n = 1 then some (pc + 1, ls, .int (f x) :: r) else none
  | _ => none
def q_cd (c : Jvm.ClassFile.Cond) (x y : Int32) : Bool := match c with
  | .eq => x = y
  | .ne => ¬ x = y
  | .lt => x < y
  | .ge => y ≤ x
  | .gt => y < x
  | .le => x ≤ y
def q_to (pc : Nat) (off : Int) : Nat := ((pc : Int) + off).toNat
/-- what touches neither memory nor frames -/
def q_s (o : Nat) (i : Instr) (n pc : Nat) (ls : QL) (st : List Value) : Option QN := match i with
  | .iconst k => if n = 1 then some (pc + 1, ls, .int (Int32.ofInt k) :: st) else none
  | .bipush k => if n = 2 then some (pc + 2, ls, .int (Int8.ofInt k).toInt32 :: st) else none
  | .sipush k => if n = 3 then some (pc + 3, ls, .int (Int16.ofInt k).toInt32 :: st) else none
  | .lconst k => if n = 1 then some (pc + 1, ls, .long (Int64.ofNat (k : Nat)) :: st) else none
  | .ldc x => if n = 2 then (match q_lk qci o x with
    | some v => some (pc + 2, ls, .int v :: st)
    | none => match q_lk qcs o x with
      | some k => some (pc + 2, ls, .ref (1010 + k) :: st)
      | none => none) else none
  | .ldc_w x => if n = 3 then (match q_lk qci o x with
    | some v => some (pc + 3, ls, .int v :: st)
    | none => none) else none
  | .ldc2_w x => if n = 3 then (match q_lk qcj o x with
    | some v => some (pc + 3, ls, .long v :: st)
    | none => none) else none
  | .iload_n k => q_ldI 1 k n pc ls st
  | .iload k => q_ldI 2 k n pc ls st
  | .lload_n k => q_ldL 1 k n pc ls st
  | .lload k => q_ldL 2 k n pc ls st
  | .aload_n k => q_ldA 1 k n pc ls st
  | .aload k => q_ldA 2 k n pc ls st
  | .istore_n k => q_stI 1 k n pc ls st
  | .istore k => q_stI 2 k n pc ls st
  | .lstore_n k => q_stL 1 k n pc ls st
  | .lstore k => q_stL 2 k n pc ls st
  | .astore_n k => q_stA 1 k n pc ls st
  | .astore k => q_stA 2 k n pc ls st
  | .iinc k z => match q_at ls k with
    | some (.int x) => if n = 3 ∧ k < ls.length then some (pc + 3, q_st1 ls k (.int (x + Int32.ofInt z)), st) else none
    | _ => none
  | .iadd => q_b (fun x y => x + y) n pc ls st
  | .isub => q_b (fun x y => x - y) n pc ls st
  | .imul => q_b (fun x y => x * y) n pc ls st
  | .iand => q_b (fun x y => x &&& y) n pc ls st
  | .ior => q_b (fun x y => x ||| y) n pc ls st
  | .ixor => q_b (fun x y => x ^^^ y) n pc ls st
  | .ishl => q_b (fun x y => x <<< (y &&& 31)) n pc ls st
  | .ishr => q_b (fun x y => x >>> (y &&& 31)) n pc ls st
  | .iushr => q_b (fun x y => (x.toUInt32 >>> (y.toUInt32 &&& Int32.toUInt32 31)).toInt32) n pc ls st
  | .idiv => q_bz (fun x y => x / y) n pc ls st
  | .irem => q_bz (fun x y => x - x / y * y) n pc ls st
  | .ineg => q_u (fun x => -x) n pc ls st
  | .i2b => q_u (fun x => x.toInt8.toInt32) n pc ls st
  | .i2c => q_u (fun x => (x.toUInt32 % 65536).toInt32) n pc ls st
  | .ladd => q_bl (fun x y => x + y) n pc ls st
  | .lsub => q_bl (fun x y => x - y) n pc ls st
  | .lmul => q_bl (fun x y => x * y) n pc ls st
  | .land => q_bl (fun x y => x &&& y) n pc ls st
  | .lshr => match st with
    | .int y :: .long x :: r => if n = 1 then some (pc + 1, ls, .long (x >>> (y.toInt64 &&& 63)) :: r) else none
    | _ => none
  | .i2l => match st with
    | .int x :: r => if n = 1 then some (pc + 1, ls, .long x.toInt64 :: r) else none
    | _ => none
  | .l2i => match st with
    | .long x :: r => if n = 1 then some (pc + 1, ls, .int x.toInt32 :: r) else none
    | _ => none
  | .lcmp => match st with
    | .long y :: .long x :: r => if n = 1 then some (pc + 1, ls, .int (lg_cmp x y) :: r) else none
    | _ => none
  | .dup => match st with
    | .int x :: r => if n = 1 then some (pc + 1, ls, .int x :: .int x :: r) else none
    | .ref x :: r => if n = 1 then some (pc + 1, ls, .ref x :: .ref x :: r) else none
    | _ => none
  | .dup2 => match st with
    | .int y :: .ref x :: r => if n = 1 then some (pc + 1, ls, .int y :: .ref x :: .int y :: .ref x :: r) else none
    | _ => none
  | .pop => match st with
    | .int _ :: r => if n = 1 then some (pc + 1, ls, r) else none
    | _ => none
  | .ifCond c off => match st with
    | .int x :: r => if n = 3 ∧ 0 ≤ (pc : Int) + off then some (bif q_cd c x 0 then q_to pc off else pc + 3, ls, r) else none
    | _ => none
  | .if_icmp c off => match st with
    | .int y :: .int x :: r => if n = 3 ∧ 0 ≤ (pc : Int) + off then some (bif q_cd c x y then q_to pc off else pc + 3, ls, r) else none
    | _ => none
  | .goto off => if n = 3 ∧ 0 ≤ (pc : Int) + off then some (q_to pc off, ls, st) else none
  | .tableswitch df lo hi offs => match st with
    | .int x :: r => if x.toInt < lo ∨ hi < x.toInt then (if 0 ≤ (pc : Int) + df then some (q_to pc df, ls, r) else none) else (match offs[(x.toInt - lo).toNat]? with
      | some off => if 0 ≤ (pc : Int) + off then some (q_to pc off, ls, r) else none
      | none => none)
    | _ => none
  | _ => none
def q_rf (r : Option Nat) : Value := match r with
  | none => .null
  | some a => .ref a
def q_rd (V : QV) (c k : Nat) (ty : FieldType) : Value := match ty with
  | .long => .long (V.2.1 c k)
  | .object _ => q_rf (V.2.2 c k)
  | .array _ => q_rf (V.2.2 c k)
  | _ => .int (V.1 c k)
def q_up {α : Type} (f : Nat → Nat → α) (c k : Nat) (v : α) : Nat → Nat → α := fun c' k' => if c' = c ∧ k' = k then v else f c' k'
def q_uI (V : QV) (c k : Nat) (v : Int32) : QV := (q_up V.1 c k v, V.2)
def q_uL (V : QV) (c k : Nat) (v : Int64) : QV := (V.1, q_up V.2.1 c k v, V.2.2)
def q_uR (V : QV) (c k : Nat) (v : Option Nat) : QV := (V.1, V.2.1, q_up V.2.2 c k v)
def q_wr (V : QV) (c k : Nat) (ty : FieldType) (v : Value) : Option QV := match ty with
  | .long => match v with
    | .long x => some (q_uL V c k x)
    | _ => none
  | .object _ => match v with
    | .ref a => if a < 1000 then some (q_uR V c k (some a)) else none
    | _ => none
  | .int => match v with
    | .int x => some (q_uI V c k x)
    | _ => none
  | .boolean => match v with
    | .int x => if x = 0 ∨ x = 1 then some (q_uI V c k x) else none
    | _ => none
  | _ => none
/-- the arrays and objects that stand there before the law begins -/
def q_roI (c : Nat) : Option (List Int32) := match c with
  | 1000 => some [0, 1, 0, -1]
  | 1001 => some [-1, 0, 1, 0]
  | _ => none
def q_roB (c : Nat) : Option (List Int32) := if 1020 ≤ c ∧ c < 1026 then qsby[c - 1020]? else none
def q_roF (c k : Nat) : Option Value := if 1010 ≤ c ∧ c < 1016 then (if k = 0 then some (.ref (c + 10)) else some (.int 0)) else none
def q_in (x : Int32) (n : Nat) : Prop := 0 ≤ x.toInt ∧ x.toInt < n
abbrev q_ix (x : Int32) : Nat := x.toInt.toNat
def q_cp (f : Nat → Nat → Int32) (c0 c1 s0 s1 n : Nat) : Nat → Nat → Int32 := fun c k => if c = c1 then va_cpy (f c0) (f c1) s0 s1 n k else f c k
def q_nf (ci k : Nat) : Bool := match vwCl[ci]? with
  | some q => decide (k < q.2.2) && !(q.2.1 k).2.2.2
  | none => false
def q_kf (ci k : Nat) : Bool := match vwCl[ci]? with
  | some q => decide (k < q.2.2)
  | none => false
/-- what reads or writes memory; kinds of arrays: 100 int, 101 byte, 102 boolean, 103 Walk, 104 Walker -/
def q_m (sh : QH) (o : Nat) (i : Instr) (n pc : Nat) (st : List Value) (V : QV) : Option (Nat × List Value × QV) := match i with
  | .getfield x => match st with
    | .ref c :: r => match q_lk qft o x with
      | some (13, k, _) => match q_roF c k with
        | some v => if n = 3 ∧ o = 13 then some (pc + 3, v :: r, V) else none
        | none => none
      | some (ci, k, _) => match sh[c]? with
        | some (ci', _) => if n = 3 ∧ ci' = ci ∧ q_kf ci k = true then some (pc + 3, q_rd V c k (q_tyf ci k) :: r, V) else none
        | none => none
      | none => none
    | _ => none
  | .putfield x => match st with
    | v :: .ref c :: r => match q_lk qft o x with
      | some (ci, k, _) => match sh[c]? with
        | some (ci', _) => if n = 3 ∧ ci' = ci ∧ q_nf ci k = true then (match q_wr V c k (q_tyf ci k) v with
          | some V' => some (pc + 3, r, V')
          | none => none) else none
        | none => none
      | none => none
    | _ => none
  | .getstatic x => match q_lk qst o x with
    | some v => if n = 3 then some (pc + 3, v :: st, V) else none
    | none => none
  | .iaload => match st with
    | .int j :: .ref c :: r => match sh[c]? with
      | some (100, z) => if n = 1 ∧ (0 ≤ j.toInt ∧ j.toInt < z) then some (pc + 1, .int (V.1 c (q_ix j)) :: r, V) else none
      | some _ => none
      | none => match q_roI c with
        | some a => if n = 1 ∧ (0 ≤ j.toInt ∧ j.toInt < a.length) then some (pc + 1, .int (a.getD (q_ix j) 0) :: r, V) else none
        | none => none
    | _ => none
  | .baload => match st with
    | .int j :: .ref c :: r => match sh[c]? with
      | some (101, z) => if n = 1 ∧ (0 ≤ j.toInt ∧ j.toInt < z) then some (pc + 1, .int (V.1 c (q_ix j)) :: r, V) else none
      | some (102, z) => if n = 1 ∧ (0 ≤ j.toInt ∧ j.toInt < z) then some (pc + 1, .int (V.1 c (q_ix j)) :: r, V) else none
      | some _ => none
      | none => match q_roB c with
        | some a => if n = 1 ∧ (0 ≤ j.toInt ∧ j.toInt < a.length) then some (pc + 1, .int (a.getD (q_ix j) 0) :: r, V) else none
        | none => none
    | _ => none
  | .aaload => match st with
    | .int j :: .ref c :: r => match sh[c]? with
      | some (103, z) => (match V.2.2 c (q_ix j) with
        | some a => if n = 1 ∧ (0 ≤ j.toInt ∧ j.toInt < z) ∧ a < 1000 then some (pc + 1, .ref a :: r, V) else none
        | none => none)
      | some (104, z) => (match V.2.2 c (q_ix j) with
        | some a => if n = 1 ∧ (0 ≤ j.toInt ∧ j.toInt < z) ∧ a < 1000 then some (pc + 1, .ref a :: r, V) else none
        | none => none)
      | _ => none
    | _ => none
  | .iastore => match st with
    | .int v :: .int j :: .ref c :: r => match sh[c]? with
      | some (100, z) => if n = 1 ∧ (0 ≤ j.toInt ∧ j.toInt < z) then some (pc + 1, r, q_uI V c (q_ix j) v) else none
      | _ => none
    | _ => none
  | .bastore => match st with
    | .int v :: .int j :: .ref c :: r => match sh[c]? with
      | some (101, z) => if n = 1 ∧ (0 ≤ j.toInt ∧ j.toInt < z) then some (pc + 1, r, q_uI V c (q_ix j) v.toInt8.toInt32) else none
      | some (102, z) => if n = 1 ∧ (0 ≤ j.toInt ∧ j.toInt < z) ∧ (v = 0 ∨ v = 1) then some (pc + 1, r, q_uI V c (q_ix j) v) else none
      | _ => none
    | _ => none
  | .arraylength => match st with
    | .ref c :: r => match sh[c]? with
      | some (k, z) => if n = 1 ∧ k = 100 then some (pc + 1, .int (Int32.ofNat z) :: r, V) else none
      | none => match q_roB c with
        | some a => if n = 1 then some (pc + 1, .int (Int32.ofNat a.length) :: r, V) else none
        | none => none
    | _ => none
  | .invokestatic x => match q_lk qct o x with
    | some (5, _) => match st with
      | .int m :: .int dp :: .ref c1 :: .int sp :: .ref c0 :: r => match sh[c0]?, sh[c1]? with
        | some (100, z0), some (100, z1) => if n = 3 ∧ 0 ≤ sp.toInt ∧ 0 ≤ dp.toInt ∧ 0 ≤ m.toInt ∧ q_ix sp + q_ix m ≤ z0 ∧ q_ix dp + q_ix m ≤ z1 ∧ (r.map fun v => v.category).sum ≤ 8 then some (pc + 3, r, (q_cp V.1 c0 c1 (q_ix sp) (q_ix dp) (q_ix m), V.2)) else none
        | _, _ => none
      | _ => none
    | _ => none
  | _ => none
/-- one step, over what is done behind it -/
def q_go (sh : QH) (rec : Nat → Nat → Nat → QL → List Value → QV → Option (Option Value × QV)) (d j pc : Nat) (ls : QL) (st : List Value) (V : QV) : Option (Option Value × QV) := match q_dec j pc with
  | none => none
  | some (o, i, len) => match q_ret j i len st with
    | some v => some (v, V)
    | none => match q_call sh o i len st with
      | some (j2, as, r) => match d with
        | 0 => none
        | d2 + 1 => if (as.map fun v => v.category).sum ≤ q_ml j2 then (match rec d2 j2 0 (q_en as (q_ml j2)) [] V with
          | none => none
          | some (v, V2) => rec (d2 + 1) j (pc + 3) ls (v.toList ++ r) V2) else none
      | none => match q_s o i len pc ls st with
        | some (pc2, ls2, st2) => rec d j pc2 ls2 st2 V
        | none => match q_m sh o i len pc st V with
          | some (pc2, st2, V2) => rec d j pc2 ls st2 V2
          | none => none
def am (sh : QH) : Nat → Nat → Nat → Nat → QL → List Value → QV → Option (Option Value × QV)
  | 0 => fun _ _ _ _ _ _ => none
  | n + 1 => q_go sh (am sh n)
end
section
/-! RULES OF THE SMALL MACHINE -/
theorem q_go_mono {sh : QH} {rec rec' : Nat → Nat → Nat → QL → List Value → QV → Option (Option Value × QV)} (e : Nat) (h : ∀ d j pc ls st V r, rec d j pc ls st V = some r → rec' (d + e) j pc ls st V = some r) {d j pc : Nat} {ls : QL} {st : List Value} {V : QV} {r : Option Value × QV} (hg : q_go sh rec d j pc ls st V = some r) : q_go sh rec' (d + e) j pc ls st V = some r := by
  unfold q_go at hg ⊢
  cases hd : q_dec j pc with
  | none => rw [hd] at hg; cases hg
  | some x =>
    obtain ⟨o, i, len⟩ := x
    rw [hd] at hg
    dsimp only at hg ⊢
    cases hr : q_ret j i len st with
    | some v => rw [hr] at hg; exact hg
    | none =>
      rw [hr] at hg
      dsimp only at hg ⊢
      cases hc : q_call sh o i len st with
      | some y =>
        obtain ⟨j2, as, r2⟩ := y
        rw [hc] at hg
        dsimp only at hg ⊢
        cases d with
        | zero => cases hg
        | succ d2 =>
          have e1 : d2 + 1 + e = (d2 + e) + 1 := by omega
          rw [e1]
          dsimp only at hg ⊢
          by_cases hfit : (as.map fun v => v.category).sum ≤ q_ml j2
          · rw [if_pos hfit] at hg ⊢
            cases ha : rec d2 j2 0 (q_en as (q_ml j2)) [] V with
            | none => rw [ha] at hg; cases hg
            | some w =>
              obtain ⟨v, V2⟩ := w
              rw [ha] at hg
              rw [h _ _ _ _ _ _ _ ha]
              dsimp only at hg ⊢
              have := h _ _ _ _ _ _ _ hg
              rw [e1] at this
              exact this
          · rw [if_neg hfit] at hg; cases hg
      | none =>
        rw [hc] at hg
        dsimp only at hg ⊢
        cases hs : q_s o i len pc ls st with
        | some y =>
          rw [hs] at hg
          exact h _ _ _ _ _ _ _ hg
        | none =>
          rw [hs] at hg
          dsimp only at hg ⊢
          cases hm : q_m sh o i len pc st V with
          | some y =>
            rw [hm] at hg
            exact h _ _ _ _ _ _ _ hg
          | none => rw [hm] at hg; cases hg
theorem am_mono {sh : QH} (k e : Nat) : ∀ (n d j pc : Nat) (ls : QL) (st : List Value) (V : QV) (r : Option Value × QV), am sh n d j pc ls st V = some r → am sh (n + k) (d + e) j pc ls st V = some r
  | 0, _, _, _, _, _, _, _, h => by cases h
  | n + 1, d, j, pc, ls, st, V, r, h => by
    have e1 : n + 1 + k = (n + k) + 1 := by omega
    rw [e1]
    exact q_go_mono e (fun d j pc ls st V r h => am_mono k e n d j pc ls st V r h) h
/-- from here it comes to its end, and then Q -/
def G (sh : QH) (d j pc : Nat) (ls : QL) (st : List Value) (V : QV) (Q : Option Value → QV → Prop) : Prop := ∃ n r V', am sh n d j pc ls st V = some (r, V') ∧ Q r V'
section GR
variable {sh : QH} {d j pc o : Nat} {ls : QL} {st : List Value} {V : QV} {Q : Option Value → QV → Prop}
theorem G.mono {Q2 : Option Value → QV → Prop} (h : G sh d j pc ls st V Q) (hq : ∀ r V', Q r V' → Q2 r V') : G sh d j pc ls st V Q2 := by
  obtain ⟨n, r, V', h1, h2⟩ := h
  exact ⟨n, r, V', h1, hq r V' h2⟩
theorem G.deep (e : Nat) (h : G sh d j pc ls st V Q) : G sh (d + e) j pc ls st V Q := by
  obtain ⟨n, r, V', h1, h2⟩ := h
  exact ⟨n, r, V', by simpa using am_mono 0 e n d j pc ls st V _ h1, h2⟩
theorem g_r {i : Instr} {n : Nat} {v : Option Value} (hd : q_dec j pc = some (o, i, n)) (hr : q_ret j i n st = some v) (hq : Q v V) : G sh d j pc ls st V Q := by
  refine ⟨1, v, V, ?_, hq⟩
  show q_go sh (am sh 0) d j pc ls st V = _
  unfold q_go
  rw [hd]; dsimp only; rw [hr]
theorem g_s {i : Instr} {n pc2 : Nat} {ls2 : QL} {st2 : List Value} (hd : q_dec j pc = some (o, i, n)) (hr : q_ret j i n st = none) (hc : q_call sh o i n st = none) (hs : q_s o i n pc ls st = some (pc2, ls2, st2)) (k : G sh d j pc2 ls2 st2 V Q) : G sh d j pc ls st V Q := by
  obtain ⟨m, r, V', h1, h2⟩ := k
  refine ⟨m + 1, r, V', ?_, h2⟩
  show q_go sh (am sh m) d j pc ls st V = _
  unfold q_go
  rw [hd]; dsimp only; rw [hr]; dsimp only; rw [hc]; dsimp only; rw [hs]; exact h1
theorem g_m {i : Instr} {n pc2 : Nat} {st2 : List Value} {V2 : QV} (hd : q_dec j pc = some (o, i, n)) (hr : q_ret j i n st = none) (hc : q_call sh o i n st = none) (hs : q_s o i n pc ls st = none) (hm : q_m sh o i n pc st V = some (pc2, st2, V2)) (k : G sh d j pc2 ls st2 V2 Q) : G sh d j pc ls st V Q := by
  obtain ⟨m, r, V', h1, h2⟩ := k
  refine ⟨m + 1, r, V', ?_, h2⟩
  show q_go sh (am sh m) d j pc ls st V = _
  unfold q_go
  rw [hd]; dsimp only; rw [hr]; dsimp only; rw [hc]; dsimp only; rw [hs]; dsimp only; rw [hm]; exact h1
/-- a call: from the callee's own contract -/
theorem g_c {i : Instr} {n j2 : Nat} {as r : List Value} {Q2 : Option Value → QV → Prop} (hd : q_dec j pc = some (o, i, n)) (hr : q_ret j i n st = none) (hc : q_call sh o i n st = some (j2, as, r)) (hfit : (as.map fun v => v.category).sum ≤ q_ml j2) (hk : G sh d j2 0 (q_en as (q_ml j2)) [] V Q2) (k : ∀ v V2, Q2 v V2 → G sh (d + 1) j (pc + 3) ls (v.toList ++ r) V2 Q) : G sh (d + 1) j pc ls st V Q := by
  obtain ⟨m1, v, V2, a1, a2⟩ := hk
  obtain ⟨m2, w, V3, b1, b2⟩ := k v V2 a2
  refine ⟨(m1 + m2) + 1, w, V3, ?_, b2⟩
  show q_go sh (am sh (m1 + m2)) (d + 1) j pc ls st V = _
  unfold q_go
  rw [hd]; dsimp only; rw [hr]; dsimp only; rw [hc]; dsimp only
  rw [if_pos hfit]
  rw [show am sh (m1 + m2) d j2 0 (q_en as (q_ml j2)) [] V = some (v, V2) from am_mono m2 0 m1 d j2 0 _ _ V _ a1]
  dsimp only
  rw [Nat.add_comm m1 m2]
  exact am_mono m1 0 m2 (d + 1) j (pc + 3) ls _ V2 _ b1
end GR
end
section
/-! THE SMALL MACHINE IS TRUE TO THE MACHINE, 1: locals, and what touches no memory -/
def q_lf (av : Nat → Value) : Value → Value
  | .ref c => av c
  | v => v
/-- where the numbered cells lie: only 1030 may be null -/
def q_AV (av : Nat → Value) : Prop := (∀ c, c ≠ 1030 → ∃ a, av c = .ref a) ∧ ((∃ a, av 1030 = .ref a) ∨ av 1030 = .null)
theorem q_AV.cat {av : Nat → Value} (h : q_AV av) (v : Value) : (q_lf av v).category = v.category := by
  cases v <;> try rfl
  rename_i c
  show (av c).category = 1
  by_cases hc : c = 1030
  · subst hc
    rcases h.2 with ⟨a, ha⟩ | ha <;> rw [ha] <;> rfl
  · obtain ⟨a, ha⟩ := h.1 c hc
    rw [ha]; rfl
theorem q_AV.refOrNull {av : Nat → Value} (h : q_AV av) (c : Nat) : (∃ a, av c = .ref a) ∨ av c = .null := by
  by_cases hc : c = 1030
  · subst hc; exact h.2
  · exact Or.inl (h.1 c hc)
theorem q_AV.sum {av : Nat → Value} (h : q_AV av) (l : List Value) : ((l.map (q_lf av)).map fun v => v.category).sum = (l.map fun v => v.category).sum := by
  rw [List.map_map]
  congr 1
  exact List.map_congr_left (fun v _ => h.cat v)
def q_asc (av : Nat → Value) (l : QL) : List (Nat × Value) := (List.range l.length).filterMap (fun i => (q_at l i).map (fun v => (i, q_lf av v)))
theorem q_at_lt {l : QL} {i : Nat} {v : Value} (h : q_at l i = some v) : i < l.length := by
  unfold q_at at h
  rcases Nat.lt_or_ge i l.length with hi | hi
  · exact hi
  · rw [List.getD_eq_getElem?_getD, List.getElem?_eq_none hi] at h; cases h
theorem q_asc_mem {av : Nat → Value} {l : QL} {q : Nat × Value} : q ∈ q_asc av l ↔ ∃ v, q_at l q.1 = some v ∧ q.2 = q_lf av v := by
  unfold q_asc
  rw [List.mem_filterMap]
  constructor
  · rintro ⟨i, hi, h⟩
    cases hv : q_at l i with
    | none => rw [hv] at h; cases h
    | some v => rw [hv] at h; cases h; exact ⟨v, hv, rfl⟩
  · rintro ⟨v, h1, h2⟩
    refine ⟨q.1, List.mem_range.mpr (q_at_lt h1), ?_⟩
    rw [h1]
    show some (q.1, q_lf av v) = some q
    rw [← h2]
def q_LR (av : Nat → Value) (LS : Array Slot) (nL : Nat) (l : QL) : Prop := l.length = nL ∧ lv_has LS nL (q_asc av l)
theorem q_LR.get {av : Nat → Value} {LS : Array Slot} {nL : Nat} {l : QL} (h : q_LR av LS nL l) {i : Nat} {v : Value} (hv : q_at l i = some v) : LS[i]? = some (.val (q_lf av v)) := h.2.2.2 (i, q_lf av v) (q_asc_mem.mpr ⟨v, hv, rfl⟩)
theorem q_st1_len : ∀ (l : QL) (i : Nat) (v : Value), (q_st1 l i v).length = l.length
  | [], _, _ => rfl
  | _ :: t, 0, v => rfl
  | x :: t, 1, v => by simp [q_st1, q_st1_len t 0 v]
  | x :: t, i + 2, v => by simp [q_st1, q_st1_len t (i + 1) v]
theorem q_at_S (x : Option Value) (t : QL) (k : Nat) : q_at (x :: t) (k + 1) = q_at t k := rfl
theorem q_at_0 (x : Option Value) (t : QL) : q_at (x :: t) 0 = x := by cases x <;> rfl
theorem q_unl_some {x : Option Value} {w : Value} (h : q_unl x = some w) : x = some w ∧ ¬ w.category = 2 := by
  cases x with
  | none => cases h
  | some v => cases v <;> first | (cases h; exact ⟨rfl, by simp [Value.category]⟩) | cases h
theorem q_st1_at : ∀ (l : QL) (i : Nat) (v : Value) (k : Nat) (w : Value), q_at (q_st1 l i v) k = some w → (k = i ∧ w = v) ∨ (k ≠ i ∧ q_at l k = some w ∧ ¬ (k + 1 = i ∧ w.category = 2))
  | [], _, _, k, w, h => by cases k <;> cases h
  | x :: t, 0, v, 0, w, h => by cases h; exact Or.inl ⟨rfl, rfl⟩
  | x :: t, 0, v, k + 1, w, h => Or.inr ⟨by omega, h, by omega⟩
  | x :: t, 1, v, 0, w, h => by
    rw [q_st1, q_at_0] at h
    obtain ⟨h1, h2⟩ := q_unl_some h
    exact Or.inr ⟨by omega, by rw [q_at_0]; exact h1, fun z => h2 z.2⟩
  | x :: t, 1, v, k + 1, w, h => by
    rw [q_st1, q_at_S] at h
    rcases q_st1_at t 0 v k w h with ⟨h1, h2⟩ | ⟨h1, h2, h3⟩
    · exact Or.inl ⟨by omega, h2⟩
    · exact Or.inr ⟨by omega, h2, by omega⟩
  | x :: t, i + 2, v, 0, w, h => Or.inr ⟨by omega, h, by omega⟩
  | x :: t, i + 2, v, k + 1, w, h => by
    rw [q_st1, q_at_S] at h
    rcases q_st1_at t (i + 1) v k w h with ⟨h1, h2⟩ | ⟨h1, h2, h3⟩
    · exact Or.inl ⟨by omega, h2⟩
    · exact Or.inr ⟨by omega, h2, fun z => h3 ⟨by omega, z.2⟩⟩
theorem q_LR.st1 {av : Nat → Value} (hav : q_AV av) {LS LS' : Array Slot} {nL : Nat} {l : QL} (h : q_LR av LS nL l) {i : Nat} {v : Value} (h' : lv_has LS' nL ((i, q_lf av v) :: (q_asc av l).filter (fun q => !(q.1 == i) && !(q.1 + 1 == i && q.2.category == 2)))) : q_LR av LS' nL (q_st1 l i v) := by
  refine ⟨(q_st1_len l i v).trans h.1, h'.1, h'.2.1, fun q hq => h'.2.2 q ?_⟩
  obtain ⟨w, h1, h2⟩ := q_asc_mem.mp hq
  rcases q_st1_at l i v q.1 w h1 with ⟨e1, e2⟩ | ⟨e1, e2, e3⟩
  · refine List.mem_cons.mpr (Or.inl ?_)
    rw [← e1, ← e2, ← h2]
  · refine List.mem_cons.mpr (Or.inr (List.mem_filter.mpr ⟨q_asc_mem.mpr ⟨w, e2, h2⟩, ?_⟩))
    have e4 : q.2.category = w.category := by rw [h2]; exact hav.cat w
    simp only [Bool.and_eq_true, Bool.not_eq_true', beq_eq_false_iff_ne, ne_eq, Bool.and_eq_false_imp, beq_iff_eq]
    exact ⟨e1, fun z => by rw [e4]; exact fun y => e3 ⟨z, y⟩⟩
theorem q_st2_at : ∀ (l : QL) (i : Nat) (v : Value) (k : Nat) (w : Value), q_at (q_st2 l i v) k = some w → (k = i ∧ w = v) ∨ (k ≠ i ∧ k ≠ i + 1 ∧ q_at l k = some w ∧ ¬ (k + 1 = i ∧ w.category = 2))
  | [], _, _, k, w, h => by cases k <;> cases h
  | [_], 0, _, k, w, h => by cases k <;> cases h
  | x :: y :: t, 0, v, 0, w, h => by cases h; exact Or.inl ⟨rfl, rfl⟩
  | x :: y :: t, 0, v, 1, w, h => by cases h
  | x :: y :: t, 0, v, k + 2, w, h => Or.inr ⟨by omega, by omega, h, by omega⟩
  | x :: t, 1, v, 0, w, h => by
    rw [q_st2, q_at_0] at h
    obtain ⟨h1, h2⟩ := q_unl_some h
    exact Or.inr ⟨by omega, by omega, by rw [q_at_0]; exact h1, fun z => h2 z.2⟩
  | x :: t, 1, v, k + 1, w, h => by
    rw [q_st2, q_at_S] at h
    rcases q_st2_at t 0 v k w h with ⟨h1, h2⟩ | ⟨h1, h0, h2, h3⟩
    · exact Or.inl ⟨by omega, h2⟩
    · exact Or.inr ⟨by omega, by omega, h2, by omega⟩
  | x :: t, i + 2, v, 0, w, h => Or.inr ⟨by omega, by omega, by rw [q_st2] at h; exact h, by omega⟩
  | x :: t, i + 2, v, k + 1, w, h => by
    rw [q_st2, q_at_S] at h
    rcases q_st2_at t (i + 1) v k w h with ⟨h1, h2⟩ | ⟨h1, h0, h2, h3⟩
    · exact Or.inl ⟨by omega, h2⟩
    · exact Or.inr ⟨by omega, by omega, h2, fun z => h3 ⟨by omega, z.2⟩⟩
theorem q_st2_len : ∀ (l : QL) (i : Nat) (v : Value), i + 1 < l.length → (q_st2 l i v).length = l.length
  | [], _, _, h => by simp at h
  | [_], 0, _, h => by simp at h
  | _ :: _ :: t, 0, v, _ => rfl
  | x :: t, 1, v, h => by simp only [List.length_cons] at h; simp [q_st2, q_st2_len t 0 v (by omega)]
  | x :: t, i + 2, v, h => by simp only [List.length_cons] at h; simp [q_st2, q_st2_len t (i + 1) v (by omega)]
theorem q_LR.st2 {av : Nat → Value} (hav : q_AV av) {LS LS' : Array Slot} {nL : Nat} {l : QL} (h : q_LR av LS nL l) {i : Nat} {v : Value} (hi : i + 1 < l.length) (h' : lv_has LS' nL ((i, q_lf av v) :: (q_asc av l).filter (fun q => !(q.1 == i) && (!(q.1 == i + 1) && !(q.1 + 1 == i && q.2.category == 2))))) : q_LR av LS' nL (q_st2 l i v) := by
  refine ⟨(q_st2_len l i v hi).trans h.1, h'.1, h'.2.1, fun q hq => h'.2.2 q ?_⟩
  obtain ⟨w, h1, h2⟩ := q_asc_mem.mp hq
  rcases q_st2_at l i v q.1 w h1 with ⟨e1, e2⟩ | ⟨e1, e0, e2, e3⟩
  · refine List.mem_cons.mpr (Or.inl ?_)
    rw [← e1, ← e2, ← h2]
  · refine List.mem_cons.mpr (Or.inr (List.mem_filter.mpr ⟨q_asc_mem.mpr ⟨w, e2, h2⟩, ?_⟩))
    have e4 : q.2.category = w.category := by rw [h2]; exact hav.cat w
    simp only [Bool.and_eq_true, Bool.not_eq_true', beq_eq_false_iff_ne, ne_eq, Bool.and_eq_false_imp, beq_iff_eq]
    exact ⟨e1, e0, fun z => by rw [e4]; exact fun y => e3 ⟨z, y⟩⟩
end
section
/-! THE SMALL MACHINE IS TRUE TO THE MACHINE, 2: what touches no memory -/
def q_tbl : List Cond := lw_tbl.filter goodWord
def q_ad (av : Nat → Value) (c : Nat) : Nat := match av c with
  | .ref a => a
  | _ => 0
theorem q_AV.ad {av : Nat → Value} (h : q_AV av) {c : Nat} (hc : c ≠ 1030) : av c = .ref (q_ad av c) := by
  obtain ⟨a, ha⟩ := h.1 c hc
  unfold q_ad; rw [ha]
/-- what stands there before the law begins, and the links of nest mates -/
def q_Fx (A : Nat → Prop) (av : Nat → Value) (U : State) : Prop :=
  (∀ w ∈ qnest, va_Nw w U) ∧
  va_Z "StraightTax$Town" "RIGHT" "[I" (av 1000) A U U.heap ∧ va_Z "StraightTax$Town" "DOWN" "[I" (av 1001) A U U.heap ∧
  va_Z "java/lang/String" "COMPACT_STRINGS" "Z" (.int 1) A U U.heap ∧ va_Z "jdk/internal/util/Preconditions" "SIOOBE_FORMATTER" "Ljava/util/function/BiFunction;" (av 1030) A U U.heap ∧
  va_T .int (q_ad av 1000) 4 (fun j => .int (([0, 1, 0, -1] : List Int32).getD j 0)) A U U.heap ∧ va_T .int (q_ad av 1001) 4 (fun j => .int (([-1, 0, 1, 0] : List Int32).getD j 0)) A U U.heap ∧
  vk_S 6 qsln qsby (fun i => q_ad av (1010 + i)) (fun i => q_ad av (1020 + i)) A U U.heap ∧
  ∀ i, i < 6 → vk_R "StraightTax$Text" (qsix.getD i 0) (qstx.getD i "") (q_ad av (1010 + i)) U
def q_wi (w : Cond) : Bool := decide (w ∈ lw_tbl) && goodWord w
theorem q_wi_in {w : Cond} (h : q_wi w = true) : w ∈ q_tbl := by
  unfold q_wi at h
  rw [Bool.and_eq_true, decide_eq_true_iff] at h
  exact List.mem_filter.mpr h
theorem q_lk_mem {α : Type} {t : List ((Nat × Nat) × α)} {o i : Nat} {v : α} (h : q_lk t o i = some v) : ((o, i), v) ∈ t := by
  unfold q_lk at h
  cases hf : t.find? (fun e => e.1.1 == o && e.1.2 == i) with
  | none => rw [hf] at h; cases h
  | some e =>
    rw [hf] at h
    cases h
    have h1 := List.find?_some hf
    rw [Bool.and_eq_true, beq_iff_eq, beq_iff_eq] at h1
    have h2 := List.mem_of_find?_eq_some hf
    obtain ⟨⟨a, b⟩, w⟩ := e
    obtain ⟨rfl, rfl⟩ := h1
    exact h2
def q_cn (o : Nat) : String := qcn.getD o ""
theorem qci_ok : ∀ e ∈ qci, q_wi (.constant (q_cn e.1.1) e.1.2 e.2) = true := by decide +kernel
theorem qcj_ok : ∀ e ∈ qcj, q_wi (.constantLong (q_cn e.1.1) e.1.2 e.2) = true := by decide +kernel
theorem qcs_ok : ∀ e ∈ qcs, q_cn e.1.1 = "StraightTax$Text" ∧ e.2 < 6 ∧ qsix.getD e.2 0 = e.1.2 := by decide +kernel
theorem q_ciw {o x : Nat} {v : Int32} (h : q_lk qci o x = some v) : Cond.constant (q_cn o) x v ∈ q_tbl := by
  have h1 := qci_ok _ (q_lk_mem h)
  exact q_wi_in h1
theorem q_cjw {o x : Nat} {v : Int64} (h : q_lk qcj o x = some v) : Cond.constantLong (q_cn o) x v ∈ q_tbl := by
  have h1 := qcj_ok _ (q_lk_mem h)
  exact q_wi_in h1
theorem q_ldI_spec {k i n pc : Nat} {ls : QL} {st : List Value} {z : QN} (h : q_ldI k i n pc ls st = some z) : ∃ x, q_at ls i = some (.int x) ∧ n = k ∧ z = (pc + k, ls, .int x :: st) := by
  unfold q_ldI at h
  split at h
  · split at h
    · cases h; exact ⟨_, by assumption, by assumption, rfl⟩
    · cases h
  · cases h
theorem q_ldL_spec {k i n pc : Nat} {ls : QL} {st : List Value} {z : QN} (h : q_ldL k i n pc ls st = some z) : ∃ x, q_at ls i = some (.long x) ∧ n = k ∧ z = (pc + k, ls, .long x :: st) := by
  unfold q_ldL at h
  split at h
  · split at h
    · cases h; exact ⟨_, by assumption, by assumption, rfl⟩
    · cases h
  · cases h
theorem q_ldA_spec {k i n pc : Nat} {ls : QL} {st : List Value} {z : QN} (h : q_ldA k i n pc ls st = some z) : ∃ x, q_at ls i = some (.ref x) ∧ n = k ∧ z = (pc + k, ls, .ref x :: st) := by
  unfold q_ldA at h
  split at h
  · split at h
    · cases h; exact ⟨_, by assumption, by assumption, rfl⟩
    · cases h
  · cases h
theorem q_stI_spec {k i n pc : Nat} {ls : QL} {st : List Value} {z : QN} (h : q_stI k i n pc ls st = some z) : ∃ x r, st = .int x :: r ∧ n = k ∧ i < ls.length ∧ z = (pc + k, q_st1 ls i (.int x), r) := by
  unfold q_stI at h
  split at h
  · split at h
    · rename_i hh; cases h; exact ⟨_, _, rfl, hh.1, hh.2, rfl⟩
    · cases h
  · cases h
theorem q_stA_spec {k i n pc : Nat} {ls : QL} {st : List Value} {z : QN} (h : q_stA k i n pc ls st = some z) : ∃ x r, st = .ref x :: r ∧ n = k ∧ i < ls.length ∧ z = (pc + k, q_st1 ls i (.ref x), r) := by
  unfold q_stA at h
  split at h
  · split at h
    · rename_i hh; cases h; exact ⟨_, _, rfl, hh.1, hh.2, rfl⟩
    · cases h
  · cases h
theorem q_stL_spec {k i n pc : Nat} {ls : QL} {st : List Value} {z : QN} (h : q_stL k i n pc ls st = some z) : ∃ x r, st = .long x :: r ∧ n = k ∧ i + 1 < ls.length ∧ z = (pc + k, q_st2 ls i (.long x), r) := by
  unfold q_stL at h
  split at h
  · split at h
    · rename_i hh; cases h; exact ⟨_, _, rfl, hh.1, hh.2, rfl⟩
    · cases h
  · cases h
theorem q_b_spec {f : Int32 → Int32 → Int32} {n pc : Nat} {ls : QL} {st : List Value} {z : QN} (h : q_b f n pc ls st = some z) : ∃ x y r, st = .int y :: .int x :: r ∧ n = 1 ∧ z = (pc + 1, ls, .int (f x y) :: r) := by
  unfold q_b at h
  split at h
  · split at h
    · cases h; exact ⟨_, _, _, rfl, by assumption, rfl⟩
    · cases h
  · cases h
theorem q_bz_spec {f : Int32 → Int32 → Int32} {n pc : Nat} {ls : QL} {st : List Value} {z : QN} (h : q_bz f n pc ls st = some z) : ∃ x y r, st = .int y :: .int x :: r ∧ n = 1 ∧ ¬ y = 0 ∧ z = (pc + 1, ls, .int (f x y) :: r) := by
  unfold q_bz at h
  split at h
  · split at h
    · rename_i hh; cases h; exact ⟨_, _, _, rfl, hh.1, hh.2, rfl⟩
    · cases h
  · cases h
theorem q_bl_spec {f : Int64 → Int64 → Int64} {n pc : Nat} {ls : QL} {st : List Value} {z : QN} (h : q_bl f n pc ls st = some z) : ∃ x y r, st = .long y :: .long x :: r ∧ n = 1 ∧ z = (pc + 1, ls, .long (f x y) :: r) := by
  unfold q_bl at h
  split at h
  · split at h
    · cases h; exact ⟨_, _, _, rfl, by assumption, rfl⟩
    · cases h
  · cases h
theorem q_u_spec {f : Int32 → Int32} {n pc : Nat} {ls : QL} {st : List Value} {z : QN} (h : q_u f n pc ls st = some z) : ∃ x r, st = .int x :: r ∧ n = 1 ∧ z = (pc + 1, ls, .int (f x) :: r) := by
  unfold q_u at h
  split at h
  · split at h
    · cases h; exact ⟨_, _, rfl, by assumption, rfl⟩
    · cases h
  · cases h
theorem q_to_eq {pc : Nat} {off : Int} (h : 0 ≤ (pc : Int) + off) : (pc : Int) + off = (q_to pc off : Int) := by
  unfold q_to; omega
section QS
variable {p : Program} {l : Launch} {e : Env} {R : Room} {s : State} {m : MethodId} {args : Array Value} {below : List Frame} {meth : Method} {c : Code} {H : Heap} {locs : List Loc} {cells slots : Nat} {Q : State → Prop}
variable {av : Nat → Value} {A : Nat → Prop} {cc : ByteArray} {nL : Nat}
theorem q_W_aload {i pc : Nat} {LS : Array Slot} {rest : List Value} {x : Nat} (hav : q_AV av) (hx : p.tables.exec = Jvm.exec) (hb : c.code = cc) (hdg : decode cc pc = .ok (.aload i, 2)) (hl : LS[i]? = some (.val (av x))) (k : W p l e R s m args below meth c H locs cells slots Q (F0 m (pc + 2) LS (av x :: rest))) : W p l e R s m args below meth c H locs cells slots Q (F0 m pc LS rest) := by
  rcases hav.refOrNull x with ⟨a, ha⟩ | ha
  · rw [ha] at hl k; exact lv_aload hx hb hdg hl k
  · rw [ha] at hl k; exact lv_aloadN hx hb hdg hl k
theorem q_W_aload_n {i : Fin 4} {pc : Nat} {LS : Array Slot} {rest : List Value} {x : Nat} (hav : q_AV av) (hx : p.tables.exec = Jvm.exec) (hb : c.code = cc) (hdg : decode cc pc = .ok (.aload_n i, 1)) (hl : LS[(i : Nat)]? = some (.val (av x))) (k : W p l e R s m args below meth c H locs cells slots Q (F0 m (pc + 1) LS (av x :: rest))) : W p l e R s m args below meth c H locs cells slots Q (F0 m pc LS rest) := by
  rcases hav.refOrNull x with ⟨a, ha⟩ | ha
  · rw [ha] at hl k; exact lv_aload_n hx hb hdg rfl hl k
  · rw [ha] at hl k; exact lv_aload_nN hx hb hdg rfl hl k
theorem q_W_astore {i pc : Nat} {LS : Array Slot} {lv lv' : List (Nat × Value)} {rest : List Value} {x : Nat} (hav : q_AV av) (hx : p.tables.exec = Jvm.exec) (hb : c.code = cc) (hdg : decode cc pc = .ok (.astore i, 2)) (h : lv_has LS nL lv) (hn : i < nL) (hl : (i, av x) :: lv.filter (fun q => !(q.1 == i) && !(q.1 + 1 == i && q.2.category == 2)) = lv') (k : ∀ ls' : Array Slot, lv_has ls' nL lv' → W p l e R s m args below meth c H locs cells slots Q (F0 m (pc + 2) ls' rest)) : W p l e R s m args below meth c H locs cells slots Q (F0 m pc LS (av x :: rest)) := by
  rcases hav.refOrNull x with ⟨a, ha⟩ | ha
  · rw [ha] at hl ⊢; exact lv_astore hx hb hdg h hn hl k
  · rw [ha] at hl ⊢; exact lv_astoreN hx hb hdg h hn hl k
theorem q_W_astore_n {i : Fin 4} {pc : Nat} {LS : Array Slot} {lv lv' : List (Nat × Value)} {rest : List Value} {x : Nat} (hav : q_AV av) (hx : p.tables.exec = Jvm.exec) (hb : c.code = cc) (hdg : decode cc pc = .ok (.astore_n i, 1)) (h : lv_has LS nL lv) (hn : (i : Nat) < nL) (hl : ((i : Nat), av x) :: lv.filter (fun q => !(q.1 == (i : Nat)) && !(q.1 + 1 == (i : Nat) && q.2.category == 2)) = lv') (k : ∀ ls' : Array Slot, lv_has ls' nL lv' → W p l e R s m args below meth c H locs cells slots Q (F0 m (pc + 1) ls' rest)) : W p l e R s m args below meth c H locs cells slots Q (F0 m pc LS (av x :: rest)) := by
  rcases hav.refOrNull x with ⟨a, ha⟩ | ha
  · rw [ha] at hl ⊢; exact lv_astore_n hx hb hdg rfl h hn hl k
  · rw [ha] at hl ⊢; exact lv_astore_nN hx hb hdg rfl h hn hl k
set_option maxHeartbeats 4000000 in
theorem q_simS (hav : q_AV av) (hx : p.tables.exec = Jvm.exec) (hb : c.code = cc) {o : Nat} (hown : s.vm.findClass (q_cn o) = some m.cls) (hts : ∀ w ∈ q_tbl, w.before args s = true) (hfx : q_Fx A av s) {i : Instr} {len pc pc2 : Nat} {LS : Array Slot} {ls ls2 : QL} {st st2 : List Value} (hdg : decode cc pc = .ok (i, len)) (hL : q_LR av LS nL ls) (h : q_s o i len pc ls st = some (pc2, ls2, st2)) (k : ∀ LS', q_LR av LS' nL ls2 → W p l e R s m args below meth c H locs cells slots Q (F0 m pc2 LS' (st2.map (q_lf av)))) : W p l e R s m args below meth c H locs cells slots Q (F0 m pc LS (st.map (q_lf av))) := by
  cases i with
  | iconst z =>
    simp only [q_s] at h
    split at h
    · rename_i hn; subst hn; cases h; exact lv_iconst hx hb hdg rfl (k LS hL)
    · cases h
  | bipush z =>
    simp only [q_s] at h
    split at h
    · rename_i hn; subst hn; cases h; exact lv_bipush hx hb hdg rfl (k LS hL)
    · cases h
  | sipush z =>
    simp only [q_s] at h
    split at h
    · rename_i hn; subst hn; cases h; exact lv_sipush hx hb hdg rfl (k LS hL)
    · cases h
  | lconst z =>
    simp only [q_s] at h
    split at h
    · rename_i hn; subst hn; cases h; exact lv_lconst hx hb hdg rfl (k LS hL)
    · cases h
  | ldc x =>
    simp only [q_s] at h
    split at h
    · rename_i hn
      subst hn
      split at h
      · rename_i v hv
        cases h
        exact lv_ldc hx hb hown (hts _ (q_ciw hv)) hdg (k LS hL)
      · split at h
        · rename_i z hz
          cases h
          obtain ⟨e1, e2, e3⟩ := qcs_ok _ (q_lk_mem hz)
          dsimp only at e1 e2 e3
          have hR := hfx.2.2.2.2.2.2.2.2 z e2
          rw [e3] at hR
          refine va_ldcS hx hb (own := "StraightTax$Text") (by rw [← e1]; exact hown) hR hdg ?_
          have h1 := k LS hL
          rw [List.map_cons, show q_lf av (.ref (1010 + z)) = .ref (q_ad av (1010 + z)) from hav.ad (by omega)] at h1
          exact h1
        · cases h
    · cases h
  | ldc_w x =>
    simp only [q_s] at h
    split at h
    · rename_i hn
      subst hn
      split at h
      · rename_i v hv
        cases h
        exact lv_ldcw hx hb hown (hts _ (q_ciw hv)) hdg (k LS hL)
      · cases h
    · cases h
  | ldc2_w x =>
    simp only [q_s] at h
    split at h
    · rename_i hn
      subst hn
      split at h
      · rename_i v hv
        cases h
        exact lv_ldc2 hx hb hown (hts _ (q_cjw hv)) hdg (k LS hL)
      · cases h
    · cases h
  | iload_n i => obtain ⟨x, hv, rfl, hz⟩ := q_ldI_spec h; cases hz; exact lv_iload_n hx hb hdg rfl (hL.get hv) (k LS hL)
  | iload i => obtain ⟨x, hv, rfl, hz⟩ := q_ldI_spec h; cases hz; exact lv_iload hx hb hdg (hL.get hv) (k LS hL)
  | lload_n i => obtain ⟨x, hv, rfl, hz⟩ := q_ldL_spec h; cases hz; exact lv_lload_n hx hb hdg rfl (hL.get hv) (k LS hL)
  | lload i => obtain ⟨x, hv, rfl, hz⟩ := q_ldL_spec h; cases hz; exact lv_lload hx hb hdg (hL.get hv) (k LS hL)
  | aload_n i => obtain ⟨x, hv, rfl, hz⟩ := q_ldA_spec h; cases hz; exact q_W_aload_n hav hx hb hdg (hL.get hv) (k LS hL)
  | aload i => obtain ⟨x, hv, rfl, hz⟩ := q_ldA_spec h; cases hz; exact q_W_aload hav hx hb hdg (hL.get hv) (k LS hL)
  | istore_n i => obtain ⟨x, r, rfl, rfl, hi, hz⟩ := q_stI_spec h; cases hz; exact lv_istore_n hx hb hdg rfl hL.2 (by rw [← hL.1]; exact hi) rfl (fun LS' h' => k LS' (hL.st1 hav h'))
  | istore i => obtain ⟨x, r, rfl, rfl, hi, hz⟩ := q_stI_spec h; cases hz; exact lv_istore hx hb hdg hL.2 (by rw [← hL.1]; exact hi) rfl (fun LS' h' => k LS' (hL.st1 hav h'))
  | lstore_n i => obtain ⟨x, r, rfl, rfl, hi, hz⟩ := q_stL_spec h; cases hz; exact lv_lstore_n hx hb hdg rfl hL.2 (by rw [← hL.1]; exact hi) rfl (fun LS' h' => k LS' (hL.st2 hav hi h'))
  | lstore i => obtain ⟨x, r, rfl, rfl, hi, hz⟩ := q_stL_spec h; cases hz; exact lv_lstore hx hb hdg hL.2 (by rw [← hL.1]; exact hi) rfl (fun LS' h' => k LS' (hL.st2 hav hi h'))
  | astore_n i => obtain ⟨x, r, rfl, rfl, hi, hz⟩ := q_stA_spec h; cases hz; exact q_W_astore_n hav hx hb hdg hL.2 (by rw [← hL.1]; exact hi) rfl (fun LS' h' => k LS' (hL.st1 hav h'))
  | astore i => obtain ⟨x, r, rfl, rfl, hi, hz⟩ := q_stA_spec h; cases hz; exact q_W_astore hav hx hb hdg hL.2 (by rw [← hL.1]; exact hi) rfl (fun LS' h' => k LS' (hL.st1 hav h'))
  | iinc i z =>
    simp only [q_s] at h
    split at h
    · rename_i x hv
      split at h
      · rename_i hn
        obtain ⟨rfl, hi⟩ := hn
        cases h
        obtain ⟨q, hq⟩ := List.getElem?_of_mem (q_asc_mem.mpr ⟨_, hv, rfl⟩ : (i, q_lf av (.int x)) ∈ q_asc av ls)
        exact lv_iinc hx hb hdg hL.2 (k := q) (x := x) hq rfl (by rw [← hL.1]; exact hi) rfl (fun LS' h' => k LS' (hL.st1 hav h'))
      · cases h
    · cases h
  | iadd => obtain ⟨x, y, r, rfl, rfl, hz⟩ := q_b_spec h; cases hz; exact lv_iadd hx hb hdg (k LS hL)
  | isub => obtain ⟨x, y, r, rfl, rfl, hz⟩ := q_b_spec h; cases hz; exact lv_isub hx hb hdg (k LS hL)
  | imul => obtain ⟨x, y, r, rfl, rfl, hz⟩ := q_b_spec h; cases hz; exact lv_imul hx hb hdg (k LS hL)
  | iand => obtain ⟨x, y, r, rfl, rfl, hz⟩ := q_b_spec h; cases hz; exact lv_iand hx hb hdg (k LS hL)
  | ior => obtain ⟨x, y, r, rfl, rfl, hz⟩ := q_b_spec h; cases hz; exact lv_ior hx hb hdg (k LS hL)
  | ixor => obtain ⟨x, y, r, rfl, rfl, hz⟩ := q_b_spec h; cases hz; exact lv_ixor hx hb hdg (k LS hL)
  | ishl => obtain ⟨x, y, r, rfl, rfl, hz⟩ := q_b_spec h; cases hz; exact lv_ishl hx hb hdg (k LS hL)
  | ishr => obtain ⟨x, y, r, rfl, rfl, hz⟩ := q_b_spec h; cases hz; exact lv_ishr hx hb hdg (k LS hL)
  | iushr => obtain ⟨x, y, r, rfl, rfl, hz⟩ := q_b_spec h; cases hz; exact lv_iushr hx hb hdg rfl (k LS hL)
  | idiv => obtain ⟨x, y, r, rfl, rfl, h0, hz⟩ := q_bz_spec h; cases hz; exact lv_idiv hx hb hdg h0 (k LS hL)
  | irem => obtain ⟨x, y, r, rfl, rfl, h0, hz⟩ := q_bz_spec h; cases hz; exact lv_irem hx hb hdg h0 (k LS hL)
  | ineg => obtain ⟨x, r, rfl, rfl, hz⟩ := q_u_spec h; cases hz; exact lv_ineg hx hb hdg (k LS hL)
  | i2b => obtain ⟨x, r, rfl, rfl, hz⟩ := q_u_spec h; cases hz; exact lv_i2b hx hb hdg rfl (k LS hL)
  | i2c => obtain ⟨x, r, rfl, rfl, hz⟩ := q_u_spec h; cases hz; exact lv_i2c hx hb hdg rfl (k LS hL)
  | ladd => obtain ⟨x, y, r, rfl, rfl, hz⟩ := q_bl_spec h; cases hz; exact lv_ladd hx hb hdg (k LS hL)
  | lsub => obtain ⟨x, y, r, rfl, rfl, hz⟩ := q_bl_spec h; cases hz; exact lv_lsub hx hb hdg (k LS hL)
  | lmul => obtain ⟨x, y, r, rfl, rfl, hz⟩ := q_bl_spec h; cases hz; exact lv_lmul hx hb hdg (k LS hL)
  | land => obtain ⟨x, y, r, rfl, rfl, hz⟩ := q_bl_spec h; cases hz; exact lv_land hx hb hdg (k LS hL)
  | lshr =>
    simp only [q_s] at h
    split at h
    · split at h
      · rename_i hn; subst hn; cases h; exact lv_lshr hx hb hdg rfl (k LS hL)
      · cases h
    · cases h
  | i2l =>
    simp only [q_s] at h
    split at h
    · split at h
      · rename_i hn; subst hn; cases h; exact lv_i2l hx hb hdg rfl (k LS hL)
      · cases h
    · cases h
  | l2i =>
    simp only [q_s] at h
    split at h
    · split at h
      · rename_i hn; subst hn; cases h; exact lv_l2i hx hb hdg rfl (k LS hL)
      · cases h
    · cases h
  | lcmp =>
    simp only [q_s] at h
    split at h
    · split at h
      · rename_i hn; subst hn; cases h; exact W.lcmp hx hb hdg (k LS hL)
      · cases h
    · cases h
  | dup =>
    simp only [q_s] at h
    split at h
    · split at h
      · rename_i hn; subst hn; cases h; exact lv_dup hx hb hdg rfl (k LS hL)
      · cases h
    · split at h
      · rename_i hn; subst hn; cases h; exact lv_dup hx hb hdg (hav.cat (.ref _)) (k LS hL)
      · cases h
    · cases h
  | dup2 =>
    simp only [q_s] at h
    split at h
    · split at h
      · rename_i hn; subst hn; cases h; exact lv_dup2_11 hx hb hdg rfl (hav.cat (.ref _)) (k LS hL)
      · cases h
    · cases h
  | pop =>
    simp only [q_s] at h
    split at h
    · split at h
      · rename_i hn; subst hn; cases h; exact lv_pop hx hb hdg rfl (k LS hL)
      · cases h
    · cases h
  | ifCond cd off =>
    simp only [q_s] at h
    split at h
    · rename_i x r
      split at h
      · rename_i hn
        obtain ⟨rfl, hn2⟩ := id hn
        cases h
        cases cd with
        | eq =>
          refine lv_if_eq hx hb hdg (q_to_eq hn.2) (fun hc => ?_) (fun hc => ?_)
          · have h1 := k LS hL; rw [show (bif q_cd .eq x 0 then q_to pc off else pc + 3) = q_to pc off from by simp [q_cd, hc]] at h1; exact h1
          · have h1 := k LS hL; rw [show (bif q_cd .eq x 0 then q_to pc off else pc + 3) = pc + 3 from by simp [q_cd, hc]] at h1; exact h1
        | ne =>
          refine lv_if_ne hx hb hdg (q_to_eq hn.2) (fun hc => ?_) (fun hc => ?_)
          · have h1 := k LS hL; rw [show (bif q_cd .ne x 0 then q_to pc off else pc + 3) = q_to pc off from by simp [q_cd, hc]] at h1; exact h1
          · have h1 := k LS hL; rw [show (bif q_cd .ne x 0 then q_to pc off else pc + 3) = pc + 3 from by simp [q_cd, hc]] at h1; exact h1
        | lt =>
          refine lv_if_lt hx hb hdg (q_to_eq hn.2) (fun hc => ?_) (fun hc => ?_)
          · have h1 := k LS hL; rw [show (bif q_cd .lt x 0 then q_to pc off else pc + 3) = q_to pc off from by simp [q_cd, hc]] at h1; exact h1
          · have h1 := k LS hL; rw [show (bif q_cd .lt x 0 then q_to pc off else pc + 3) = pc + 3 from by simp [q_cd, hc]] at h1; exact h1
        | ge =>
          refine lv_if_ge hx hb hdg (q_to_eq hn.2) (fun hc => ?_) (fun hc => ?_)
          · have h1 := k LS hL; rw [show (bif q_cd .ge x 0 then q_to pc off else pc + 3) = q_to pc off from by simp [q_cd, hc]] at h1; exact h1
          · have h1 := k LS hL; rw [show (bif q_cd .ge x 0 then q_to pc off else pc + 3) = pc + 3 from by simp [q_cd, hc]] at h1; exact h1
        | gt =>
          refine lv_if_gt hx hb hdg (q_to_eq hn.2) (fun hc => ?_) (fun hc => ?_)
          · have h1 := k LS hL; rw [show (bif q_cd .gt x 0 then q_to pc off else pc + 3) = q_to pc off from by simp [q_cd, hc]] at h1; exact h1
          · have h1 := k LS hL; rw [show (bif q_cd .gt x 0 then q_to pc off else pc + 3) = pc + 3 from by simp [q_cd, hc]] at h1; exact h1
        | le =>
          refine lv_if_le hx hb hdg (q_to_eq hn.2) (fun hc => ?_) (fun hc => ?_)
          · have h1 := k LS hL; rw [show (bif q_cd .le x 0 then q_to pc off else pc + 3) = q_to pc off from by simp [q_cd, hc]] at h1; exact h1
          · have h1 := k LS hL; rw [show (bif q_cd .le x 0 then q_to pc off else pc + 3) = pc + 3 from by simp [q_cd, hc]] at h1; exact h1
      · cases h
    · cases h
  | if_icmp cd off =>
    simp only [q_s] at h
    split at h
    · rename_i y x r
      split at h
      · rename_i hn
        obtain ⟨rfl, hn2⟩ := id hn
        cases h
        cases cd with
        | eq =>
          refine lv_icmp_eq hx hb hdg (q_to_eq hn.2) (fun hc => ?_) (fun hc => ?_)
          · have h1 := k LS hL; rw [show (bif q_cd .eq x y then q_to pc off else pc + 3) = q_to pc off from by simp [q_cd, hc]] at h1; exact h1
          · have h1 := k LS hL; rw [show (bif q_cd .eq x y then q_to pc off else pc + 3) = pc + 3 from by simp [q_cd, hc]] at h1; exact h1
        | ne =>
          refine lv_icmp_ne hx hb hdg (q_to_eq hn.2) (fun hc => ?_) (fun hc => ?_)
          · have h1 := k LS hL; rw [show (bif q_cd .ne x y then q_to pc off else pc + 3) = q_to pc off from by simp [q_cd, hc]] at h1; exact h1
          · have h1 := k LS hL; rw [show (bif q_cd .ne x y then q_to pc off else pc + 3) = pc + 3 from by simp [q_cd, hc]] at h1; exact h1
        | lt =>
          refine lv_icmp_lt hx hb hdg (q_to_eq hn.2) (fun hc => ?_) (fun hc => ?_)
          · have h1 := k LS hL; rw [show (bif q_cd .lt x y then q_to pc off else pc + 3) = q_to pc off from by simp [q_cd, hc]] at h1; exact h1
          · have h1 := k LS hL; rw [show (bif q_cd .lt x y then q_to pc off else pc + 3) = pc + 3 from by simp [q_cd, hc]] at h1; exact h1
        | ge =>
          refine lv_icmp_ge hx hb hdg (q_to_eq hn.2) (fun hc => ?_) (fun hc => ?_)
          · have h1 := k LS hL; rw [show (bif q_cd .ge x y then q_to pc off else pc + 3) = q_to pc off from by simp [q_cd, hc]] at h1; exact h1
          · have h1 := k LS hL; rw [show (bif q_cd .ge x y then q_to pc off else pc + 3) = pc + 3 from by simp [q_cd, hc]] at h1; exact h1
        | gt =>
          refine lv_icmp_gt hx hb hdg (q_to_eq hn.2) (fun hc => ?_) (fun hc => ?_)
          · have h1 := k LS hL; rw [show (bif q_cd .gt x y then q_to pc off else pc + 3) = q_to pc off from by simp [q_cd, hc]] at h1; exact h1
          · have h1 := k LS hL; rw [show (bif q_cd .gt x y then q_to pc off else pc + 3) = pc + 3 from by simp [q_cd, hc]] at h1; exact h1
        | le =>
          refine lv_icmp_le hx hb hdg (q_to_eq hn.2) (fun hc => ?_) (fun hc => ?_)
          · have h1 := k LS hL; rw [show (bif q_cd .le x y then q_to pc off else pc + 3) = q_to pc off from by simp [q_cd, hc]] at h1; exact h1
          · have h1 := k LS hL; rw [show (bif q_cd .le x y then q_to pc off else pc + 3) = pc + 3 from by simp [q_cd, hc]] at h1; exact h1
      · cases h
    · cases h
  | goto off =>
    simp only [q_s] at h
    split at h
    · rename_i hn
      obtain ⟨rfl, hn2⟩ := hn
      cases h
      exact lv_goto hx hb hdg (q_to_eq hn2) (k LS hL)
    · cases h
  | tableswitch df lo hi offs =>
    simp only [q_s] at h
    split at h
    · rename_i x r
      split at h
      · rename_i ho
        split at h
        · rename_i hn
          cases h
          exact lv_tableOut hx hb hdg ho (q_to_eq hn) (k LS hL)
        · cases h
      · rename_i ho
        split at h
        · rename_i off hoff
          split at h
          · rename_i hn
            cases h
            exact lv_tableIn hx hb hdg (fun z => ho (Or.inl z)) (fun z => ho (Or.inr z)) hoff (q_to_eq hn) (k LS hL)
          · cases h
        · cases h
    · cases h
  | _ => cases h
end QS
end
section
/-! THE SMALL MACHINE IS TRUE TO THE MACHINE, 3: memory -/
def q_fs (av : Nat → Value) (V : QV) (c ci N : Nat) : List Value := (List.range N).map (fun k => q_lf av (q_rd V c k (q_tyf ci k)))
def q_elt (k : Nat) : FieldType := if k = 100 then .int else if k = 101 then .byte else if k = 102 then .boolean else if k = 103 then .object "StraightTax$Walk" else .object "StraightTax$Walker"
def q_e (av : Nat → Value) (ca : Nat → ClassId) (V : QV) (c : Nat) (s : Nat × Nat) : va_E :=
  if s.1 < 100 then .inr (s.1, q_fs av V c s.1 s.2)
  else if s.1 < 103 then .inl (ca c, s.2, .inl (V.1 c))
  else .inl (ca c, s.2, .inr (.inr (.inr (.inr (fun k => (V.2.2 c k).map (q_ad av))))))
def q_ws (av : Nat → Value) (ca : Nat → ClassId) (sh : QH) (V : QV) : va_W := (List.range sh.length).map (fun c => (q_ad av c, q_e av ca V c (sh.getD c (0, 0))))
def q_tys (ca : Nat → ClassId) (sh : QH) : List (ClassId × FieldType) := (List.range sh.length).filterMap (fun c => if 100 ≤ (sh.getD c (0, 0)).1 then some (ca c, q_elt (sh.getD c (0, 0)).1) else none)
def q_wf (sh : QH) : Prop := sh.length ≤ 1000 ∧ ∀ (c k z : Nat), sh[c]? = some (k, z) → k < 100 → ∃ q : vw_C, vwCl[k]? = some q ∧ q.2.2 = z
theorem q_getD {sh : QH} {c : Nat} {s : Nat × Nat} (h : sh[c]? = some s) : c < sh.length ∧ sh.getD c (0, 0) = s := by
  refine ⟨(List.getElem?_eq_some_iff.mp h).1, ?_⟩
  rw [List.getD_eq_getElem?_getD, h]; rfl
theorem q_ws_at {av : Nat → Value} {ca : Nat → ClassId} {sh : QH} {V : QV} {c : Nat} {s : Nat × Nat} (h : sh[c]? = some s) : (q_ws av ca sh V)[c]? = some (q_ad av c, q_e av ca V c s) := by
  obtain ⟨h1, h2⟩ := q_getD h
  unfold q_ws
  rw [List.getElem?_map, List.getElem?_range h1]
  show some (q_ad av c, q_e av ca V c (sh.getD c (0, 0))) = _
  rw [h2]
theorem q_tys_at {ca : Nat → ClassId} {sh : QH} {c k z : Nat} (h : sh[c]? = some (k, z)) (hk : 100 ≤ k) : ∃ t : Nat, (q_tys ca sh)[t]? = some (ca c, q_elt k) := by
  obtain ⟨h1, h2⟩ := q_getD h
  refine List.getElem?_of_mem (List.mem_filterMap.mpr ⟨c, List.mem_range.mpr h1, ?_⟩)
  rw [h2, if_pos hk]
theorem q_e_congr {av : Nat → Value} {ca : Nat → ClassId} {V V' : QV} {c : Nat} {s : Nat × Nat} (h1 : V.1 c = V'.1 c) (h2 : V.2.1 c = V'.2.1 c) (h3 : V.2.2 c = V'.2.2 c) : q_e av ca V c s = q_e av ca V' c s := by
  have e : ∀ k ty, q_rd V c k ty = q_rd V' c k ty := by
    intro k ty
    unfold q_rd
    rw [h1, h2, h3]
  unfold q_e q_fs
  simp only [e, h1, h3]
theorem q_ws_set {av : Nat → Value} {ca : Nat → ClassId} {sh : QH} {V V' : QV} {c : Nat} {s : Nat × Nat} (h : sh[c]? = some s) (hV : ∀ c', c' ≠ c → V.1 c' = V'.1 c' ∧ V.2.1 c' = V'.2.1 c' ∧ V.2.2 c' = V'.2.2 c') : (q_ws av ca sh V).set c (q_ad av c, q_e av ca V' c s) = q_ws av ca sh V' := by
  have hl : (q_ws av ca sh V).length = sh.length := by simp [q_ws]
  obtain ⟨h1, h2⟩ := q_getD h
  refine List.ext_getElem? (fun k => ?_)
  by_cases hk : k = c
  · subst hk
    rw [List.getElem?_set_self (by rw [hl]; exact h1), q_ws_at h]
  · rw [List.getElem?_set_ne (Ne.symm hk)]
    rcases Nat.lt_or_ge k sh.length with hlt | hge
    · have hs : sh[k]? = some sh[k] := List.getElem?_eq_getElem hlt
      rw [q_ws_at hs, q_ws_at hs]
      obtain ⟨a1, a2, a3⟩ := hV k hk
      rw [q_e_congr a1 a2 a3]
    · rw [List.getElem?_eq_none (by rw [hl]; exact hge), List.getElem?_eq_none (by simp [q_ws]; exact hge)]
def q_R (A : Nat → Prop) (av : Nat → Value) (ca : Nat → ClassId) (D : va_G) (sh : QH) (V : QV) (U : State) (H : Heap) : Prop := va_P D vwCl (q_ws av ca sh V) H ∧ va_D A (q_ws av ca sh V) ∧ va_K D vwCl (q_tys ca sh) U
theorem qtyX : ∀ (ci : Nat) (q : vw_C), vwCl[ci]? = some q → ∀ k, k < q.2.2 → parseFieldDescriptor (q.2.1 k).2.2.1 = some (q_tyf ci k) := by
  intro ci q h
  match ci, h with
  | 0, h => cases h; exact tyX0_ok
  | 1, h => cases h; exact tyX1_ok
  | 2, h => cases h; exact tyX2_ok
  | 3, h => cases h; exact tyX3_ok
  | 4, h => cases h; exact tyX4_ok
  | 5, h => cases h; exact tyX5_ok
  | 6, h => cases h; exact tyX6_ok
  | 7, h => cases h; exact tyX7_ok
  | 8, h => cases h; exact tyX8_ok
  | 9, h => cases h; exact tyX9_ok
  | 10, h => cases h; exact tyX10_ok
  | 11, h => cases h; exact tyX11_ok
  | 12, h => cases h; exact tyX12_ok
  | n + 13, h => simp [vwCl] at h
theorem qnmX : ∀ (ci : Nat) (q : vw_C), vwCl[ci]? = some q → ∀ a, a < q.2.2 → ∀ b, b < q.2.2 → a ≠ b → (q.2.1 a).2.1 ≠ (q.2.1 b).2.1 := by
  intro ci q h
  match ci, h with
  | 0, h => cases h; exact nmX0
  | 1, h => cases h; exact nmX1
  | 2, h => cases h; exact nmX2
  | 3, h => cases h; exact nmX3
  | 4, h => cases h; exact nmX4
  | 5, h => cases h; exact nmX5
  | 6, h => cases h; exact nmX6
  | 7, h => cases h; exact nmX7
  | 8, h => cases h; exact nmX8
  | 9, h => cases h; exact nmX9
  | 10, h => cases h; exact nmX10
  | 11, h => cases h; exact nmX11
  | 12, h => cases h; exact nmX12
  | n + 13, h => simp [vwCl] at h
/-- the link of a field, by its class's table -/
def q_okf (e : (Nat × Nat) × (Nat × Nat × Nat)) : Bool := match vwCl[e.2.1]? with
  | some q => if e.2.2.2 = 0 then q_wi (.fieldLink (q_cn e.1.1) e.1.2 (q.2.1 e.2.2.1).1 (q.2.1 e.2.2.1).2.1 (q.2.1 e.2.2.1).2.2.1) else decide (Cond.fieldLinkNest (q_cn e.1.1) e.1.2 (q.2.1 e.2.2.1).1 (q.2.1 e.2.2.1).2.1 (q.2.1 e.2.2.1).2.2.1 "StraightTax" ∈ qnest)
  | none => e.2.1 == 13 && e.1.1 == 13 && (if e.2.2.1 = 0 then q_wi (.fieldLink "java/lang/String" e.1.2 "java/lang/String" "value" "[B") else q_wi (.fieldLink "java/lang/String" e.1.2 "java/lang/String" "coder" "B"))
theorem qft_ok : ∀ e ∈ qft, q_okf e = true := by decide +kernel
theorem q_fld {o x ci k ne : Nat} {q : vw_C} (h : q_lk qft o x = some (ci, k, ne)) (hq : vwCl[ci]? = some q) : (ne = 0 ∧ Cond.fieldLink (q_cn o) x (q.2.1 k).1 (q.2.1 k).2.1 (q.2.1 k).2.2.1 ∈ q_tbl) ∨ (ne ≠ 0 ∧ Cond.fieldLinkNest (q_cn o) x (q.2.1 k).1 (q.2.1 k).2.1 (q.2.1 k).2.2.1 "StraightTax" ∈ qnest) := by
  have h1 := qft_ok _ (q_lk_mem h)
  unfold q_okf at h1
  dsimp only at h1
  rw [hq] at h1
  dsimp only at h1
  by_cases hn : ne = 0
  · rw [if_pos hn] at h1; exact Or.inl ⟨hn, q_wi_in h1⟩
  · rw [if_neg hn] at h1; exact Or.inr ⟨hn, of_decide_eq_true h1⟩
theorem q_fldS {o x k ne : Nat} (h : q_lk qft o x = some (13, k, ne)) : o = 13 ∧ (if k = 0 then Cond.fieldLink "java/lang/String" x "java/lang/String" "value" "[B" ∈ q_tbl else Cond.fieldLink "java/lang/String" x "java/lang/String" "coder" "B" ∈ q_tbl) := by
  have h1 := qft_ok _ (q_lk_mem h)
  unfold q_okf at h1
  have hn : vwCl[13]? = none := by decide +kernel
  dsimp only at h1
  rw [hn] at h1
  dsimp only at h1
  simp only [Bool.and_eq_true, beq_iff_eq] at h1
  refine ⟨h1.1.2, ?_⟩
  by_cases hk : k = 0
  · rw [if_pos hk] at h1 ⊢; exact q_wi_in h1.2
  · rw [if_neg hk] at h1 ⊢; exact q_wi_in h1.2
/-- statics -/
def q_okst (e : (Nat × Nat) × Value) : Bool := (e.1.1 == 7 && e.2 == .ref 1000 && q_wi (.fieldLink (q_cn 7) e.1.2 "StraightTax$Town" "RIGHT" "[I")) || (e.1.1 == 7 && e.2 == .ref 1001 && q_wi (.fieldLink (q_cn 7) e.1.2 "StraightTax$Town" "DOWN" "[I")) || (e.1.1 == 13 && e.2 == .int 1 && q_wi (.fieldLink (q_cn 13) e.1.2 "java/lang/String" "COMPACT_STRINGS" "Z")) || (e.1.1 == 13 && e.2 == .ref 1030 && q_wi (.fieldLink (q_cn 13) e.1.2 "jdk/internal/util/Preconditions" "SIOOBE_FORMATTER" "Ljava/util/function/BiFunction;"))
theorem qst_ok : ∀ e ∈ qst, q_okst e = true := by decide +kernel
theorem q_stat {A : Nat → Prop} {av : Nat → Value} {s : State} (hfx : q_Fx A av s) {o x : Nat} {v : Value} (h : q_lk qst o x = some v) : ∃ C n d, va_Z C n d (q_lf av v) A s s.heap ∧ Cond.fieldLink (q_cn o) x C n d ∈ q_tbl := by
  have h1 := qst_ok _ (q_lk_mem h)
  unfold q_okst at h1
  simp only [Bool.or_eq_true, Bool.and_eq_true, beq_iff_eq] at h1
  obtain ⟨-, z1, z2, z3, z4, -⟩ := hfx
  rcases h1 with ((h1 | h1) | h1) | h1
  · obtain ⟨⟨a1, a2⟩, a3⟩ := h1; subst a1; subst a2; exact ⟨_, _, _, z1, q_wi_in a3⟩
  · obtain ⟨⟨a1, a2⟩, a3⟩ := h1; subst a1; subst a2; exact ⟨_, _, _, z2, q_wi_in a3⟩
  · obtain ⟨⟨a1, a2⟩, a3⟩ := h1; subst a1; subst a2; exact ⟨_, _, _, z3, q_wi_in a3⟩
  · obtain ⟨⟨a1, a2⟩, a3⟩ := h1; subst a1; subst a2; exact ⟨_, _, _, z4, q_wi_in a3⟩
theorem q_fs_len {av : Nat → Value} {V : QV} {c ci N : Nat} : (q_fs av V c ci N).length = N := by simp [q_fs]
theorem q_fs_at {av : Nat → Value} {V : QV} {c ci N k : Nat} (h : k < N) : (q_fs av V c ci N)[k]? = some (q_lf av (q_rd V c k (q_tyf ci k))) := by
  unfold q_fs
  rw [List.getElem?_map, List.getElem?_range h]; rfl
theorem q_up_s {α : Type} {f : Nat → Nat → α} {c k : Nat} {v : α} : q_up f c k v c k = v := by simp [q_up]
theorem q_up_n {α : Type} {f : Nat → Nat → α} {c k c' k' : Nat} {v : α} (h : ¬ (c' = c ∧ k' = k)) : q_up f c k v c' k' = f c' k' := by simp only [q_up, if_neg h]
theorem q_up_c {α : Type} {f : Nat → Nat → α} {c k c' : Nat} {v : α} (h : c' ≠ c) : f c' = q_up f c k v c' := by
  funext k'
  rw [q_up_n (fun z => h z.1)]
/-- a field is written: what it is, and that the other fields and cells stay -/
theorem q_wr_spec {av : Nat → Value} (hav : q_AV av) {V V' : QV} {c ci k N : Nat} {v : Value} (h : q_wr V c k (q_tyf ci k) v = some V') (hk : k < N) : narrow (q_tyf ci k) (q_lf av v) = q_lf av v ∧ fits (q_tyf ci k) (q_lf av v) = true ∧ (∀ c', c' ≠ c → V.1 c' = V'.1 c' ∧ V.2.1 c' = V'.2.1 c' ∧ V.2.2 c' = V'.2.2 c') ∧ q_fs av V' c ci N = (q_fs av V c ci N).set k (q_lf av v) := by
  have key : ∀ V' : QV, (∀ k' ty, k' ≠ k → q_rd V' c k' ty = q_rd V c k' ty) → q_lf av (q_rd V' c k (q_tyf ci k)) = q_lf av v → q_fs av V' c ci N = (q_fs av V c ci N).set k (q_lf av v) := by
    intro V' e1 e2
    refine List.ext_getElem? (fun i => ?_)
    by_cases hi : i = k
    · subst hi
      rw [List.getElem?_set_self (by rw [q_fs_len]; exact hk), q_fs_at hk, e2]
    · rw [List.getElem?_set_ne (Ne.symm hi)]
      rcases Nat.lt_or_ge i N with hl | hl
      · rw [q_fs_at hl, q_fs_at hl, e1 i _ hi]
      · rw [List.getElem?_eq_none (by rw [q_fs_len]; exact hl), List.getElem?_eq_none (by rw [q_fs_len]; exact hl)]
  unfold q_wr at h
  split at h
  · split at h
    · rename_i hty _ x
      cases h
      rw [hty]
      refine ⟨rfl, rfl, fun c' hc => ⟨rfl, q_up_c hc, rfl⟩, key _ (fun k' ty hk' => ?_) ?_⟩
      · unfold q_rd q_uL; simp only [q_up_n (fun z : c = c ∧ k' = k => hk' z.2)]
      · rw [hty]; show Value.long (q_up V.2.1 c k x c k) = _; rw [q_up_s]; rfl
    · cases h
  · split at h
    · rename_i hty _ a
      split at h
      · rename_i ha
        cases h
        rw [hty]
        have e : q_lf av (.ref a) = .ref (q_ad av a) := hav.ad (fun z => absurd ha (by rw [z]; decide))
        rw [e]
        refine ⟨rfl, rfl, fun c' hc => ⟨rfl, rfl, q_up_c hc⟩, ?_⟩
        rw [← e]
        refine key _ (fun k' ty hk' => ?_) ?_
        · unfold q_rd q_uR; simp only [q_up_n (fun z : c = c ∧ k' = k => hk' z.2)]
        · rw [hty]; show q_lf av (q_rf (q_up V.2.2 c k (some a) c k)) = _; rw [q_up_s]; rfl
      · cases h
    · cases h
  · split at h
    · rename_i hty _ x
      cases h
      rw [hty]
      refine ⟨rfl, rfl, fun c' hc => ⟨q_up_c hc, rfl, rfl⟩, key _ (fun k' ty hk' => ?_) ?_⟩
      · unfold q_rd q_uI; simp only [q_up_n (fun z : c = c ∧ k' = k => hk' z.2)]
      · rw [hty]; show Value.int (q_up V.1 c k x c k) = _; rw [q_up_s]; rfl
    · cases h
  · split at h
    · rename_i hty _ x
      split at h
      · rename_i hb
        cases h
        rw [hty]
        refine ⟨?_, ?_, fun c' hc => ⟨q_up_c hc, rfl, rfl⟩, key _ (fun k' ty hk' => ?_) ?_⟩
        · rcases hb with rfl | rfl <;> rfl
        · rcases hb with rfl | rfl <;> rfl
        · unfold q_rd q_uI; simp only [q_up_n (fun z : c = c ∧ k' = k => hk' z.2)]
        · rw [hty]; show Value.int (q_up V.1 c k x c k) = _; rw [q_up_s]; rfl
      · cases h
    · cases h
  · cases h
theorem q_vin {x : Int32} {n : Nat} (h : 0 ≤ x.toInt ∧ x.toInt < n) : vp_in x n := vp_in_iff.mpr h
end
section
/-! THE SMALL MACHINE IS TRUE TO THE MACHINE, 4: what reads or writes memory -/
theorem q_up_upd {f : Nat → Nat → Int32} {c k : Nat} {v : Int32} : q_up f c k v c = upd (f c) k v := by
  funext j
  simp only [q_up, upd, true_and]
section QM
variable {p : Program} {l : Launch} {e : Env} {R : Room} {s : State} {m : MethodId} {args : Array Value} {below : List Frame} {meth : Method} {c : Code} {H : Heap} {locs : List Loc} {cells slots : Nat} {Q : State → Prop}
variable {av : Nat → Value} {A : Nat → Prop} {cc : ByteArray} {nL : Nat} {ca : Nat → ClassId} {D : va_G} {sh : QH}
theorem q_roI_T {U : State} (hfx : q_Fx A av U) {c : Nat} {a : List Int32} (h : q_roI c = some a) : a.length = 4 ∧ c ≠ 1030 ∧ va_T .int (q_ad av c) 4 (fun j => .int (a.getD j 0)) A U U.heap := by
  obtain ⟨-, -, -, -, -, t1, t2, -⟩ := hfx
  unfold q_roI at h
  split at h
  · cases h; exact ⟨rfl, by decide, t1⟩
  · cases h; exact ⟨rfl, by decide, t2⟩
  · cases h
theorem q_sb : ∀ i, i < 6 → qsln.getD i 0 = (qsby.getD i []).length := by decide +kernel
theorem q_roB_T {U : State} (hfx : q_Fx A av U) {c : Nat} {a : List Int32} (h : q_roB c = some a) : c ≠ 1030 ∧ va_T .byte (q_ad av c) a.length (fun j => .int (a.getD j 0)) A U U.heap := by
  obtain ⟨-, -, -, -, -, -, -, t1, -⟩ := hfx
  unfold q_roB at h
  split at h
  · rename_i hc
    refine ⟨by omega, ?_⟩
    have h2 := (t1.1 (c - 1020) (by omega)).2.2.2
    have e1 : qsby.getD (c - 1020) [] = a := by rw [List.getD_eq_getElem?_getD, h]; rfl
    rw [e1, q_sb _ (by omega), e1] at h2
    dsimp only at h2
    rw [show 1020 + (c - 1020) = c by omega] at h2
    exact h2
  · cases h
theorem q_sp {z : Nat} (h : 1010 ≤ z ∧ z < 1016) : ∃ i : Nat, i < 6 ∧ z = 1010 + i := ⟨z - 1010, by omega, by omega⟩
theorem q_n1 {i : Nat} (h : i < 6) : 1010 + i ≠ 1030 := by omega
theorem q_n2 {i : Nat} (h : i < 6) : 1020 + i ≠ 1030 := by omega
theorem q_n3 {i : Nat} : 1010 + i + 10 = 1020 + i := by omega
theorem qac_ok : ∀ e ∈ qct, e.2.1 = 5 → q_wi (.methodLink (q_cn e.1.1) e.1.2 arraycopyName) = true := by decide +kernel
theorem qac_w : q_wi (.native arraycopyName) = true ∧ q_wi (.static arraycopyName) = true ∧ q_wi (.initialized "java/lang/System") = true := by decide +kernel
set_option maxHeartbeats 4000000 in
theorem q_simM (hav : q_AV av) (hwf : q_wf sh) (hx : p.tables.exec = Jvm.exec) (hb : c.code = cc) {o : Nat} (hown : s.vm.findClass (q_cn o) = some m.cls) (hts : ∀ w ∈ q_tbl, w.before args s = true) (hfx : q_Fx A av s) (hml : c.maxLocals = nL) {i : Instr} {len pc pc2 : Nat} {LS : Array Slot} {ls : QL} {st st2 : List Value} {V V2 : QV} (hdg : decode cc pc = .ok (i, len)) (hL : q_LR av LS nL ls) (hR : q_R A av ca D sh V s H) (hS : va_S A s.heap H locs) (hfr : 1 ≤ R.frames) (hlo : 60 ≤ R.locals) (h : q_m sh o i len pc st V = some (pc2, st2, V2)) (k : ∀ H1 locs1, q_R A av ca D sh V2 s H1 → va_S A s.heap H1 locs1 → W p l e R s m args below meth c H1 locs1 cells slots Q (F0 m pc2 LS (st2.map (q_lf av)))) : W p l e R s m args below meth c H locs cells slots Q (F0 m pc LS (st.map (q_lf av))) := by
  obtain ⟨hP, hD, hK⟩ := id hR
  have nm : ∀ {z : Nat} {w : Nat × Nat}, sh[z]? = some w → z ≠ 1030 := fun {z w} hz => by
    have h1 := (q_getD hz).1
    have h2 := hwf.1
    omega
  have rf : ∀ {z : Nat} {w : Nat × Nat}, sh[z]? = some w → q_lf av (.ref z) = .ref (q_ad av z) := fun hz => hav.ad (nm hz)
  cases i with
  | getfield x =>
    simp only [q_m] at h
    split at h
    · rename_i z r
      split at h
      · rename_i kk ne hf
        split at h
        · rename_i v hv
          split at h
          · rename_i hn
            obtain ⟨rfl, -⟩ := hn
            cases h
            obtain ⟨rfl, hw⟩ := q_fldS hf
            have hz : 1010 ≤ z ∧ z < 1016 := by
              unfold q_roF at hv
              split at hv
              · assumption
              · cases hv
            obtain ⟨i, hi, rfl⟩ := q_sp hz
            obtain ⟨-, -, -, -, -, -, -, t1, -⟩ := id hfx
            obtain ⟨-, o1, o2, -⟩ := t1.1 i hi
            have e0 : q_lf av (.ref (1010 + i)) = .ref (q_ad av (1010 + i)) := hav.ad (q_n1 hi)
            rw [List.map_cons, e0]
            by_cases hk : kk = 0
            · rw [if_pos hk] at hw
              have ev : v = .ref (1010 + i + 10) := by
                unfold q_roF at hv; rw [if_pos hz, if_pos hk] at hv; exact (Option.some.inj hv).symm
              subst ev
              refine vk_getf hx hb o2 hS hown (hts _ hw) (fun _ h => h) hdg ?_
              have h1 := k H locs hR hS
              rw [List.map_cons, show q_lf av (.ref (1010 + i + 10)) = .ref (q_ad av (1020 + i)) from by rw [q_n3]; exact hav.ad (q_n2 hi)] at h1
              exact h1
            · rw [if_neg hk] at hw
              have ev : v = .int 0 := by
                unfold q_roF at hv; rw [if_pos hz, if_neg hk] at hv; exact (Option.some.inj hv).symm
              subst ev
              exact vk_getf hx hb o1 hS hown (hts _ hw) (fun _ h => h) hdg (k H locs hR hS)
          · cases h
        · cases h
      · rename_i ci kk ne hne hf
        split at h
        · rename_i ci' n0 hs
          split at h
          · rename_i hn
            obtain ⟨rfl, rfl, hkf⟩ := hn
            cases h
            unfold q_kf at hkf
            split at hkf
            · rename_i q hq
              have hk := of_decide_eq_true hkf
              have hc100 : ci' < 100 := by
                have h1 := (List.getElem?_eq_some_iff.mp hq).1
                have h2 : vwCl.length ≤ 100 := by decide
                omega
              obtain ⟨q', hq', hN⟩ := hwf.2 z ci' n0 hs hc100
              cases hq.symm.trans hq'
              have hat := q_ws_at (av := av) (ca := ca) (V := V) hs
              have he : q_e av ca V z (ci', n0) = .inr (ci', q_fs av V z ci' n0) := by unfold q_e; rw [if_pos hc100]
              rw [he] at hat
              have hv : (q_fs av V z ci' n0)[kk]? = some (q_lf av (q_rd V z kk (q_tyf ci' kk))) := q_fs_at (by omega)
              rw [List.map_cons, rf hs]
              have hin : ∀ w ∈ u_ws q.1 q.2.1 q.2.2, w ∈ q_tbl := fun w hw => List.mem_filter.mpr (qinX ci' q hq w hw)
              rcases q_fld hf hq with ⟨-, hw⟩ | ⟨-, hw⟩
              · exact va_get (C := q.1) (T := q.2.1) (N := q.2.2) hx hb hts hin hown hK hP z hat hq kk hk (hts _ hw) (fun _ h => h) hv hdg (k H locs hR hS)
              · exact va_getN (C := q.1) (T := q.2.1) (N := q.2.2) hx hb hts hin hown hK hP z hat hq kk hk (va_Nw.use rfl (hfx.1 _ hw)) (fun _ h => h) hv hdg (k H locs hR hS)
            · cases hkf
          · cases h
        · cases h
      · cases h
    · cases h
  | putfield x =>
    simp only [q_m] at h
    split at h
    · rename_i v z r
      split at h
      · rename_i ci kk ne hf
        split at h
        · rename_i ci' n0 hs
          split at h
          · rename_i hn
            obtain ⟨rfl, rfl, hnf⟩ := hn
            split at h
            · rename_i V' hwr
              cases h
              unfold q_nf at hnf
              split at hnf
              · rename_i q hq
                rw [Bool.and_eq_true] at hnf
                have hk := of_decide_eq_true hnf.1
                have hfin : (q.2.1 kk).2.2.2 = false := by simpa using hnf.2
                have hc100 : ci' < 100 := by
                  have h1 := (List.getElem?_eq_some_iff.mp hq).1
                  have h2 : vwCl.length ≤ 100 := by decide
                  omega
                obtain ⟨q', hq', hN⟩ := hwf.2 z ci' n0 hs hc100
                cases hq.symm.trans hq'
                have he : ∀ V, q_e av ca V z (ci', n0) = .inr (ci', q_fs av V z ci' n0) := fun V => by unfold q_e; rw [if_pos hc100]
                have hat := q_ws_at (av := av) (ca := ca) (V := V) hs
                rw [he] at hat
                obtain ⟨w1, w2, w3, w4⟩ := q_wr_spec hav (N := n0) hwr (by omega)
                have hin : ∀ w ∈ u_ws q.1 q.2.1 q.2.2, w ∈ q_tbl := fun w hw => List.mem_filter.mpr (qinX ci' q hq w hw)
                have hset := q_ws_set (av := av) (ca := ca) (V := V) (V' := V2) hs w3
                rw [he, w4] at hset
                rw [List.map_cons, List.map_cons, rf hs]
                rcases q_fld hf hq with ⟨-, hw⟩ | ⟨-, hw⟩
                · refine va_put (C := q.1) (T := q.2.1) (N := q.2.2) hx hb hts hin (q_tyf ci') (qtyX ci' q hq) (qnmX ci' q hq) hown hK hP hD hS z hat hq kk hk (hts _ hw) (fun _ h => h) hfin (qtyX ci' q hq kk hk) w1 w2 (by rw [q_fs_len]; omega) hdg (fun H1 locs1 hP1 hD1 hS1 => ?_)
                  rw [hset] at hP1 hD1
                  exact k H1 locs1 ⟨hP1, hD1, hK⟩ hS1
                · refine va_putN (C := q.1) (T := q.2.1) (N := q.2.2) hx hb hts hin (q_tyf ci') (qtyX ci' q hq) (qnmX ci' q hq) hown hK hP hD hS z hat hq kk hk (va_Nw.use rfl (hfx.1 _ hw)) (fun _ h => h) hfin (qtyX ci' q hq kk hk) w1 w2 (by rw [q_fs_len]; omega) hdg (fun H1 locs1 hP1 hD1 hS1 => ?_)
                  rw [hset] at hP1 hD1
                  exact k H1 locs1 ⟨hP1, hD1, hK⟩ hS1
              · cases hnf
            · cases h
          · cases h
        · cases h
      · cases h
    · cases h
  | getstatic x =>
    simp only [q_m] at h
    split at h
    · rename_i v hv
      split at h
      · rename_i hn
        subst hn
        cases h
        obtain ⟨C, n, d, hZ, hw⟩ := q_stat hfx hv
        exact va_gets hx hb hZ hS hown (hts _ hw) (fun _ h => h) hdg (k H locs hR hS)
      · cases h
    · cases h
  | iaload =>
    simp only [q_m] at h
    split at h
    · rename_i j z r
      split at h
      · rename_i n0 hs
        split at h
        · rename_i hn
          obtain ⟨rfl, hj⟩ := hn
          cases h
          rw [List.map_cons, List.map_cons, rf hs]
          obtain ⟨t0, ht⟩ := q_tys_at (ca := ca) hs (by decide)
          exact va_iald hx hb hK hP z t0 (q_ws_at hs) ht (q_vin hj) hdg (k H locs hR hS)
        · cases h
      · cases h
      · split at h
        · rename_i a ha
          split at h
          · rename_i hn
            obtain ⟨rfl, hj⟩ := hn
            cases h
            obtain ⟨e1, e2, hT⟩ := q_roI_T hfx ha
            rw [e1] at hj
            rw [List.map_cons, List.map_cons, show q_lf av (.ref z) = .ref (q_ad av z) from hav.ad e2]
            exact va_ti hx hb hT hS (q_vin hj) rfl hdg (k H locs hR hS)
          · cases h
        · cases h
    · cases h
  | baload =>
    simp only [q_m] at h
    split at h
    · rename_i j z r
      split at h
      · rename_i n0 hs
        split at h
        · rename_i hn
          obtain ⟨rfl, hj⟩ := hn
          cases h
          rw [List.map_cons, List.map_cons, rf hs]
          obtain ⟨t0, ht⟩ := q_tys_at (ca := ca) hs (by decide)
          exact va_bald hx hb hK hP z t0 (q_ws_at hs) ht (q_vin hj) hdg (k H locs hR hS)
        · cases h
      · rename_i n0 hs
        split at h
        · rename_i hn
          obtain ⟨rfl, hj⟩ := hn
          cases h
          rw [List.map_cons, List.map_cons, rf hs]
          obtain ⟨t0, ht⟩ := q_tys_at (ca := ca) hs (by decide)
          exact va_zald hx hb hK hP z t0 (q_ws_at hs) ht (q_vin hj) hdg (k H locs hR hS)
        · cases h
      · cases h
      · split at h
        · rename_i a ha
          split at h
          · rename_i hn
            obtain ⟨rfl, hj⟩ := hn
            cases h
            obtain ⟨e2, hT⟩ := q_roB_T hfx ha
            rw [List.map_cons, List.map_cons, show q_lf av (.ref z) = .ref (q_ad av z) from hav.ad e2]
            exact va_tb hx hb hT hS (q_vin hj) rfl hdg (k H locs hR hS)
          · cases h
        · cases h
    · cases h
  | aaload =>
    simp only [q_m] at h
    split at h
    · rename_i j z r
      split at h
      · rename_i n0 hs
        split at h
        · rename_i a ha
          split at h
          · rename_i hn
            obtain ⟨rfl, hj, ha2⟩ := hn
            cases h
            rw [List.map_cons, List.map_cons, rf hs]
            obtain ⟨t0, ht⟩ := q_tys_at (ca := ca) hs (by decide)
            refine va_aldq (C := "StraightTax$Walk") hx hb hK hP z t0 (q_ws_at hs) ht (q_vin hj) hdg ?_
            have h1 := k H locs hR hS
            rw [List.map_cons, show q_lf av (.ref a) = .ref (q_ad av a) from hav.ad (fun z => absurd ha2 (by rw [z]; decide))] at h1
            show W _ _ _ _ _ _ _ _ _ _ _ _ _ _ _ (F0 m (pc + 1) LS (va_rf ((V.2.2 z (q_ix j)).map (q_ad av)) :: _))
            rw [ha]
            exact h1
          · cases h
        · cases h
      · rename_i n0 hs
        split at h
        · rename_i a ha
          split at h
          · rename_i hn
            obtain ⟨rfl, hj, ha2⟩ := hn
            cases h
            rw [List.map_cons, List.map_cons, rf hs]
            obtain ⟨t0, ht⟩ := q_tys_at (ca := ca) hs (by decide)
            refine va_aldq (C := "StraightTax$Walker") hx hb hK hP z t0 (q_ws_at hs) ht (q_vin hj) hdg ?_
            have h1 := k H locs hR hS
            rw [List.map_cons, show q_lf av (.ref a) = .ref (q_ad av a) from hav.ad (fun z => absurd ha2 (by rw [z]; decide))] at h1
            show W _ _ _ _ _ _ _ _ _ _ _ _ _ _ _ (F0 m (pc + 1) LS (va_rf ((V.2.2 z (q_ix j)).map (q_ad av)) :: _))
            rw [ha]
            exact h1
          · cases h
        · cases h
      · cases h
    · cases h
  | iastore =>
    simp only [q_m] at h
    split at h
    · rename_i v j z r
      split at h
      · rename_i n0 hs
        split at h
        · rename_i hn
          obtain ⟨rfl, hj⟩ := hn
          cases h
          rw [List.map_cons, List.map_cons, List.map_cons, rf hs]
          obtain ⟨t0, ht⟩ := q_tys_at (ca := ca) hs (by decide)
          refine va_iast hx hb hK hP hD hS z t0 (q_ws_at hs) ht (q_vin hj) hdg (fun H1 locs1 hP1 hD1 hS1 => ?_)
          have hset := q_ws_set (av := av) (ca := ca) (V := V) (V' := q_uI V z (q_ix j) v) hs (fun c' hc => ⟨q_up_c hc, rfl, rfl⟩)
          have he : q_e av ca (q_uI V z (q_ix j) v) z (100, n0) = .inl (ca z, n0, .inl (upd (V.1 z) j.toNatClampNeg v)) := by
            show (Sum.inl (ca z, n0, Sum.inl (q_up V.1 z (q_ix j) v z)) : va_E) = _
            rw [q_up_upd]; rfl
          rw [he] at hset
          rw [hset] at hP1 hD1
          exact k H1 locs1 ⟨hP1, hD1, hK⟩ hS1
        · cases h
      · cases h
    · cases h
  | bastore =>
    simp only [q_m] at h
    split at h
    · rename_i v j z r
      split at h
      · rename_i n0 hs
        split at h
        · rename_i hn
          obtain ⟨rfl, hj⟩ := hn
          cases h
          rw [List.map_cons, List.map_cons, List.map_cons, rf hs]
          obtain ⟨t0, ht⟩ := q_tys_at (ca := ca) hs (by decide)
          refine va_bast hx hb hK hP hD hS z t0 (q_ws_at hs) ht (q_vin hj) hdg (fun H1 locs1 hP1 hD1 hS1 => ?_)
          have hset := q_ws_set (av := av) (ca := ca) (V := V) (V' := q_uI V z (q_ix j) v.toInt8.toInt32) hs (fun c' hc => ⟨q_up_c hc, rfl, rfl⟩)
          have he : q_e av ca (q_uI V z (q_ix j) v.toInt8.toInt32) z (101, n0) = .inl (ca z, n0, .inl (upd (V.1 z) j.toNatClampNeg (vp_nar .byte v))) := by
            show (Sum.inl (ca z, n0, Sum.inl (q_up V.1 z (q_ix j) v.toInt8.toInt32 z)) : va_E) = _
            rw [q_up_upd, vp_nar_byte]; rfl
          rw [he] at hset
          rw [hset] at hP1 hD1
          exact k H1 locs1 ⟨hP1, hD1, hK⟩ hS1
        · cases h
      · rename_i n0 hs
        split at h
        · rename_i hn
          obtain ⟨rfl, hj, hv⟩ := hn
          cases h
          rw [List.map_cons, List.map_cons, List.map_cons, rf hs]
          obtain ⟨t0, ht⟩ := q_tys_at (ca := ca) hs (by decide)
          refine va_zast hx hb hK hP hD hS z t0 (q_ws_at hs) ht (q_vin hj) hdg (fun H1 locs1 hP1 hD1 hS1 => ?_)
          have hset := q_ws_set (av := av) (ca := ca) (V := V) (V' := q_uI V z (q_ix j) v) hs (fun c' hc => ⟨q_up_c hc, rfl, rfl⟩)
          have he : q_e av ca (q_uI V z (q_ix j) v) z (102, n0) = .inl (ca z, n0, .inl (upd (V.1 z) j.toNatClampNeg (vp_nar .boolean v))) := by
            show (Sum.inl (ca z, n0, Sum.inl (q_up V.1 z (q_ix j) v z)) : va_E) = _
            rw [q_up_upd, show vp_nar .boolean v = v from by rcases hv with rfl | rfl <;> rfl]; rfl
          rw [he] at hset
          rw [hset] at hP1 hD1
          exact k H1 locs1 ⟨hP1, hD1, hK⟩ hS1
        · cases h
      · cases h
    · cases h
  | arraylength =>
    simp only [q_m] at h
    split at h
    · rename_i z r
      split at h
      · rename_i k0 n0 hs
        split at h
        · rename_i hn
          obtain ⟨rfl, rfl⟩ := hn
          cases h
          rw [List.map_cons, rf hs]
          obtain ⟨t0, ht⟩ := q_tys_at (ca := ca) hs (by decide)
          exact va_alen (x := (n0, .inl (V.1 z))) hx hb hK hP z t0 (q_ws_at hs) ht rfl hdg (k H locs hR hS)
        · cases h
      · split at h
        · rename_i a ha
          split at h
          · rename_i hn
            subst hn
            cases h
            obtain ⟨e2, hT⟩ := q_roB_T hfx ha
            rw [List.map_cons, show q_lf av (.ref z) = .ref (q_ad av z) from hav.ad e2]
            exact va_tlen hx hb hT hS rfl hdg (k H locs hR hS)
          · cases h
        · cases h
    · cases h
  | invokestatic x =>
    simp only [q_m] at h
    split at h
    · rename_i jj hc
      split at h
      · rename_i mm dp c1 sp c0 r
        split at h
        · rename_i z0 z1 hs0 hs1
          split at h
          · rename_i hn
            obtain ⟨rfl, n1, n2, n3, n4, n5, n6⟩ := hn
            cases h
            have hw := q_wi_in (qac_ok _ (q_lk_mem hc) rfl)
            obtain ⟨w1, w2, w3⟩ := qac_w
            rw [List.map_cons, List.map_cons, List.map_cons, List.map_cons, List.map_cons, rf hs0, rf hs1]
            obtain ⟨t0, ht0⟩ := q_tys_at (ca := ca) hs0 (by decide)
            obtain ⟨t1, ht1⟩ := q_tys_at (ca := ca) hs1 (by decide)
            have ng : ∀ {y : Int32}, 0 ≤ y.toInt → ¬ y < 0 := fun {y} h1 h2 => by
              rw [Int32.lt_iff_toInt_lt] at h2
              have : (0 : Int32).toInt = 0 := rfl
              omega
            refine va_copyi hx hb (hml.trans hL.2.1.symm) hown (hts _ hw) (hts _ (q_wi_in w1)) (hts _ (q_wi_in w2)) (hts _ (q_wi_in w3)) hK hP hD hS c0 c1 t0 t1 (q_ws_at hs0) (q_ws_at hs1) ht0 ht1 rfl (ng n1) (ng n2) (ng n3) n4 n5 (fun i hi => rfl) hfr ?_ hdg (fun H1 locs1 hP1 hD1 hS1 => ?_)
            · rw [hav.sum]
              have : nativeFrameWords "java/lang/System" "arraycopy" 5 = 7 := by decide
              omega
            · have hset := q_ws_set (av := av) (ca := ca) (V := V) (V' := (q_cp V.1 c0 c1 (q_ix sp) (q_ix dp) (q_ix mm), V.2)) hs1 (fun c' hc' => ⟨by funext kk; simp only [q_cp, if_neg hc'], rfl, rfl⟩)
              have he : q_e av ca (q_cp V.1 c0 c1 (q_ix sp) (q_ix dp) (q_ix mm), V.2) c1 (100, z1) = .inl (ca c1, z1, .inl (va_cpy (V.1 c0) (V.1 c1) sp.toNatClampNeg dp.toNatClampNeg mm.toNatClampNeg)) := by
                show (Sum.inl (ca c1, z1, Sum.inl (q_cp V.1 c0 c1 (q_ix sp) (q_ix dp) (q_ix mm) c1)) : va_E) = _
                rw [show q_cp V.1 c0 c1 (q_ix sp) (q_ix dp) (q_ix mm) c1 = va_cpy (V.1 c0) (V.1 c1) (q_ix sp) (q_ix dp) (q_ix mm) from by funext kk; simp [q_cp]]; rfl
              rw [he] at hset
              rw [hset] at hP1 hD1
              exact k H1 locs1 ⟨hP1, hD1, hK⟩ hS1
          · cases h
        · cases h
      · cases h
    · cases h
  | _ => cases h
end QM
end
section
/-! THE SMALL MACHINE IS TRUE TO THE MACHINE, 5: calls, and all of it -/
def q_Q (A : Nat → Prop) (av : Nat → Value) (ca : Nat → ClassId) (D : va_G) (sh : QH) (v : Option Value) (V : QV) : Array Value → State → Outcome → State → Prop := fun _ st oc t => oc = .returned (v.map (q_lf av)) ∧ q_R A av ca D sh V t t.heap ∧ va_F A st t
def q_P (A : Nat → Prop) (av : Nat → Value) (ca : Nat → ClassId) (D : va_G) (sh : QH) (as : List Value) (V : QV) : Array Value → State → Prop := fun a U => a = (as.map (q_lf av)).toArray ∧ q_R A av ca D sh V U U.heap ∧ q_Fx A av U ∧ ∀ q, U.heap.size ≤ q → A q
def q_rm (d : Nat) : Room := { frames := d + 1, cells := 0, slots := 0, locals := 60 * (d + 1) }
def q_wsj (r : QRow) : List Cond := Cond.code r.2.2.2.1 r.2.1 r.2.2.1 r.2.2.2.2.1 :: q_tbl
def q_isN : Cond → Bool
  | .fieldLinkNest .. => true
  | .methodLinkNest .. => true
  | _ => false
theorem qnest_is : ∀ w ∈ qnest, q_isN w = true := by decide +kernel
theorem q_Fx.moved {A : Nat → Prop} {av : Nat → Value} {s U : State} {locs : List Loc} (h : q_Fx A av s) (hS : va_S A s.heap U.heap locs) (hW : s.WarmedH U.vm) : q_Fx A av U := by
  obtain ⟨h1, h2, h3, h4, h5, h6, h7, h8, h9⟩ := h
  have hvm := hW.alike
  refine ⟨fun w hw => ?_, va_Z.moved hvm (h2.kept hS.2.1), va_Z.moved hvm (h3.kept hS.2.1), va_Z.moved hvm (h4.kept hS.2.1), va_Z.moved hvm (h5.kept hS.2.1), va_T.moved hvm (h6.kept hS.2.1), va_T.moved hvm (h7.kept hS.2.1), vk_S.moved hvm (h8.kept hS.2.1), fun i hi => vk_R.warm hW (h9 i hi)⟩
  have hn := qnest_is w hw
  have hz := h1 w hw
  cases w <;> first | exact va_Nw.warmF hW hz | exact va_Nw.warmM hW hz | cases hn
theorem q_R.moved {A : Nat → Prop} {av : Nat → Value} {ca : Nat → ClassId} {D : va_G} {sh : QH} {V : QV} {u U : State} {H : Heap} (hvm : u.vm.Alike U.vm) (h : q_R A av ca D sh V u H) : q_R A av ca D sh V U H := ⟨h.1, h.2.1, va_K.moved hvm h.2.2⟩
theorem q_P_blind {A : Nat → Prop} {av : Nat → Value} {ca : Nat → ClassId} {D : va_G} {sh : QH} {as : List Value} {V : QV} : FrameBlind (q_P A av ca D sh as V) := by
  intro a U g mk h
  obtain ⟨h1, h2, h3, h4⟩ := h
  exact ⟨h1, q_R.moved (u := U) (U := U.calling g mk a) (Vm.Alike.refl U.vm) h2, q_Fx.moved (U := U.calling g mk a) h3 (va_S.rf (A := A) (H0 := U.heap)) (State.WarmedH.refl U), h4⟩
def q_okm (r : QRow) : Bool := plainFor r.2.2.2.1 && decide (r.2.2.2.1.cls ≠ "java/lang/invoke/MethodHandle") && decide (r.2.2.2.1.cls ≠ "java/lang/invoke/VarHandle") && decide ((parseMethodDescriptor r.2.2.2.1.desc).map (fun d => d.parameters.length) = some r.2.2.2.2.2) && decide (r.2.2.2.1.cls = q_cn r.1) && decide (r.2.2.1 ≤ 30)
theorem qmt_okm : ∀ r ∈ qmt, q_okm r = true := by decide +kernel
theorem q_okm_spec {j : Nat} {r : QRow} (h : qmt[j]? = some r) : plainFor r.2.2.2.1 = true ∧ (r.2.2.2.1.cls ≠ "java/lang/invoke/MethodHandle" ∧ r.2.2.2.1.cls ≠ "java/lang/invoke/VarHandle") ∧ (∀ sig, parseMethodDescriptor r.2.2.2.1.desc = some sig → r.2.2.2.2.2 = sig.parameters.length) ∧ r.2.2.2.1.cls = q_cn r.1 ∧ r.2.2.1 ≤ 30 ∧ Cond.code r.2.2.2.1 r.2.1 r.2.2.1 r.2.2.2.2.1 ∈ q_tbl := by
  have hm := List.mem_of_getElem? h
  have h1 := qmt_okm r hm
  unfold q_okm at h1
  simp only [Bool.and_eq_true, decide_eq_true_eq] at h1
  obtain ⟨⟨⟨⟨⟨a1, a2⟩, a3⟩, a4⟩, a5⟩, a6⟩ := h1
  refine ⟨a1, ⟨a2, a3⟩, fun sig hs => ?_, a5, a6, List.mem_filter.mpr ⟨qmt_in r hm, rfl⟩⟩
  rw [hs] at a4
  exact (Option.some.inj a4).symm
theorem q_tbl_good : GoodIn q_tbl q_tbl := fun w hw => ⟨hw, good_of_word (List.mem_filter.mp hw).2⟩
theorem q_wsj_good {j : Nat} {r : QRow} (h : qmt[j]? = some r) : GoodIn q_tbl (q_wsj r) := by
  intro w hw
  rcases List.mem_cons.mp hw with rfl | hw
  · exact q_tbl_good _ (q_okm_spec h).2.2.2.2.2
  · exact q_tbl_good w hw
def q_wp (w : Cond) (i : Nat) : Bool := decide (lw_tbl[i]? = some w) && goodWord w
theorem q_wp_in {w : Cond} {i : Nat} (h : q_wp w i = true) : w ∈ q_tbl := by
  unfold q_wp at h
  rw [Bool.and_eq_true, decide_eq_true_iff] at h
  exact List.mem_filter.mpr ⟨List.mem_of_getElem? h.1, h.2⟩
def q_okc (e : (Nat × Nat) × (Nat × Nat)) (ps : List Nat) : Bool := match qmt[e.2.2]? with
  | none => false
  | some r => match e.2.1 with
    | 0 => q_wp (.methodLink (q_cn e.1.1) e.1.2 r.2.2.2.1) (ps.getD 0 0) && q_wp (.instanceMethod r.2.2.2.1) (ps.getD 1 0) && q_wp (.selects r.2.2.2.1.cls r.2.2.2.1 r.2.2.2.1) (ps.getD 2 0) && q_wp (.initialized r.2.2.2.1.cls) (ps.getD 3 0)
    | 1 => q_wp (.methodLink (q_cn e.1.1) e.1.2 r.2.2.2.1) (ps.getD 0 0) && q_wp (.static r.2.2.2.1) (ps.getD 1 0) && q_wp (.initialized r.2.2.2.1.cls) (ps.getD 2 0)
    | 2 => decide (Cond.methodLinkNest (q_cn e.1.1) e.1.2 r.2.2.2.1 "StraightTax" ∈ qnest) && q_wp (.static r.2.2.2.1) (ps.getD 1 0) && q_wp (.initialized r.2.2.2.1.cls) (ps.getD 2 0)
    | 3 => q_wp (.methodLink (q_cn e.1.1) e.1.2 r.2.2.2.1) (ps.getD 0 0) && q_wp (.sameMethod r.2.2.2.1.cls r.2.2.2.1.cls r.2.2.2.1.name r.2.2.2.1.desc) (ps.getD 1 0) && q_wp (.superclass (q_cn e.1.1) r.2.2.2.1.cls) (ps.getD 2 0) && q_wp (.instanceMethod r.2.2.2.1) (ps.getD 3 0) && q_wp (.initialized r.2.2.2.1.cls) (ps.getD 4 0) && decide (r.2.2.2.1.name ≠ "<init>")
    | 4 => q_wp (.methodLink (q_cn e.1.1) e.1.2 r.2.2.2.1) (ps.getD 0 0) && q_wp (.sameMethod r.2.2.2.1.cls r.2.2.2.1.cls r.2.2.2.1.name r.2.2.2.1.desc) (ps.getD 1 0) && q_wp (.instanceMethod r.2.2.2.1) (ps.getD 2 0) && qdt.all (fun f => match qmt[f.2]? with
      | none => false
      | some r2 => q_wi (.selects (q_cn f.1) r.2.2.2.1 r2.2.2.2.1) && q_wi (.instanceMethod r2.2.2.2.1) && q_wi (.initialized r2.2.2.2.1.cls) && decide (r2.2.2.2.2.2 = r.2.2.2.2.2) && decide (f.1 < 13))
    | _ => true
set_option maxRecDepth 100000 in
theorem qct_okz : (qct.zip qcp).all (fun z => q_okc z.1 z.2) = true := by decide +kernel
theorem qct_len : qct.length = qcp.length := by decide +kernel
theorem qct_ok {e : (Nat × Nat) × (Nat × Nat)} (h : e ∈ qct) : ∃ ps, q_okc e ps = true := by
  obtain ⟨i, hi⟩ := List.getElem?_of_mem h
  have hl := (List.getElem?_eq_some_iff.mp hi).1
  have hp : qcp[i]? = some (qcp[i]'(by rw [← qct_len]; exact hl)) := List.getElem?_eq_getElem _
  refine ⟨_, List.all_eq_true.mp qct_okz (e, qcp[i]'(by rw [← qct_len]; exact hl)) ?_⟩
  refine List.mem_of_getElem? (i := i) ?_
  rw [List.getElem?_zip_eq_some]
  exact ⟨hi, hp⟩
theorem q_cnX : ∀ (ci : Nat) (q : vw_C), vwCl[ci]? = some q → q.1 = q_cn ci := by
  intro ci q h
  match ci, h with
  | 0, h => cases h; rfl
  | 1, h => cases h; rfl
  | 2, h => cases h; rfl
  | 3, h => cases h; rfl
  | 4, h => cases h; rfl
  | 5, h => cases h; rfl
  | 6, h => cases h; rfl
  | 7, h => cases h; rfl
  | 8, h => cases h; rfl
  | 9, h => cases h; rfl
  | 10, h => cases h; rfl
  | 11, h => cases h; rfl
  | 12, h => cases h; rfl
  | n + 13, h => simp [vwCl] at h
section QC
variable {p : Program} {l : Launch} {e : Env} {R : Room} {s : State} {m : MethodId} {args : Array Value} {below : List Frame} {meth : Method} {c : Code} {H : Heap} {locs : List Loc} {Q : State → Prop}
variable {av : Nat → Value} {A : Nat → Prop} {cc : ByteArray} {nL : Nat} {ca : Nat → ClassId} {D : va_G} {sh : QH}
theorem q_back {pc : Nat} {LS : Array Slot} {st0 rest : List Value} {v : Option Value} {V : QV} {a : Array Value} (hr : va_Run p l e R s m args below meth c H locs 0 0 0 0 (F0 m pc LS st0) rest (q_Q A av ca D sh v V a) A) (hS : va_S A s.heap H locs)
    (kk : ∀ H1 locs1, q_R A av ca D sh V s H1 → va_S A s.heap H1 locs1 → W p l e R s m args below meth c H1 locs1 0 0 Q (F0 m (pc + 3) LS ((v.map (q_lf av)).toList ++ rest))) : W p l e R s m args below meth c H locs 0 0 Q (F0 m pc LS st0) := by
  intro T hT X
  obtain ⟨v', st₀, t, T', L, h0, X', hL, e1, e2, ⟨hv, hR, hz, hk⟩, st⟩ := hr T hT X
  cases hv
  rw [h0] at hz hk
  have hal : s.vm.Alike t.vm := by rw [← e2]; exact X'.warmed.alike
  obtain ⟨t2, a1, b1⟩ := kk T'.heap (locs ++ L) (by rw [e1]; exact q_R.moved hal.symm hR)
    ⟨Nat.le_trans hS.1 (by rw [e1]; exact hz), fun q h1 h2 => by rw [e1, hk q (Nat.lt_of_lt_of_le h1 hS.1) h2]; exact hS.2.1 q h1 h2, fun q hq => by
      rcases List.mem_append.mp hq with h | h
      · exact hS.2.2 q h
      · exact hL q h⟩ T' rfl X'
  exact ⟨t2, st t2 a1, b1⟩
/-- the cell that a call is made upon -/
theorem q_recv {V : QV} (hwf : q_wf sh) (hfx : q_Fx A av s) (hR : q_R A av ca D sh V s H) (hS : va_S A s.heap H locs) {z k : Nat} (h : q_cls sh z = some k) (hk : k < 19) : z ≠ 1030 ∧ (∃ cell : Cell, H[q_ad av z]? = some cell ∧ cell.vm.isStatics = false ∧ s.vm.findClass (q_cn k) = some cell.cls) ∧ (z < sh.length → ∃ cC, ClassAt s (q_cn k) cC) := by
  unfold q_cls at h
  split at h
  · rename_i k' n hs
    cases h
    have hz := (q_getD hs).1
    obtain ⟨q, hq, hN⟩ := hwf.2 z k n hs (by omega)
    have hat := q_ws_at (av := av) (ca := ca) (V := V) hs
    have he : q_e av ca V z (k, n) = .inr (k, q_fs av V z k n) := by unfold q_e; rw [if_pos (show k < 100 by omega)]
    rw [he] at hat
    have hc := va_recv hR.2.2 hR.1 hq hat
    rw [q_cnX k q hq] at hc
    refine ⟨by have := hwf.1; omega, hc, fun _ => ⟨D.1 k, ?_⟩⟩
    have h2 := (hR.2.2.1 k q hq).2
    rw [q_cnX k q hq] at h2
    exact h2
  · rename_i hn
    split at h
    · rename_i hz
      cases h
      obtain ⟨i, hi, rfl⟩ := q_sp hz
      refine ⟨q_n1 hi, ?_, fun h1 => ?_⟩
      · obtain ⟨-, -, -, -, -, -, -, t1, -⟩ := hfx
        have h3 := vk_recv (i := i) t1 hi hS
        exact h3
      · have := hwf.1; omega
    · cases h
end QC
end
section
/-! THE SMALL MACHINE IS TRUE TO THE MACHINE, 6: all of it -/
theorem q_at_rep {n i : Nat} {v : Value} (h : q_at (List.replicate n none) i = some v) : False := by
  unfold q_at at h
  rw [List.getD_eq_getElem?_getD, List.getElem?_replicate] at h
  split at h <;> cases h
theorem q_en_len : ∀ (as : List Value) (n : Nat), (q_en as n).length = n
  | [], n => by simp [q_en]
  | .int v :: t, 0 => by simp [q_en]
  | .int v :: t, n + 1 => by simp [q_en, q_en_len t n]
  | .ref v :: t, 0 => by simp [q_en]
  | .ref v :: t, n + 1 => by simp [q_en, q_en_len t n]
  | .long v :: t, 0 => by simp [q_en]
  | .long v :: t, 1 => by simp [q_en]
  | .long v :: t, n + 2 => by simp [q_en, q_en_len t n]
  | .null :: t, n => by simp [q_en]
  | .float _ :: t, n => by simp [q_en]
  | .double _ :: t, n => by simp [q_en]
  | .retAddr _ :: t, n => by simp [q_en]
theorem q_lv_args {av : Nat → Value} (hav : q_AV av) : ∀ (as : List Value) (n b i : Nat) (v : Value), q_at (q_en as n) i = some v → (b + i, q_lf av v) ∈ lv_args b (as.map (q_lf av))
  | [], n, b, i, v, h => by rw [q_en] at h; exact (q_at_rep h).elim
  | .int x :: t, 0, b, i, v, h => by cases i <;> cases h
  | .int x :: t, n + 1, b, 0, v, h => by cases h; exact List.mem_cons_self
  | .int x :: t, n + 1, b, i + 1, v, h => by
    have h1 := q_lv_args hav t n (b + 1) i v h
    rw [show b + 1 + i = b + (i + 1) by omega] at h1
    exact List.mem_cons.mpr (Or.inr h1)
  | .ref x :: t, 0, b, i, v, h => by cases i <;> cases h
  | .ref x :: t, n + 1, b, 0, v, h => by cases h; exact List.mem_cons_self
  | .ref x :: t, n + 1, b, i + 1, v, h => by
    have h1 := q_lv_args hav t n (b + 1) i v h
    rw [show b + 1 + i = b + (i + 1) by omega] at h1
    refine List.mem_cons.mpr (Or.inr ?_)
    rw [show (if (q_lf av (.ref x)).category = 2 then b + 2 else b + 1) = b + 1 from by rw [hav.cat]; rfl]
    exact h1
  | .long x :: t, 0, b, i, v, h => by cases i <;> cases h
  | .long x :: t, 1, b, i, v, h => by rw [show q_en (.long x :: t) 1 = List.replicate 1 none from rfl] at h; exact (q_at_rep h).elim
  | .long x :: t, n + 2, b, 0, v, h => by cases h; exact List.mem_cons_self
  | .long x :: t, n + 2, b, 1, v, h => by cases h
  | .long x :: t, n + 2, b, i + 2, v, h => by
    have h1 := q_lv_args hav t n (b + 2) i v h
    rw [show b + 2 + i = b + (i + 2) by omega] at h1
    exact List.mem_cons.mpr (Or.inr h1)
  | .null :: t, n, b, i, v, h => by rw [q_en] at h; exact (q_at_rep h).elim; all_goals simp
  | .float _ :: t, n, b, i, v, h => by rw [q_en] at h; exact (q_at_rep h).elim; all_goals simp
  | .double _ :: t, n, b, i, v, h => by rw [q_en] at h; exact (q_at_rep h).elim; all_goals simp
  | .retAddr _ :: t, n, b, i, v, h => by rw [q_en] at h; exact (q_at_rep h).elim; all_goals simp
theorem q_sl_len (as : List Value) : (lg_sl as).length = (as.map fun v => v.category).sum := by
  induction as with
  | nil => rfl
  | cons a t ih =>
    unfold lg_sl at ih ⊢
    rw [List.flatMap_cons, List.length_append, ih, List.map_cons, List.sum_cons]
    rcases lv_cat a with h | h
    · rw [h]; simp
    · rw [h]; simp
section QZ
variable {l : Launch} {av : Nat → Value} {A : Nat → Prop} {ca : Nat → ClassId} {D : va_G} {sh : QH}
/-- what is to be shown of a run of n steps -/
def q_Sim (l : Launch) (av : Nat → Value) (A : Nat → Prop) (ca : Nat → ClassId) (D : va_G) (sh : QH) (n : Nat) : Prop := ∀ (d j pc : Nat) (ls : QL) (st : List Value) (V : QV) (v : Option Value) (V2 : QV) (r : QRow), am sh n d j pc ls st V = some (v, V2) → qmt[j]? = some r → ∀ (p : Program) (e : Env) (R : Room) (s : State) (m : MethodId) (args : Array Value) (below : List Frame) (meth : Method) (c : Code) (H : Heap) (locs : List Loc) (LS : Array Slot), p.tables.exec = Jvm.exec → c.code = r.2.1 → c.maxLocals = r.2.2.1 → s.vm.findClass (q_cn r.1) = some m.cls → (∀ w ∈ q_tbl, w.before args s = true) → meth.sig.returnType = r.2.2.2.2.1 → meth.locks = false → q_Fx A av s → (∀ q, s.heap.size ≤ q → A q) → d + 1 ≤ R.frames → 60 * (d + 1) ≤ R.locals → q_R A av ca D sh V s H → va_S A s.heap H locs → q_LR av LS r.2.2.1 ls → W p l e R s m args below meth c H locs 0 0 (MQ below (q_Q A av ca D sh v V2) args s 0 0 A) (F0 m pc LS (st.map (q_lf av)))
/-- the contract of a method, out of a run of it -/
theorem q_met (hav : q_AV av) {n : Nat} (hsim : q_Sim l av A ca D sh n) {d j : Nat} {as : List Value} {V V2 : QV} {v : Option Value} {r : QRow} (ha : am sh n d j 0 (q_en as (q_ml j)) [] V = some (v, V2)) (hr : qmt[j]? = some r) (hfit : (as.map fun v => v.category).sum ≤ q_ml j) : Met l r.2.2.2.1 (q_wsj r) (q_rm d) (q_P A av ca D sh as V) (q_Q A av ca D sh v V2) 0 0 A := by
  obtain ⟨hy, -, -, hcn, -, -⟩ := q_okm_spec hr
  have hml : q_ml j = r.2.2.1 := by unfold q_ml; rw [hr]; rfl
  rw [hml] at hfit ha
  refine va_MetF (cc := r.2.1) (maxL := r.2.2.1) (ret := r.2.2.2.2.1) hy rfl ?_
  intro p e s m args below meth c s₁ B hml2 hv
  obtain ⟨rfl, hR, hF, hA⟩ := hv
  have hts := atoms_spec (ws := q_wsj r) B.pre
  have hl : q_LR av ((lg_sl (as.map (q_lf av)) ++ List.replicate (r.2.2.1 - (lg_sl (as.map (q_lf av))).length) Slot.unset).toArray) r.2.2.1 (q_en as r.2.2.1) := by
    have h1 := lv_entry (as.map (q_lf av)) (n := r.2.2.1) (by rw [q_sl_len, hav.sum]; exact hfit)
    refine ⟨q_en_len as r.2.2.1, h1.1, h1.2.1, fun q hq => h1.2.2 q ?_⟩
    obtain ⟨w, h2, h3⟩ := q_asc_mem.mp hq
    have h4 := q_lv_args hav as r.2.2.1 0 q.1 w h2
    rw [Nat.zero_add, ← h3] at h4
    exact h4
  rw [lg_entry_eq]
  refine hsim d j 0 (q_en as r.2.2.1) [] V v V2 r ha hr p e _ s m _ below meth c s.heap [] _ B.exec B.bytes hml2 ?_ (fun w hw => hts w (List.mem_cons_of_mem _ hw)) B.returns B.notSynchronized hF hA (Nat.le_refl _) (Nat.le_refl _) hR va_S.rf hl
  rw [← hcn]
  exact findClass_of_methodNamed B.named
end QZ
end
section
/-! THE SMALL MACHINE IS TRUE TO THE MACHINE, 7 -/
section QY
variable {l : Launch} {av : Nat → Value} {A : Nat → Prop} {ca : Nat → ClassId} {D : va_G} {sh : QH}
theorem q_dec_spec {j pc o len : Nat} {i : Instr} {r : QRow} (h : q_dec j pc = some (o, i, len)) (hr : qmt[j]? = some r) : o = r.1 ∧ decode r.2.1 pc = .ok (i, len) := by
  unfold q_dec at h
  rw [hr] at h
  dsimp only at h
  split at h
  · cases h
  · cases h; exact ⟨rfl, by assumption⟩
theorem q_drop {α : Type} {st r : List α} {n : Nat} {a : α} (h : st.drop n = a :: r) : st = st.take n ++ a :: r ∧ (st.take n).length = n := by
  refine ⟨by rw [← h, List.take_append_drop], ?_⟩
  have h1 : (st.drop n).length = r.length + 1 := by rw [h]; rfl
  rw [List.length_drop] at h1
  rw [List.length_take]
  omega
theorem q_retW {p : Program} {e : Env} {R : Room} {s : State} {m : MethodId} {args : Array Value} {below : List Frame} {meth : Method} {c : Code} {H : Heap} {locs : List Loc} {LS : Array Slot} {V : QV} {r : QRow} {j pc len : Nat} {i : Instr} {st : List Value} {w : Option Value} (hx : p.tables.exec = Jvm.exec) (hb : c.code = r.2.1) (hret : meth.sig.returnType = r.2.2.2.2.1) (hlk : meth.locks = false) (hj : qmt[j]? = some r) (hdg : decode r.2.1 pc = .ok (i, len)) (hR : q_R A av ca D sh V s H) (hS : va_S A s.heap H locs) (hq : q_ret j i len st = some w) : W p l e R s m args below meth c H locs 0 0 (MQ below (q_Q A av ca D sh w V) args s 0 0 A) (F0 m pc LS (st.map (q_lf av))) := by
  have hrt : q_rt j = some r.2.2.2.2.1 := by unfold q_rt; rw [hj]; rfl
  have post : ∀ (w' : Option Value), w'.map (q_lf av) = w' → ∀ t : State, t.heap = H → s.WarmedH t.vm → q_Q A av ca D sh w' V args s (.returned w') t := by
    intro w' hw t ht hW
    exact ⟨by rw [hw], by rw [ht]; exact q_R.moved hW.alike hR, hS.F ht⟩
  cases i with
  | ireturn =>
    simp only [q_ret] at hq
    split at hq
    · rename_i x
      split at hq
      · rename_i hn
        subst hn
        rw [hrt] at hq
        split at hq
        · rename_i ty hty
          split at hq
          · rename_i hnar
            cases hq
            exact W.zret hx hb (hret.trans (Option.some.inj hty)) hnar (post (some (.int x)) rfl) hS.2.2 hdg
          · cases hq
        · cases hq
      · cases hq
    · cases hq
  | lreturn =>
    simp only [q_ret] at hq
    split at hq
    · rename_i x
      split at hq
      · rename_i hn
        obtain ⟨rfl, h2⟩ := hn
        cases hq
        rw [hrt] at h2
        exact W.lret hx hb (hret.trans (Option.some.inj h2)) (post (some (.long x)) rfl) hS.2.2 hdg
      · cases hq
    · cases hq
  | return_ =>
    simp only [q_ret] at hq
    split at hq
    · split at hq
      · rename_i hn
        obtain ⟨rfl, h2⟩ := hn
        cases hq
        rw [hrt] at h2
        exact W.vret hx hb (hret.trans (Option.some.inj h2)) (post none rfl) hS.2.2 hdg
      · cases hq
    · cases hq
  | _ => cases hq
set_option maxHeartbeats 4000000 in
theorem q_callW (hav : q_AV av) (hwf : q_wf sh) {p : Program} {e : Env} {R : Room} {s : State} {m : MethodId} {args : Array Value} {below : List Frame} {meth : Method} {c : Code} {H : Heap} {locs : List Loc} {LS : Array Slot} {ls : QL} {V V1 : QV} {r : QRow} {d2 o pc len j2 : Nat} {i : Instr} {st as rs : List Value} {v1 : Option Value} {Q : State → Prop}
    (hx : p.tables.exec = Jvm.exec) (hb : c.code = r.2.1) (hml : c.maxLocals = r.2.2.1) (hown : s.vm.findClass (q_cn o) = some m.cls) (hts : ∀ w ∈ q_tbl, w.before args s = true) (hfx : q_Fx A av s) (hA : ∀ q, s.heap.size ≤ q → A q) (hfr : d2 + 1 + 1 ≤ R.frames) (hlo : 60 * (d2 + 1 + 1) ≤ R.locals) (hR : q_R A av ca D sh V s H) (hS : va_S A s.heap H locs) (hL : q_LR av LS r.2.2.1 ls) (hdg : decode r.2.1 pc = .ok (i, len)) (hc : q_call sh o i len st = some (j2, as, rs))
    (hM : ∀ r2, qmt[j2]? = some r2 → Met l r2.2.2.2.1 (q_wsj r2) (q_rm d2) (q_P A av ca D sh as V) (q_Q A av ca D sh v1 V1) 0 0 A)
    (k : ∀ H1 locs1, q_R A av ca D sh V1 s H1 → va_S A s.heap H1 locs1 → W p l e R s m args below meth c H1 locs1 0 0 Q (F0 m (pc + 3) LS ((v1.toList ++ rs).map (q_lf av)))) : W p l e R s m args below meth c H locs 0 0 Q (F0 m pc LS (st.map (q_lf av))) := by
  have hpre : ∀ U : State, U.heap = H → s.WarmedH U.vm → q_P A av ca D sh as V (as.map (q_lf av)).toArray U := by
    intro U hU hW
    refine ⟨rfl, by rw [hU]; exact q_R.moved hW.alike hR, hfx.moved (locs := locs) (by rw [hU]; exact hS) hW, fun q hq => hA q (Nat.le_trans ?_ hq)⟩
    rw [hU]; exact hS.1
  have hk : ∀ H1 locs1, q_R A av ca D sh V1 s H1 → va_S A s.heap H1 locs1 → W p l e R s m args below meth c H1 locs1 0 0 Q (F0 m (pc + 3) LS ((v1.map (q_lf av)).toList ++ rs.map (q_lf av))) := by
    intro H1 locs1 a1 a2
    have h1 := k H1 locs1 a1 a2
    rw [List.map_append] at h1
    have e1 : (v1.toList).map (q_lf av) = (v1.map (q_lf av)).toList := by cases v1 <;> rfl
    rw [e1] at h1
    exact h1
  have hws : ∀ {r2 : QRow}, qmt[j2]? = some r2 → (∀ w ∈ q_wsj r2, ∀ (a' : Array Value) (U : State), s.WarmedH U.vm → w.before a' U = true) ∧ Cond.code r2.2.2.2.1 r2.2.1 r2.2.2.1 r2.2.2.2.2.1 ∈ q_wsj r2 ∧ (Cond.code r2.2.2.2.1 r2.2.1 r2.2.2.1 r2.2.2.2.2.1).before args s = true ∧ 8 + (r2.2.2.1 + 11) + (q_rm d2).locals ≤ R.locals := by
    intro r2 h2
    obtain ⟨-, -, -, -, b1, b2⟩ := q_okm_spec h2
    refine ⟨pay_in hts (q_wsj_good h2), List.mem_cons_self, hts _ b2, ?_⟩
    show 8 + (r2.2.2.1 + 11) + 60 * (d2 + 1) ≤ R.locals
    omega
  have room : ∀ {x : List Value}, (x.map fun v => v.category).sum ≤ 8 → 2 * (F0 m pc LS (st.map (q_lf av))).monitorRoom + ((x.map (q_lf av)).map fun v => v.category).sum ≤ 8 := by
    intro x hx8
    rw [hav.sum]
    exact lv_room hx8
  have revs : ∀ (x : List Value), (((x.reverse).map (q_lf av)).reverse) = x.map (q_lf av) := fun x => by rw [← List.map_reverse, List.reverse_reverse]
  cases i with
  | invokevirtual x =>
    simp only [q_call] at hc
    split at hc
    · rename_i j hl
      split at hc
      · rename_i z r' hdr
        split at hc
        · rename_i hn
          obtain ⟨rfl, hcl, h8⟩ := hn
          cases hc
          obtain ⟨ps, hok⟩ := qct_ok (q_lk_mem hl)
          unfold q_okc at hok
          split at hok
          · cases hok
          · rename_i r2 h2
            dsimp only at hok h2
            simp only [Bool.and_eq_true] at hok
            obtain ⟨⟨⟨k1, k2⟩, k3⟩, k4⟩ := hok
            obtain ⟨b0, b1, b2, b3, b4, b5⟩ := q_okm_spec h2
            have hj19 : r2.1 < 19 := by
              have h3 : ∀ q ∈ qmt, q.1 < 19 := by decide +kernel
              exact h3 r2 (List.mem_of_getElem? h2)
            have hown2 : q_own j2 = r2.1 := by unfold q_own; rw [h2]; rfl
            have hnp : q_np j2 = r2.2.2.2.2.2 := by unfold q_np; rw [h2]; rfl
            rw [hown2] at hcl
            obtain ⟨hz, hrc, -⟩ := q_recv hwf hfx hR hS hcl hj19
            rw [← b3] at hrc
            obtain ⟨w1, w2, w3, w4⟩ := hws h2
            obtain ⟨d1, d3⟩ := q_drop hdr
            have ez : q_lf av (.ref z) = .ref (q_ad av z) := hav.ad hz
            rw [List.map_cons, ez] at hpre
            refine q_back (va_runV (n := r2.2.2.2.2.2) ⟨hx, hb, hml, hown, hts⟩ (hM r2 h2) ⟨⟨rfl, rfl, hfr, w4, w1, w2, w3, hts _ (q_wp_in k4), b1, fun sig h => b2 sig h, hts _ (q_wp_in k1)⟩, hts _ (q_wp_in k2), hts _ (q_wp_in k3)⟩ ⟨q_P_blind, hrc, hpre⟩ rfl (by rw [List.length_map, List.length_reverse, d3, hnp]) hL.2.1 ?_ (room h8) hdg ⟨Nat.zero_le _, Nat.zero_le _⟩) hS hk
            show st.map (q_lf av) = _
            rw [revs]
            conv => lhs; rw [d1]
            rw [List.map_append, List.map_cons, ez]
        · cases hc
      · cases hc
    · rename_i j0 hl
      split at hc
      · rename_i z r' hdr
        split at hc
        · rename_i kk hcl
          split at hc
          · rename_i fj jj hfind
            split at hc
            · rename_i hn
              obtain ⟨rfl, hzl, h8⟩ := hn
              cases hc
              obtain ⟨ps, hok⟩ := qct_ok (q_lk_mem hl)
              unfold q_okc at hok
              split at hok
              · cases hok
              · rename_i r0 h0
                dsimp only at hok h0
                simp only [Bool.and_eq_true] at hok
                obtain ⟨⟨⟨k1, k2⟩, k3⟩, k4⟩ := hok
                have hmem := List.mem_of_find?_eq_some hfind
                have hfk : fj = kk := by simpa using List.find?_some hfind
                subst hfk
                have k5 := List.all_eq_true.mp k4 _ hmem
                dsimp only at k5
                split at k5
                · cases k5
                · rename_i r2 h2
                  simp only [Bool.and_eq_true, decide_eq_true_eq] at k5
                  obtain ⟨⟨⟨⟨k6, k7⟩, k8⟩, k9⟩, k10⟩ := k5
                  obtain ⟨c0, c1, c2, c3, c4, c5⟩ := q_okm_spec h0
                  have hnp : q_np j0 = r0.2.2.2.2.2 := by unfold q_np; rw [h0]; rfl
                  obtain ⟨hz, hrc, -⟩ := q_recv hwf hfx hR hS hcl (by omega)
                  obtain ⟨w1, w2, w3, w4⟩ := hws h2
                  obtain ⟨d1, d3⟩ := q_drop hdr
                  have ez : q_lf av (.ref z) = .ref (q_ad av z) := hav.ad hz
                  rw [List.map_cons, ez] at hpre
                  refine q_back (va_runU (owner := r0.2.2.2.1.cls) (x := r0.2.2.2.1) (n := r0.2.2.2.2.2) ⟨hx, hb, hml, hown, hts⟩ (hM r2 h2) ⟨⟨rfl, rfl, hfr, w4, w1, w2⟩, w3, hts _ (q_wi_in k8), c1, fun sig h => c2 sig h, hts _ (q_wp_in k1), hts _ (q_wp_in k2), va_Decl.of (hts _ (q_wp_in k3)) (hts _ c5), hts _ (q_wi_in k6), hts _ (q_wi_in k7)⟩ ⟨q_P_blind, hrc, hpre⟩ rfl (by rw [List.length_map, List.length_reverse, d3, hnp]) hL.2.1 ?_ (room h8) hdg ⟨Nat.zero_le _, Nat.zero_le _⟩) hS hk
                  show st.map (q_lf av) = _
                  rw [revs]
                  conv => lhs; rw [d1]
                  rw [List.map_append, List.map_cons, ez]
            · cases hc
          · cases hc
        · cases hc
      · cases hc
    · cases hc
  | invokestatic x =>
    simp only [q_call] at hc
    split at hc
    · rename_i j hl
      split at hc
      · rename_i hn
        obtain ⟨rfl, hst, h8⟩ := hn
        cases hc
        obtain ⟨ps, hok⟩ := qct_ok (q_lk_mem hl)
        unfold q_okc at hok
        split at hok
        · cases hok
        · rename_i r2 h2
          dsimp only at hok h2
          simp only [Bool.and_eq_true] at hok
          obtain ⟨⟨k1, k2⟩, k3⟩ := hok
          obtain ⟨b0, b1, b2, b3, b4, b5⟩ := q_okm_spec h2
          have hnp : q_np j2 = r2.2.2.2.2.2 := by unfold q_np; rw [h2]; rfl
          obtain ⟨w1, w2, w3, w4⟩ := hws h2
          refine q_back (va_runS (n := r2.2.2.2.2.2) ⟨hx, hb, hml, hown, hts⟩ (hM r2 h2) ⟨⟨rfl, rfl, hfr, w4, w1, w2, w3, hts _ (q_wp_in k3), b1, fun sig h => b2 sig h, hts _ (q_wp_in k1)⟩, hts _ (q_wp_in k2)⟩ ⟨q_P_blind, hpre⟩ rfl (by rw [List.length_map, List.length_reverse, List.length_take, Nat.min_eq_left hst, hnp]) hL.2.1 ?_ (room h8) hdg ⟨Nat.zero_le _, Nat.zero_le _⟩) hS hk
          show st.map (q_lf av) = _
          rw [revs, ← List.map_append, List.take_append_drop]
      · cases hc
    · rename_i j hl
      split at hc
      · rename_i hn
        obtain ⟨rfl, hst, h8⟩ := hn
        cases hc
        obtain ⟨ps, hok⟩ := qct_ok (q_lk_mem hl)
        unfold q_okc at hok
        split at hok
        · cases hok
        · rename_i r2 h2
          dsimp only at hok h2
          simp only [Bool.and_eq_true, decide_eq_true_eq] at hok
          obtain ⟨⟨k1, k2⟩, k3⟩ := hok
          obtain ⟨b0, b1, b2, b3, b4, b5⟩ := q_okm_spec h2
          have hnp : q_np j2 = r2.2.2.2.2.2 := by unfold q_np; rw [h2]; rfl
          obtain ⟨w1, w2, w3, w4⟩ := hws h2
          refine q_back (va_runSN (n := r2.2.2.2.2.2) ⟨hx, hb, hml, hown, hts⟩ (hM r2 h2) ⟨⟨⟨rfl, rfl, hfr, w4, w1, w2⟩, w3, hts _ (q_wp_in k3), b1, fun sig h => b2 sig h, va_Nw.use rfl (hfx.1 _ k1)⟩, hts _ (q_wp_in k2), trivial⟩ ⟨q_P_blind, hpre⟩ rfl (by rw [List.length_map, List.length_reverse, List.length_take, Nat.min_eq_left hst, hnp]) hL.2.1 ?_ (room h8) hdg ⟨Nat.zero_le _, Nat.zero_le _⟩) hS hk
          show st.map (q_lf av) = _
          rw [revs, ← List.map_append, List.take_append_drop]
      · cases hc
    · cases hc
  | invokespecial x =>
    simp only [q_call] at hc
    split at hc
    · rename_i j hl
      split at hc
      · rename_i z r' hdr
        split at hc
        · rename_i kk hcl
          split at hc
          · rename_i hn
            obtain ⟨rfl, hzl, hk13, h8⟩ := hn
            cases hc
            obtain ⟨ps, hok⟩ := qct_ok (q_lk_mem hl)
            unfold q_okc at hok
            split at hok
            · cases hok
            · rename_i r2 h2
              dsimp only at hok h2
              simp only [Bool.and_eq_true, decide_eq_true_eq] at hok
              obtain ⟨⟨⟨⟨⟨k1, k2⟩, k3⟩, k4⟩, k5⟩, k6⟩ := hok
              obtain ⟨b0, b1, b2, b3, b4, b5⟩ := q_okm_spec h2
              have hnp : q_np j2 = r2.2.2.2.2.2 := by unfold q_np; rw [h2]; rfl
              obtain ⟨hz, hrc, hat⟩ := q_recv hwf hfx hR hS hcl (by omega)
              obtain ⟨cC, hat⟩ := hat hzl
              obtain ⟨w1, w2, w3, w4⟩ := hws h2
              obtain ⟨d1, d3⟩ := q_drop hdr
              have ez : q_lf av (.ref z) = .ref (q_ad av z) := hav.ad hz
              rw [List.map_cons, ez] at hpre
              refine q_back (va_runSU (n := r2.2.2.2.2.2) hat ⟨hx, hb, hml, hown, hts⟩ (hM r2 h2) ⟨⟨rfl, rfl, hfr, w4, w1, w2⟩, hts _ (q_wp_in k1), hts _ (q_wp_in k2), hts _ (q_wp_in k3), hts _ (q_wp_in k4), hts _ (q_wp_in k5), w3, k6, fun sig h => b2 sig h⟩ ⟨q_P_blind, hrc, hpre⟩ rfl (by rw [List.length_map, List.length_reverse, d3, hnp]) hL.2.1 ?_ (room h8) hdg ⟨Nat.zero_le _, Nat.zero_le _⟩) hS hk
              show st.map (q_lf av) = _
              rw [revs]
              conv => lhs; rw [d1]
              rw [List.map_append, List.map_cons, ez]
          · cases hc
        · cases hc
      · cases hc
    · cases hc
  | _ => cases hc
/-- ALL OF IT: what the small machine does, the machine does -/
theorem q_sim (hav : q_AV av) (hwf : q_wf sh) : ∀ n, q_Sim l av A ca D sh n
  | 0 => by intro d j pc ls st V v V2 r h; cases h
  | n + 1 => by
    have ih := q_sim hav hwf n
    intro d j pc ls st V v V2 r h hr p e R s m args below meth c H locs LS hx hb hml hown hts hret hlk hfx hA hfr hlo hR hS hL
    change q_go sh (am sh n) d j pc ls st V = some (v, V2) at h
    unfold q_go at h
    cases hd : q_dec j pc with
    | none => rw [hd] at h; cases h
    | some y =>
      obtain ⟨o, i, len⟩ := y
      rw [hd] at h
      dsimp only at h
      obtain ⟨rfl, hdg⟩ := q_dec_spec hd hr
      cases hq : q_ret j i len st with
      | some w =>
        rw [hq] at h
        cases h
        exact q_retW hx hb hret hlk hr hdg hR hS hq
      | none =>
        rw [hq] at h
        dsimp only at h
        cases hc : q_call sh r.1 i len st with
        | some y =>
          obtain ⟨j2, as, rs⟩ := y
          rw [hc] at h
          dsimp only at h
          cases d with
          | zero => cases h
          | succ d2 =>
            dsimp only at h
            split at h
            · rename_i hfit
              cases ha : am sh n d2 j2 0 (q_en as (q_ml j2)) [] V with
              | none => rw [ha] at h; cases h
              | some w =>
                obtain ⟨v1, V1⟩ := w
                rw [ha] at h
                dsimp only at h
                exact q_callW hav hwf hx hb hml hown hts hfx hA hfr hlo hR hS hL hdg hc (fun r2 h2 => q_met hav ih ha h2 hfit) (fun H1 locs1 hR1 hS1 => ih (d2 + 1) j (pc + 3) ls (v1.toList ++ rs) V1 v V2 r h hr p e R s m args below meth c H1 locs1 LS hx hb hml hown hts hret hlk hfx hA hfr hlo hR1 hS1 hL)
            · cases h
        | none =>
          rw [hc] at h
          dsimp only at h
          cases hs : q_s r.1 i len pc ls st with
          | some y =>
            obtain ⟨pc2, ls2, st2⟩ := y
            rw [hs] at h
            exact q_simS hav hx hb hown hts hfx hdg hL hs (fun LS' hL' => ih d j pc2 ls2 st2 V v V2 r h hr p e R s m args below meth c H locs LS' hx hb hml hown hts hret hlk hfx hA hfr hlo hR hS hL')
          | none =>
            rw [hs] at h
            dsimp only at h
            cases hm : q_m sh r.1 i len pc st V with
            | some y =>
              obtain ⟨pc2, st2, V1⟩ := y
              rw [hm] at h
              exact q_simM hav hwf hx hb hown hts hfx hml hdg hL hR hS (by omega) (by omega) hm (fun H1 locs1 hR1 hS1 => ih d j pc2 ls st2 V1 v V2 r h hr p e R s m args below meth c H1 locs1 LS hx hb hml hown hts hret hlk hfx hA hfr hlo hR1 hS1 hL)
            | none => rw [hm] at h; cases h
/-- a method's contract, out of the small machine's -/
theorem q_contract (hav : q_AV av) (hwf : q_wf sh) {d j : Nat} {as : List Value} {V : QV} {r : QRow} {Q : Option Value → QV → Prop} (hr : qmt[j]? = some r) (hfit : (as.map fun v => v.category).sum ≤ q_ml j) (hg : G sh d j 0 (q_en as (q_ml j)) [] V Q) : ∃ v V2, Q v V2 ∧ Met l r.2.2.2.1 (q_wsj r) (q_rm d) (q_P A av ca D sh as V) (q_Q A av ca D sh v V2) 0 0 A := by
  obtain ⟨n, v, V2, h1, h2⟩ := hg
  exact ⟨v, V2, h2, q_met hav (q_sim hav hwf n) h1 hr hfit⟩
end QY
end
section
/-! NUMBERS: an Int32 as the Int that it is -/
abbrev J (z : Int) : Int32 := Int32.ofInt z
theorem J_toInt {a : Int} (h1 : -2147483648 ≤ a) (h2 : a < 2147483648) : (J a).toInt = a := Int32.toInt_ofInt_of_le (by simpa using h1) (by simpa using h2)
theorem J_of (x : Int32) : J x.toInt = x := Int32.ofInt_toInt x
theorem J_add (a b : Int) : J a + J b = J (a + b) := (Int32.ofInt_add ..).symm
theorem J_sub (a b : Int) : J a - J b = J (a - b) := (Int32.ofInt_sub ..).symm
theorem J_mul (a b : Int) : J a * J b = J (a * b) := (Int32.ofInt_mul ..).symm
theorem J_neg (a : Int) : - J a = J (-a) := (Int32.ofInt_neg ..).symm
abbrev inJ (a : Int) : Prop := -2147483648 ≤ a ∧ a < 2147483648
theorem J_lt {a b : Int} (ha : inJ a) (hb : inJ b) : J a < J b ↔ a < b := by
  rw [Int32.lt_iff_toInt_lt, J_toInt ha.1 ha.2, J_toInt hb.1 hb.2]
theorem J_le {a b : Int} (ha : inJ a) (hb : inJ b) : J a ≤ J b ↔ a ≤ b := by
  rw [Int32.le_iff_toInt_le, J_toInt ha.1 ha.2, J_toInt hb.1 hb.2]
theorem J_eq {a b : Int} (ha : inJ a) (hb : inJ b) : J a = J b ↔ a = b := by
  rw [← Int32.toInt_inj, J_toInt ha.1 ha.2, J_toInt hb.1 hb.2]
theorem J_nat (n : Nat) : Int32.ofNat n = J (n : Int) := Int32.ofInt_eq_ofNat.symm
theorem J_div {a b : Int} (ha : inJ a) (hb : inJ b) (h0 : 0 ≤ a) (h1 : 0 < b) : J a / J b = J (a / b) := by
  rw [← Int32.toInt_inj, lg_idiv_nonneg (by rw [J_toInt ha.1 ha.2]; exact h0) (by rw [J_toInt hb.1 hb.2]; exact h1), J_toInt ha.1 ha.2, J_toInt hb.1 hb.2]
  have h2 : 0 ≤ a / b := Int.ediv_nonneg h0 (Int.le_of_lt h1)
  have h3 : a / b ≤ a := Int.ediv_le_self b h0
  obtain ⟨h4, h5⟩ := ha
  rw [J_toInt (by omega) (by omega)]
theorem J_rem {a b : Int} (ha : inJ a) (hb : inJ b) (h0 : 0 ≤ a) (h1 : 0 < b) : J a - J a / J b * J b = J (a % b) := by
  rw [J_div ha hb h0 h1, J_mul, J_sub]
  congr 1
  have := Int.mul_ediv_add_emod a b
  rw [Int.mul_comm] at this
  omega
theorem J_b8 {n : Int} (h1 : -128 ≤ n) (h2 : n < 128) : (Int8.ofInt n).toInt32 = J n := by
  rw [← Int32.toInt_inj, Int8.toInt_toInt32, Int8.toInt_ofInt_of_le (by simpa using h1) (by simpa using h2), J_toInt (by omega) (by omega)]
theorem J_b16 {n : Int} (h1 : -32768 ≤ n) (h2 : n < 32768) : (Int16.ofInt n).toInt32 = J n := by
  rw [← Int32.toInt_inj, Int16.toInt_toInt32, Int16.toInt_ofInt_of_le (by simpa using h1) (by simpa using h2), J_toInt (by omega) (by omega)]
end
section
/-! RULES, over memories of Ints -/
abbrev QS : Type := (Nat → Nat → Int) × (Nat → Nat → Int64) × (Nat → Nat → Option Nat)
def vv (S : QS) : QV := (fun c k => J (S.1 c k), S.2)
def K (sh : QH) (d j pc : Nat) (ls : QL) (st : List Value) (S : QS) (Q : Option Value → QS → Prop) : Prop := G sh d j pc ls st (vv S) (fun r V => ∃ S', V = vv S' ∧ Q r S')
/-- a method, called with these -/
def KC (sh : QH) (d j : Nat) (as : List Value) (S : QS) (Q : Option Value → QS → Prop) : Prop := (as.map fun v => v.category).sum ≤ q_ml j ∧ K sh d j 0 (q_en as (q_ml j)) [] S Q
theorem vv_uI (S : QS) (c k : Nat) (a : Int) : q_uI (vv S) c k (J a) = vv (q_up S.1 c k a, S.2) := by
  unfold q_uI vv
  refine Prod.ext ?_ rfl
  funext c' k'
  show q_up (fun c k => J (S.1 c k)) c k (J a) c' k' = J (q_up S.1 c k a c' k')
  unfold q_up
  split <;> rfl
section KR
variable {sh : QH} {d j pc o : Nat} {ls : QL} {st : List Value} {S : QS} {Q : Option Value → QS → Prop}
theorem K.mono {Q2 : Option Value → QS → Prop} (h : K sh d j pc ls st S Q) (hq : ∀ r S', Q r S' → Q2 r S') : K sh d j pc ls st S Q2 := G.mono h (fun r V ⟨S', h1, h2⟩ => ⟨S', h1, hq r S' h2⟩)
theorem KC.mono {as : List Value} {Q2 : Option Value → QS → Prop} (h : KC sh d j as S Q) (hq : ∀ r S', Q r S' → Q2 r S') : KC sh d j as S Q2 := ⟨h.1, h.2.mono hq⟩
theorem KC.deep {as : List Value} (e : Nat) (h : KC sh d j as S Q) : KC sh (d + e) j as S Q := ⟨h.1, G.deep e h.2⟩
theorem k_start {as : List Value} {n : Nat} (hl : q_ml j = n) (hs : (as.map fun v => v.category).sum ≤ n) (k : K sh d j 0 (q_en as n) [] S Q) : KC sh d j as S Q := by
  subst hl
  exact ⟨hs, k⟩
theorem k_s {i : Instr} {n pc2 : Nat} {ls2 : QL} {st2 : List Value} (hd : q_dec j pc = some (o, i, n)) (hr : q_ret j i n st = none) (hc : q_call sh o i n st = none) (hs : q_s o i n pc ls st = some (pc2, ls2, st2)) (k : K sh d j pc2 ls2 st2 S Q) : K sh d j pc ls st S Q := g_s hd hr hc hs k
theorem k_m {i : Instr} {n pc2 : Nat} {st2 : List Value} {S2 : QS} (hd : q_dec j pc = some (o, i, n)) (hr : q_ret j i n st = none) (hc : q_call sh o i n st = none) (hs : q_s o i n pc ls st = none) (hm : q_m sh o i n pc st (vv S) = some (pc2, st2, vv S2)) (k : K sh d j pc2 ls st2 S2 Q) : K sh d j pc ls st S Q := g_m hd hr hc hs hm k
theorem k_call {i : Instr} {n j2 : Nat} {as r : List Value} {Q2 : Option Value → QS → Prop} (hd : q_dec j pc = some (o, i, n)) (hr : q_ret j i n st = none) (hc : q_call sh o i n st = some (j2, as, r)) (hk : KC sh d j2 as S Q2) (k : ∀ v S2, Q2 v S2 → K sh (d + 1) j (pc + 3) ls (v.toList ++ r) S2 Q) : K sh (d + 1) j pc ls st S Q := by
  refine g_c hd hr hc hk.1 hk.2 (fun v V2 h => ?_)
  obtain ⟨S2, rfl, h2⟩ := h
  exact k v S2 h2
theorem k_iconst {k : Int} (hd : q_dec j pc = some (o, .iconst k, 1)) (kk : K sh d j (pc + 1) ls (.int (J k) :: st) S Q) : K sh d j pc ls st S Q := k_s hd rfl rfl rfl kk
theorem k_bipush {k : Int} (hd : q_dec j pc = some (o, .bipush k, 2)) (h : -128 ≤ k ∧ k < 128) (kk : K sh d j (pc + 2) ls (.int (J k) :: st) S Q) : K sh d j pc ls st S Q := by
  rw [← J_b8 h.1 h.2] at kk
  exact k_s hd rfl rfl rfl kk
theorem k_sipush {k : Int} (hd : q_dec j pc = some (o, .sipush k, 3)) (h : -32768 ≤ k ∧ k < 32768) (kk : K sh d j (pc + 3) ls (.int (J k) :: st) S Q) : K sh d j pc ls st S Q := by
  rw [← J_b16 h.1 h.2] at kk
  exact k_s hd rfl rfl rfl kk
theorem k_lconst {k : Fin 2} (hd : q_dec j pc = some (o, .lconst k, 1)) (kk : K sh d j (pc + 1) ls (.long (Int64.ofNat (k : Nat)) :: st) S Q) : K sh d j pc ls st S Q := k_s hd rfl rfl rfl kk
theorem k_ldc {x : Nat} {v : Int32} {a : Int} (hd : q_dec j pc = some (o, .ldc x, 2)) (hc : q_lk qci o x = some v) (hv : v = J a) (kk : K sh d j (pc + 2) ls (.int (J a) :: st) S Q) : K sh d j pc ls st S Q := by
  subst hv
  exact k_s hd rfl rfl (by simp only [q_s, hc]; rfl) kk
theorem k_ldcw {x : Nat} {v : Int32} {a : Int} (hd : q_dec j pc = some (o, .ldc_w x, 3)) (hc : q_lk qci o x = some v) (hv : v = J a) (kk : K sh d j (pc + 3) ls (.int (J a) :: st) S Q) : K sh d j pc ls st S Q := by
  subst hv
  exact k_s hd rfl rfl (by simp only [q_s, hc]; rfl) kk
theorem k_ldcs {x z : Nat} (hd : q_dec j pc = some (o, .ldc x, 2)) (h0 : q_lk qci o x = none) (hc : q_lk qcs o x = some z) (kk : K sh d j (pc + 2) ls (.ref (1010 + z) :: st) S Q) : K sh d j pc ls st S Q := k_s hd rfl rfl (by simp only [q_s, h0, hc]; rfl) kk
theorem k_ldc2 {x : Nat} {v : Int64} (hd : q_dec j pc = some (o, .ldc2_w x, 3)) (hc : q_lk qcj o x = some v) (kk : K sh d j (pc + 3) ls (.long v :: st) S Q) : K sh d j pc ls st S Q := k_s hd rfl rfl (by simp only [q_s, hc]; rfl) kk
theorem k_iload_n {i : Fin 4} {x : Int32} (hd : q_dec j pc = some (o, .iload_n i, 1)) (hl : q_at ls i = some (.int x)) (kk : K sh d j (pc + 1) ls (.int x :: st) S Q) : K sh d j pc ls st S Q := k_s hd rfl rfl (by simp only [q_s, q_ldI, hl]; rfl) kk
theorem k_iload {i : Nat} {x : Int32} (hd : q_dec j pc = some (o, .iload i, 2)) (hl : q_at ls i = some (.int x)) (kk : K sh d j (pc + 2) ls (.int x :: st) S Q) : K sh d j pc ls st S Q := k_s hd rfl rfl (by simp only [q_s, q_ldI, hl]; rfl) kk
theorem k_lload_n {i : Fin 4} {x : Int64} (hd : q_dec j pc = some (o, .lload_n i, 1)) (hl : q_at ls i = some (.long x)) (kk : K sh d j (pc + 1) ls (.long x :: st) S Q) : K sh d j pc ls st S Q := k_s hd rfl rfl (by simp only [q_s, q_ldL, hl]; rfl) kk
theorem k_lload {i : Nat} {x : Int64} (hd : q_dec j pc = some (o, .lload i, 2)) (hl : q_at ls i = some (.long x)) (kk : K sh d j (pc + 2) ls (.long x :: st) S Q) : K sh d j pc ls st S Q := k_s hd rfl rfl (by simp only [q_s, q_ldL, hl]; rfl) kk
theorem k_aload_n {i : Fin 4} {x : Nat} (hd : q_dec j pc = some (o, .aload_n i, 1)) (hl : q_at ls i = some (.ref x)) (kk : K sh d j (pc + 1) ls (.ref x :: st) S Q) : K sh d j pc ls st S Q := k_s hd rfl rfl (by simp only [q_s, q_ldA, hl]; rfl) kk
theorem k_aload {i : Nat} {x : Nat} (hd : q_dec j pc = some (o, .aload i, 2)) (hl : q_at ls i = some (.ref x)) (kk : K sh d j (pc + 2) ls (.ref x :: st) S Q) : K sh d j pc ls st S Q := k_s hd rfl rfl (by simp only [q_s, q_ldA, hl]; rfl) kk
theorem k_istore_n {i : Fin 4} {x : Int32} (hd : q_dec j pc = some (o, .istore_n i, 1)) (hl : (i : Nat) < ls.length) (kk : K sh d j (pc + 1) (q_st1 ls i (.int x)) st S Q) : K sh d j pc ls (.int x :: st) S Q := k_s hd rfl rfl (by simp only [q_s, q_stI]; rw [if_pos ⟨trivial, hl⟩]) kk
theorem k_istore {i : Nat} {x : Int32} (hd : q_dec j pc = some (o, .istore i, 2)) (hl : i < ls.length) (kk : K sh d j (pc + 2) (q_st1 ls i (.int x)) st S Q) : K sh d j pc ls (.int x :: st) S Q := k_s hd rfl rfl (by simp only [q_s, q_stI]; rw [if_pos ⟨trivial, hl⟩]) kk
theorem k_lstore_n {i : Fin 4} {x : Int64} (hd : q_dec j pc = some (o, .lstore_n i, 1)) (hl : (i : Nat) + 1 < ls.length) (kk : K sh d j (pc + 1) (q_st2 ls i (.long x)) st S Q) : K sh d j pc ls (.long x :: st) S Q := k_s hd rfl rfl (by simp only [q_s, q_stL]; rw [if_pos ⟨trivial, hl⟩]) kk
theorem k_lstore {i : Nat} {x : Int64} (hd : q_dec j pc = some (o, .lstore i, 2)) (hl : i + 1 < ls.length) (kk : K sh d j (pc + 2) (q_st2 ls i (.long x)) st S Q) : K sh d j pc ls (.long x :: st) S Q := k_s hd rfl rfl (by simp only [q_s, q_stL]; rw [if_pos ⟨trivial, hl⟩]) kk
theorem k_astore_n {i : Fin 4} {x : Nat} (hd : q_dec j pc = some (o, .astore_n i, 1)) (hl : (i : Nat) < ls.length) (kk : K sh d j (pc + 1) (q_st1 ls i (.ref x)) st S Q) : K sh d j pc ls (.ref x :: st) S Q := k_s hd rfl rfl (by simp only [q_s, q_stA]; rw [if_pos ⟨trivial, hl⟩]) kk
theorem k_astore {i : Nat} {x : Nat} (hd : q_dec j pc = some (o, .astore i, 2)) (hl : i < ls.length) (kk : K sh d j (pc + 2) (q_st1 ls i (.ref x)) st S Q) : K sh d j pc ls (.ref x :: st) S Q := k_s hd rfl rfl (by simp only [q_s, q_stA]; rw [if_pos ⟨trivial, hl⟩]) kk
theorem k_iinc {i : Nat} {z a : Int} (hd : q_dec j pc = some (o, .iinc i z, 3)) (hl : q_at ls i = some (.int (J a))) (hi : i < ls.length) (kk : K sh d j (pc + 3) (q_st1 ls i (.int (J (a + z)))) st S Q) : K sh d j pc ls st S Q := by
  rw [← J_add] at kk
  exact k_s hd rfl rfl (by simp only [q_s, hl]; rw [if_pos ⟨trivial, hi⟩]) kk
theorem k_iadd {a b : Int} (hd : q_dec j pc = some (o, .iadd, 1)) (kk : K sh d j (pc + 1) ls (.int (J (a + b)) :: st) S Q) : K sh d j pc ls (.int (J b) :: .int (J a) :: st) S Q := by
  rw [← J_add] at kk
  exact k_s hd rfl rfl rfl kk
theorem k_isub {a b : Int} (hd : q_dec j pc = some (o, .isub, 1)) (kk : K sh d j (pc + 1) ls (.int (J (a - b)) :: st) S Q) : K sh d j pc ls (.int (J b) :: .int (J a) :: st) S Q := by
  rw [← J_sub] at kk
  exact k_s hd rfl rfl rfl kk
theorem k_imul {a b : Int} (hd : q_dec j pc = some (o, .imul, 1)) (kk : K sh d j (pc + 1) ls (.int (J (a * b)) :: st) S Q) : K sh d j pc ls (.int (J b) :: .int (J a) :: st) S Q := by
  rw [← J_mul] at kk
  exact k_s hd rfl rfl rfl kk
theorem k_ineg {a : Int} (hd : q_dec j pc = some (o, .ineg, 1)) (kk : K sh d j (pc + 1) ls (.int (J (-a)) :: st) S Q) : K sh d j pc ls (.int (J a) :: st) S Q := by
  rw [← J_neg] at kk
  exact k_s hd rfl rfl rfl kk
theorem J_ne0 {b : Int} (hb : inJ b) (h1 : 0 < b) : ¬ J b = 0 := fun h => by
  have := (J_eq hb (show inJ 0 by decide)).mp h
  omega
theorem k_idiv {a b : Int} (hd : q_dec j pc = some (o, .idiv, 1)) (ha : inJ a) (hb : inJ b) (h0 : 0 ≤ a) (h1 : 0 < b) (kk : K sh d j (pc + 1) ls (.int (J (a / b)) :: st) S Q) : K sh d j pc ls (.int (J b) :: .int (J a) :: st) S Q := by
  rw [← J_div ha hb h0 h1] at kk
  exact k_s hd rfl rfl (by simp only [q_s, q_bz]; rw [if_pos ⟨trivial, J_ne0 hb h1⟩]) kk
theorem k_irem {a b : Int} (hd : q_dec j pc = some (o, .irem, 1)) (ha : inJ a) (hb : inJ b) (h0 : 0 ≤ a) (h1 : 0 < b) (kk : K sh d j (pc + 1) ls (.int (J (a % b)) :: st) S Q) : K sh d j pc ls (.int (J b) :: .int (J a) :: st) S Q := by
  rw [← J_rem ha hb h0 h1] at kk
  exact k_s hd rfl rfl (by simp only [q_s, q_bz]; rw [if_pos ⟨trivial, J_ne0 hb h1⟩]) kk
theorem k_iand {x y : Int32} {c : Int} (hd : q_dec j pc = some (o, .iand, 1)) (h : x &&& y = J c) (kk : K sh d j (pc + 1) ls (.int (J c) :: st) S Q) : K sh d j pc ls (.int y :: .int x :: st) S Q := by
  rw [← h] at kk
  exact k_s hd rfl rfl rfl kk
theorem k_ior {x y : Int32} {c : Int} (hd : q_dec j pc = some (o, .ior, 1)) (h : x ||| y = J c) (kk : K sh d j (pc + 1) ls (.int (J c) :: st) S Q) : K sh d j pc ls (.int y :: .int x :: st) S Q := by
  rw [← h] at kk
  exact k_s hd rfl rfl rfl kk
theorem k_ixor {x y : Int32} {c : Int} (hd : q_dec j pc = some (o, .ixor, 1)) (h : x ^^^ y = J c) (kk : K sh d j (pc + 1) ls (.int (J c) :: st) S Q) : K sh d j pc ls (.int y :: .int x :: st) S Q := by
  rw [← h] at kk
  exact k_s hd rfl rfl rfl kk
theorem k_ishl {x y : Int32} {c : Int} (hd : q_dec j pc = some (o, .ishl, 1)) (h : x <<< (y &&& 31) = J c) (kk : K sh d j (pc + 1) ls (.int (J c) :: st) S Q) : K sh d j pc ls (.int y :: .int x :: st) S Q := by
  rw [← h] at kk
  exact k_s hd rfl rfl rfl kk
theorem k_ishr {x y : Int32} {c : Int} (hd : q_dec j pc = some (o, .ishr, 1)) (h : x >>> (y &&& 31) = J c) (kk : K sh d j (pc + 1) ls (.int (J c) :: st) S Q) : K sh d j pc ls (.int y :: .int x :: st) S Q := by
  rw [← h] at kk
  exact k_s hd rfl rfl rfl kk
theorem k_iushr {x y : Int32} {c : Int} (hd : q_dec j pc = some (o, .iushr, 1)) (h : (x.toUInt32 >>> (y.toUInt32 &&& Int32.toUInt32 31)).toInt32 = J c) (kk : K sh d j (pc + 1) ls (.int (J c) :: st) S Q) : K sh d j pc ls (.int y :: .int x :: st) S Q := by
  rw [← h] at kk
  exact k_s hd rfl rfl rfl kk
theorem k_i2b {x : Int32} {c : Int} (hd : q_dec j pc = some (o, .i2b, 1)) (h : x.toInt8.toInt32 = J c) (kk : K sh d j (pc + 1) ls (.int (J c) :: st) S Q) : K sh d j pc ls (.int x :: st) S Q := by
  rw [← h] at kk
  exact k_s hd rfl rfl rfl kk
theorem k_i2c {x : Int32} {c : Int} (hd : q_dec j pc = some (o, .i2c, 1)) (h : (x.toUInt32 % 65536).toInt32 = J c) (kk : K sh d j (pc + 1) ls (.int (J c) :: st) S Q) : K sh d j pc ls (.int x :: st) S Q := by
  rw [← h] at kk
  exact k_s hd rfl rfl rfl kk
theorem k_ladd {x y : Int64} (hd : q_dec j pc = some (o, .ladd, 1)) (kk : K sh d j (pc + 1) ls (.long (x + y) :: st) S Q) : K sh d j pc ls (.long y :: .long x :: st) S Q := k_s hd rfl rfl rfl kk
theorem k_lsub {x y : Int64} (hd : q_dec j pc = some (o, .lsub, 1)) (kk : K sh d j (pc + 1) ls (.long (x - y) :: st) S Q) : K sh d j pc ls (.long y :: .long x :: st) S Q := k_s hd rfl rfl rfl kk
theorem k_lmul {x y : Int64} (hd : q_dec j pc = some (o, .lmul, 1)) (kk : K sh d j (pc + 1) ls (.long (x * y) :: st) S Q) : K sh d j pc ls (.long y :: .long x :: st) S Q := k_s hd rfl rfl rfl kk
theorem k_land {x y : Int64} (hd : q_dec j pc = some (o, .land, 1)) (kk : K sh d j (pc + 1) ls (.long (x &&& y) :: st) S Q) : K sh d j pc ls (.long y :: .long x :: st) S Q := k_s hd rfl rfl rfl kk
theorem k_lshr {x : Int64} {y : Int32} (hd : q_dec j pc = some (o, .lshr, 1)) (kk : K sh d j (pc + 1) ls (.long (x >>> (y.toInt64 &&& 63)) :: st) S Q) : K sh d j pc ls (.int y :: .long x :: st) S Q := k_s hd rfl rfl rfl kk
theorem k_i2l {x : Int32} (hd : q_dec j pc = some (o, .i2l, 1)) (kk : K sh d j (pc + 1) ls (.long x.toInt64 :: st) S Q) : K sh d j pc ls (.int x :: st) S Q := k_s hd rfl rfl rfl kk
theorem k_l2i {x : Int64} {c : Int} (hd : q_dec j pc = some (o, .l2i, 1)) (h : x.toInt32 = J c) (kk : K sh d j (pc + 1) ls (.int (J c) :: st) S Q) : K sh d j pc ls (.long x :: st) S Q := by
  rw [← h] at kk
  exact k_s hd rfl rfl rfl kk
theorem k_lcmp {x y : Int64} (hd : q_dec j pc = some (o, .lcmp, 1)) (kk : K sh d j (pc + 1) ls (.int (lg_cmp x y) :: st) S Q) : K sh d j pc ls (.long y :: .long x :: st) S Q := k_s hd rfl rfl rfl kk
theorem k_dupI {x : Int32} (hd : q_dec j pc = some (o, .dup, 1)) (kk : K sh d j (pc + 1) ls (.int x :: .int x :: st) S Q) : K sh d j pc ls (.int x :: st) S Q := k_s hd rfl rfl rfl kk
theorem k_dupA {x : Nat} (hd : q_dec j pc = some (o, .dup, 1)) (kk : K sh d j (pc + 1) ls (.ref x :: .ref x :: st) S Q) : K sh d j pc ls (.ref x :: st) S Q := k_s hd rfl rfl rfl kk
theorem k_dup2 {x : Nat} {y : Int32} (hd : q_dec j pc = some (o, .dup2, 1)) (kk : K sh d j (pc + 1) ls (.int y :: .ref x :: .int y :: .ref x :: st) S Q) : K sh d j pc ls (.int y :: .ref x :: st) S Q := k_s hd rfl rfl rfl kk
theorem k_pop {x : Int32} (hd : q_dec j pc = some (o, .pop, 1)) (kk : K sh d j (pc + 1) ls st S Q) : K sh d j pc ls (.int x :: st) S Q := k_s hd rfl rfl rfl kk
theorem k_goto {off : Int} {t : Nat} (hd : q_dec j pc = some (o, .goto off, 3)) (ht : (pc : Int) + off = (t : Int)) (kk : K sh d j t ls st S Q) : K sh d j pc ls st S Q := by
  have e : q_to pc off = t := by unfold q_to; omega
  subst e
  exact k_s hd rfl rfl (by simp only [q_s]; rw [if_pos ⟨trivial, by omega⟩]) kk
/-- a branch, whatever is asked -/
theorem k_ifx {c : Jvm.ClassFile.Cond} {x : Int32} {off : Int} {t : Nat} (hd : q_dec j pc = some (o, .ifCond c off, 3)) (ht : (pc : Int) + off = (t : Int)) (k1 : q_cd c x 0 = true → K sh d j t ls st S Q) (k2 : q_cd c x 0 = false → K sh d j (pc + 3) ls st S Q) : K sh d j pc ls (.int x :: st) S Q := by
  have e : q_to pc off = t := by unfold q_to; omega
  subst e
  cases hc : q_cd c x 0 with
  | true => exact k_s hd rfl rfl (by simp only [q_s]; rw [if_pos ⟨trivial, by omega⟩, hc]; rfl) (k1 hc)
  | false => exact k_s hd rfl rfl (by simp only [q_s]; rw [if_pos ⟨trivial, by omega⟩, hc]; rfl) (k2 hc)
theorem k_icx {c : Jvm.ClassFile.Cond} {x y : Int32} {off : Int} {t : Nat} (hd : q_dec j pc = some (o, .if_icmp c off, 3)) (ht : (pc : Int) + off = (t : Int)) (k1 : q_cd c x y = true → K sh d j t ls st S Q) (k2 : q_cd c x y = false → K sh d j (pc + 3) ls st S Q) : K sh d j pc ls (.int y :: .int x :: st) S Q := by
  have e : q_to pc off = t := by unfold q_to; omega
  subst e
  cases hc : q_cd c x y with
  | true => exact k_s hd rfl rfl (by simp only [q_s]; rw [if_pos ⟨trivial, by omega⟩, hc]; rfl) (k1 hc)
  | false => exact k_s hd rfl rfl (by simp only [q_s]; rw [if_pos ⟨trivial, by omega⟩, hc]; rfl) (k2 hc)
theorem inJ_0 : inJ 0 := by decide
theorem k_if_eq {a : Int} {off : Int} {t : Nat} (hd : q_dec j pc = some (o, .ifCond .eq off, 3)) (ht : (pc : Int) + off = (t : Int)) (ha : inJ a) (k1 : a = 0 → K sh d j t ls st S Q) (k2 : ¬ (a = 0) → K sh d j (pc + 3) ls st S Q) : K sh d j pc ls (.int (J a) :: st) S Q := by
  have e0 : (0 : Int32) = J 0 := rfl
  exact k_ifx hd ht (fun h => k1 (by rw [e0] at h; simpa [q_cd, J_eq ha inJ_0] using h)) (fun h => k2 (by rw [e0] at h; simpa [q_cd, J_eq ha inJ_0] using h))
theorem k_ic_eq {a b : Int} {off : Int} {t : Nat} (hd : q_dec j pc = some (o, .if_icmp .eq off, 3)) (ht : (pc : Int) + off = (t : Int)) (ha : inJ a) (hb : inJ b) (k1 : a = b → K sh d j t ls st S Q) (k2 : ¬ (a = b) → K sh d j (pc + 3) ls st S Q) : K sh d j pc ls (.int (J b) :: .int (J a) :: st) S Q := by
  exact k_icx hd ht (fun h => k1 (by simpa [q_cd, J_eq ha hb] using h)) (fun h => k2 (by simpa [q_cd, J_eq ha hb] using h))
theorem k_if_ne {a : Int} {off : Int} {t : Nat} (hd : q_dec j pc = some (o, .ifCond .ne off, 3)) (ht : (pc : Int) + off = (t : Int)) (ha : inJ a) (k1 : ¬ a = 0 → K sh d j t ls st S Q) (k2 : ¬ (¬ a = 0) → K sh d j (pc + 3) ls st S Q) : K sh d j pc ls (.int (J a) :: st) S Q := by
  have e0 : (0 : Int32) = J 0 := rfl
  exact k_ifx hd ht (fun h => k1 (by rw [e0] at h; simpa [q_cd, J_eq ha inJ_0] using h)) (fun h => k2 (by rw [e0] at h; simpa [q_cd, J_eq ha inJ_0] using h))
theorem k_ic_ne {a b : Int} {off : Int} {t : Nat} (hd : q_dec j pc = some (o, .if_icmp .ne off, 3)) (ht : (pc : Int) + off = (t : Int)) (ha : inJ a) (hb : inJ b) (k1 : ¬ a = b → K sh d j t ls st S Q) (k2 : ¬ (¬ a = b) → K sh d j (pc + 3) ls st S Q) : K sh d j pc ls (.int (J b) :: .int (J a) :: st) S Q := by
  exact k_icx hd ht (fun h => k1 (by simpa [q_cd, J_eq ha hb] using h)) (fun h => k2 (by simpa [q_cd, J_eq ha hb] using h))
theorem k_if_lt {a : Int} {off : Int} {t : Nat} (hd : q_dec j pc = some (o, .ifCond .lt off, 3)) (ht : (pc : Int) + off = (t : Int)) (ha : inJ a) (k1 : a < 0 → K sh d j t ls st S Q) (k2 : ¬ (a < 0) → K sh d j (pc + 3) ls st S Q) : K sh d j pc ls (.int (J a) :: st) S Q := by
  have e0 : (0 : Int32) = J 0 := rfl
  exact k_ifx hd ht (fun h => k1 (by rw [e0] at h; simpa [q_cd, J_lt ha inJ_0] using h)) (fun h => k2 (by rw [e0] at h; simpa [q_cd, J_lt ha inJ_0] using h))
theorem k_ic_lt {a b : Int} {off : Int} {t : Nat} (hd : q_dec j pc = some (o, .if_icmp .lt off, 3)) (ht : (pc : Int) + off = (t : Int)) (ha : inJ a) (hb : inJ b) (k1 : a < b → K sh d j t ls st S Q) (k2 : ¬ (a < b) → K sh d j (pc + 3) ls st S Q) : K sh d j pc ls (.int (J b) :: .int (J a) :: st) S Q := by
  exact k_icx hd ht (fun h => k1 (by simpa [q_cd, J_lt ha hb] using h)) (fun h => k2 (by simpa [q_cd, J_lt ha hb] using h))
theorem k_if_ge {a : Int} {off : Int} {t : Nat} (hd : q_dec j pc = some (o, .ifCond .ge off, 3)) (ht : (pc : Int) + off = (t : Int)) (ha : inJ a) (k1 : 0 ≤ a → K sh d j t ls st S Q) (k2 : ¬ (0 ≤ a) → K sh d j (pc + 3) ls st S Q) : K sh d j pc ls (.int (J a) :: st) S Q := by
  have e0 : (0 : Int32) = J 0 := rfl
  exact k_ifx hd ht (fun h => k1 (by rw [e0] at h; simpa [q_cd, J_le inJ_0 ha] using h)) (fun h => k2 (by rw [e0] at h; simpa [q_cd, J_le inJ_0 ha] using h))
theorem k_ic_ge {a b : Int} {off : Int} {t : Nat} (hd : q_dec j pc = some (o, .if_icmp .ge off, 3)) (ht : (pc : Int) + off = (t : Int)) (ha : inJ a) (hb : inJ b) (k1 : b ≤ a → K sh d j t ls st S Q) (k2 : ¬ (b ≤ a) → K sh d j (pc + 3) ls st S Q) : K sh d j pc ls (.int (J b) :: .int (J a) :: st) S Q := by
  exact k_icx hd ht (fun h => k1 (by simpa [q_cd, J_le hb ha] using h)) (fun h => k2 (by simpa [q_cd, J_le hb ha] using h))
theorem k_if_gt {a : Int} {off : Int} {t : Nat} (hd : q_dec j pc = some (o, .ifCond .gt off, 3)) (ht : (pc : Int) + off = (t : Int)) (ha : inJ a) (k1 : 0 < a → K sh d j t ls st S Q) (k2 : ¬ (0 < a) → K sh d j (pc + 3) ls st S Q) : K sh d j pc ls (.int (J a) :: st) S Q := by
  have e0 : (0 : Int32) = J 0 := rfl
  exact k_ifx hd ht (fun h => k1 (by rw [e0] at h; simpa [q_cd, J_lt inJ_0 ha] using h)) (fun h => k2 (by rw [e0] at h; simpa [q_cd, J_lt inJ_0 ha] using h))
theorem k_ic_gt {a b : Int} {off : Int} {t : Nat} (hd : q_dec j pc = some (o, .if_icmp .gt off, 3)) (ht : (pc : Int) + off = (t : Int)) (ha : inJ a) (hb : inJ b) (k1 : b < a → K sh d j t ls st S Q) (k2 : ¬ (b < a) → K sh d j (pc + 3) ls st S Q) : K sh d j pc ls (.int (J b) :: .int (J a) :: st) S Q := by
  exact k_icx hd ht (fun h => k1 (by simpa [q_cd, J_lt hb ha] using h)) (fun h => k2 (by simpa [q_cd, J_lt hb ha] using h))
theorem k_if_le {a : Int} {off : Int} {t : Nat} (hd : q_dec j pc = some (o, .ifCond .le off, 3)) (ht : (pc : Int) + off = (t : Int)) (ha : inJ a) (k1 : a ≤ 0 → K sh d j t ls st S Q) (k2 : ¬ (a ≤ 0) → K sh d j (pc + 3) ls st S Q) : K sh d j pc ls (.int (J a) :: st) S Q := by
  have e0 : (0 : Int32) = J 0 := rfl
  exact k_ifx hd ht (fun h => k1 (by rw [e0] at h; simpa [q_cd, J_le ha inJ_0] using h)) (fun h => k2 (by rw [e0] at h; simpa [q_cd, J_le ha inJ_0] using h))
theorem k_ic_le {a b : Int} {off : Int} {t : Nat} (hd : q_dec j pc = some (o, .if_icmp .le off, 3)) (ht : (pc : Int) + off = (t : Int)) (ha : inJ a) (hb : inJ b) (k1 : a ≤ b → K sh d j t ls st S Q) (k2 : ¬ (a ≤ b) → K sh d j (pc + 3) ls st S Q) : K sh d j pc ls (.int (J b) :: .int (J a) :: st) S Q := by
  exact k_icx hd ht (fun h => k1 (by simpa [q_cd, J_le ha hb] using h)) (fun h => k2 (by simpa [q_cd, J_le ha hb] using h))
theorem k_tsO {df lo hi : Int} {offs : Array Int} {n t : Nat} {a : Int} (hd : q_dec j pc = some (o, .tableswitch df lo hi offs, n)) (ha : inJ a) (ho : a < lo ∨ hi < a) (ht : (pc : Int) + df = (t : Int)) (kk : K sh d j t ls st S Q) : K sh d j pc ls (.int (J a) :: st) S Q := by
  have e : q_to pc df = t := by unfold q_to; omega
  subst e
  refine k_s hd rfl rfl ?_ kk
  simp only [q_s, J_toInt ha.1 ha.2]
  rw [if_pos ho, if_pos (by omega)]
theorem k_tsI {df lo hi : Int} {offs : Array Int} {n t : Nat} {a off : Int} (hd : q_dec j pc = some (o, .tableswitch df lo hi offs, n)) (ha : inJ a) (ho : ¬ (a < lo ∨ hi < a)) (hof : offs[(a - lo).toNat]? = some off) (ht : (pc : Int) + off = (t : Int)) (kk : K sh d j t ls st S Q) : K sh d j pc ls (.int (J a) :: st) S Q := by
  have e : q_to pc off = t := by unfold q_to; omega
  subst e
  refine k_s hd rfl rfl ?_ kk
  simp only [q_s, J_toInt ha.1 ha.2]
  rw [if_neg ho, hof]
  dsimp only
  rw [if_pos (by omega)]
theorem k_gfI {x c ci f ne n : Nat} (hd : q_dec j pc = some (o, .getfield x, 3)) (hf : q_lk qft o x = some (ci, f, ne)) (hs : sh[c]? = some (ci, n)) (h13 : ci ≠ 13) (hk : q_kf ci f = true) (ht : q_tyf ci f = .int ∨ q_tyf ci f = .boolean) (kk : K sh d j (pc + 3) ls (.int (J (S.1 c f)) :: st) S Q) : K sh d j pc ls (.ref c :: st) S Q := by
  refine k_m hd rfl rfl rfl ?_ kk
  simp only [q_m, hf, hs]
  rw [if_pos ⟨trivial, trivial, hk⟩]
  rcases ht with ht | ht <;> rw [ht] <;> rfl
theorem k_gfL {x c ci f ne n : Nat} (hd : q_dec j pc = some (o, .getfield x, 3)) (hf : q_lk qft o x = some (ci, f, ne)) (hs : sh[c]? = some (ci, n)) (h13 : ci ≠ 13) (hk : q_kf ci f = true) (ht : q_tyf ci f = .long) (kk : K sh d j (pc + 3) ls (.long (S.2.1 c f) :: st) S Q) : K sh d j pc ls (.ref c :: st) S Q := by
  refine k_m hd rfl rfl rfl ?_ kk
  simp only [q_m, hf, hs]
  rw [if_pos ⟨trivial, trivial, hk⟩, ht]
  rfl
theorem k_gfR {x c ci f ne n a : Nat} (hd : q_dec j pc = some (o, .getfield x, 3)) (hf : q_lk qft o x = some (ci, f, ne)) (hs : sh[c]? = some (ci, n)) (h13 : ci ≠ 13) (hk : q_kf ci f = true) (ht : (∃ u, q_tyf ci f = .object u) ∨ ∃ u, q_tyf ci f = .array u) (hr : S.2.2 c f = some a) (kk : K sh d j (pc + 3) ls (.ref a :: st) S Q) : K sh d j pc ls (.ref c :: st) S Q := by
  refine k_m hd rfl rfl rfl ?_ kk
  simp only [q_m, hf, hs]
  rw [if_pos ⟨trivial, trivial, hk⟩]
  rcases ht with ⟨u, ht⟩ | ⟨u, ht⟩ <;> rw [ht] <;> simp only [q_rd, vv, hr, q_rf]
theorem k_pfI {x c ci f ne n : Nat} {a : Int} (hd : q_dec j pc = some (o, .putfield x, 3)) (hf : q_lk qft o x = some (ci, f, ne)) (hs : sh[c]? = some (ci, n)) (hk : q_nf ci f = true) (ht : q_tyf ci f = .int) (kk : K sh d j (pc + 3) ls st (q_up S.1 c f a, S.2) Q) : K sh d j pc ls (.int (J a) :: .ref c :: st) S Q := by
  refine k_m hd rfl rfl rfl ?_ kk
  simp only [q_m, hf, hs]
  rw [if_pos ⟨trivial, trivial, hk⟩, ht]
  simp only [q_wr, vv_uI]
theorem k_pfZ {x c ci f ne n : Nat} {a : Int} (hd : q_dec j pc = some (o, .putfield x, 3)) (hf : q_lk qft o x = some (ci, f, ne)) (hs : sh[c]? = some (ci, n)) (hk : q_nf ci f = true) (ht : q_tyf ci f = .boolean) (ha : a = 0 ∨ a = 1) (kk : K sh d j (pc + 3) ls st (q_up S.1 c f a, S.2) Q) : K sh d j pc ls (.int (J a) :: .ref c :: st) S Q := by
  refine k_m hd rfl rfl rfl ?_ kk
  simp only [q_m, hf, hs]
  rw [if_pos ⟨trivial, trivial, hk⟩, ht]
  have h01 : J a = 0 ∨ J a = 1 := by rcases ha with rfl | rfl; exact Or.inl rfl; exact Or.inr rfl
  simp only [q_wr]
  rw [if_pos h01]
  simp only [vv_uI]
theorem k_pfL {x c ci f ne n : Nat} {a : Int64} (hd : q_dec j pc = some (o, .putfield x, 3)) (hf : q_lk qft o x = some (ci, f, ne)) (hs : sh[c]? = some (ci, n)) (hk : q_nf ci f = true) (ht : q_tyf ci f = .long) (kk : K sh d j (pc + 3) ls st (S.1, q_up S.2.1 c f a, S.2.2) Q) : K sh d j pc ls (.long a :: .ref c :: st) S Q := by
  refine k_m hd rfl rfl rfl ?_ kk
  simp only [q_m, hf, hs]
  rw [if_pos ⟨trivial, trivial, hk⟩, ht]
  rfl
theorem k_pfR {x c ci f ne n a : Nat} {u : String} (hd : q_dec j pc = some (o, .putfield x, 3)) (hf : q_lk qft o x = some (ci, f, ne)) (hs : sh[c]? = some (ci, n)) (hk : q_nf ci f = true) (ht : q_tyf ci f = .object u) (ha : a < 1000) (kk : K sh d j (pc + 3) ls st (S.1, S.2.1, q_up S.2.2 c f (some a)) Q) : K sh d j pc ls (.ref a :: .ref c :: st) S Q := by
  refine k_m hd rfl rfl rfl ?_ kk
  simp only [q_m, hf, hs]
  rw [if_pos ⟨trivial, trivial, hk⟩, ht]
  simp only [q_wr]
  rw [if_pos ha]
  rfl
theorem k_gs {x : Nat} {v : Value} (hd : q_dec j pc = some (o, .getstatic x, 3)) (hf : q_lk qst o x = some v) (kk : K sh d j (pc + 3) ls (v :: st) S Q) : K sh d j pc ls st S Q := by
  refine k_m hd rfl rfl rfl ?_ kk
  simp only [q_m, hf]
  rfl
theorem J_ix {i : Int} {n : Nat} (h0 : 0 ≤ i) (h1 : i < n) (hn : (n : Int) < 2147483648) : (0 ≤ (J i).toInt ∧ (J i).toInt < n) ∧ q_ix (J i) = i.toNat := by
  unfold q_ix
  rw [J_toInt (by omega) (by omega)]
  exact ⟨⟨h0, h1⟩, rfl⟩
theorem k_iald {c n : Nat} {i : Int} (hd : q_dec j pc = some (o, .iaload, 1)) (hs : sh[c]? = some (100, n)) (hn : (n : Int) < 2147483648) (h0 : 0 ≤ i) (h1 : i < n) (kk : K sh d j (pc + 1) ls (.int (J (S.1 c i.toNat)) :: st) S Q) : K sh d j pc ls (.int (J i) :: .ref c :: st) S Q := by
  refine k_m hd rfl rfl rfl ?_ kk
  obtain ⟨e1, e2⟩ := J_ix h0 h1 hn
  simp only [q_m, hs]
  rw [if_pos ⟨trivial, e1⟩, e2]
  rfl
theorem k_bald {c n : Nat} {i : Int} (hd : q_dec j pc = some (o, .baload, 1)) (hs : sh[c]? = some (101, n)) (hn : (n : Int) < 2147483648) (h0 : 0 ≤ i) (h1 : i < n) (kk : K sh d j (pc + 1) ls (.int (J (S.1 c i.toNat)) :: st) S Q) : K sh d j pc ls (.int (J i) :: .ref c :: st) S Q := by
  refine k_m hd rfl rfl rfl ?_ kk
  obtain ⟨e1, e2⟩ := J_ix h0 h1 hn
  simp only [q_m, hs]
  rw [if_pos ⟨trivial, e1⟩, e2]
  rfl
theorem k_zald {c n : Nat} {i : Int} (hd : q_dec j pc = some (o, .baload, 1)) (hs : sh[c]? = some (102, n)) (hn : (n : Int) < 2147483648) (h0 : 0 ≤ i) (h1 : i < n) (kk : K sh d j (pc + 1) ls (.int (J (S.1 c i.toNat)) :: st) S Q) : K sh d j pc ls (.int (J i) :: .ref c :: st) S Q := by
  refine k_m hd rfl rfl rfl ?_ kk
  obtain ⟨e1, e2⟩ := J_ix h0 h1 hn
  simp only [q_m, hs]
  rw [if_pos ⟨trivial, e1⟩, e2]
  rfl
theorem k_ialdR {c : Nat} {l : List Int32} {i v : Int} (hd : q_dec j pc = some (o, .iaload, 1)) (hs : sh[c]? = none) (hr : q_roI c = some l) (hl : l.length = 4) (h0 : 0 ≤ i) (h1 : i < 4) (hv : l.getD i.toNat 0 = J v) (kk : K sh d j (pc + 1) ls (.int (J v) :: st) S Q) : K sh d j pc ls (.int (J i) :: .ref c :: st) S Q := by
  refine k_m hd rfl rfl rfl ?_ kk
  obtain ⟨e1, e2⟩ := J_ix (n := 4) h0 (by omega) (by decide)
  simp only [q_m, hs, hr, hl]
  rw [if_pos ⟨trivial, e1⟩, e2, hv]
theorem k_aald {c n k a : Nat} {i : Int} (hd : q_dec j pc = some (o, .aaload, 1)) (hs : sh[c]? = some (k, n)) (hk : k = 103 ∨ k = 104) (hn : (n : Int) < 2147483648) (h0 : 0 ≤ i) (h1 : i < n) (hr : S.2.2 c i.toNat = some a) (ha : a < 1000) (kk : K sh d j (pc + 1) ls (.ref a :: st) S Q) : K sh d j pc ls (.int (J i) :: .ref c :: st) S Q := by
  refine k_m hd rfl rfl rfl ?_ kk
  obtain ⟨e1, e2⟩ := J_ix h0 h1 hn
  rcases hk with rfl | rfl
  · simp only [q_m, hs, e2, vv, hr]
    rw [if_pos ⟨trivial, e1, ha⟩]
  · simp only [q_m, hs, e2, vv, hr]
    rw [if_pos ⟨trivial, e1, ha⟩]
theorem k_iast {c n : Nat} {i a : Int} (hd : q_dec j pc = some (o, .iastore, 1)) (hs : sh[c]? = some (100, n)) (hn : (n : Int) < 2147483648) (h0 : 0 ≤ i) (h1 : i < n) (kk : K sh d j (pc + 1) ls st (q_up S.1 c i.toNat a, S.2) Q) : K sh d j pc ls (.int (J a) :: .int (J i) :: .ref c :: st) S Q := by
  refine k_m hd rfl rfl rfl ?_ kk
  obtain ⟨e1, e2⟩ := J_ix h0 h1 hn
  simp only [q_m, hs]
  rw [if_pos ⟨trivial, e1⟩, e2, vv_uI]
theorem k_bast {c n : Nat} {i a b : Int} (hd : q_dec j pc = some (o, .bastore, 1)) (hs : sh[c]? = some (101, n)) (hn : (n : Int) < 2147483648) (h0 : 0 ≤ i) (h1 : i < n) (hb : (J a).toInt8.toInt32 = J b) (kk : K sh d j (pc + 1) ls st (q_up S.1 c i.toNat b, S.2) Q) : K sh d j pc ls (.int (J a) :: .int (J i) :: .ref c :: st) S Q := by
  refine k_m hd rfl rfl rfl ?_ kk
  obtain ⟨e1, e2⟩ := J_ix h0 h1 hn
  simp only [q_m, hs]
  rw [if_pos ⟨trivial, e1⟩, e2, hb, vv_uI]
theorem k_zast {c n : Nat} {i a : Int} (hd : q_dec j pc = some (o, .bastore, 1)) (hs : sh[c]? = some (102, n)) (hn : (n : Int) < 2147483648) (h0 : 0 ≤ i) (h1 : i < n) (ha : a = 0 ∨ a = 1) (kk : K sh d j (pc + 1) ls st (q_up S.1 c i.toNat a, S.2) Q) : K sh d j pc ls (.int (J a) :: .int (J i) :: .ref c :: st) S Q := by
  refine k_m hd rfl rfl rfl ?_ kk
  obtain ⟨e1, e2⟩ := J_ix h0 h1 hn
  have h01 : J a = 0 ∨ J a = 1 := by rcases ha with rfl | rfl; exact Or.inl rfl; exact Or.inr rfl
  simp only [q_m, hs]
  rw [if_pos ⟨trivial, e1, h01⟩, e2, vv_uI]
theorem k_alen {c n : Nat} (hd : q_dec j pc = some (o, .arraylength, 1)) (hs : sh[c]? = some (100, n)) (kk : K sh d j (pc + 1) ls (.int (J (n : Int)) :: st) S Q) : K sh d j pc ls (.ref c :: st) S Q := by
  refine k_m hd rfl rfl rfl ?_ kk
  simp only [q_m, hs, J_nat]
  rfl
theorem k_vret (hd : q_dec j pc = some (o, .return_, 1)) (hr : q_rt j = some none) (hq : Q none S) : K sh d j pc ls [] S Q := g_r (v := none) hd (by simp only [q_ret, hr]; rfl) ⟨S, rfl, hq⟩
theorem k_nret {x : Int32} {ty : FieldType} (hd : q_dec j pc = some (o, .ireturn, 1)) (hr : q_rt j = some (some ty)) (hn : narrow ty (.int x) = .int x) (hq : Q (some (.int x)) S) : K sh d j pc ls [.int x] S Q := g_r (v := some (.int x)) hd (by simp only [q_ret, hr, hn]; rfl) ⟨S, rfl, hq⟩
theorem k_iret {x : Int32} (hd : q_dec j pc = some (o, .ireturn, 1)) (hr : q_rt j = some (some .int)) (hq : Q (some (.int x)) S) : K sh d j pc ls [.int x] S Q := k_nret hd hr rfl hq
theorem k_lret {x : Int64} (hd : q_dec j pc = some (o, .lreturn, 1)) (hr : q_rt j = some (some .long)) (hq : Q (some (.long x)) S) : K sh d j pc ls [.long x] S Q := g_r (v := some (.long x)) hd (by simp only [q_ret, hr]; rfl) ⟨S, rfl, hq⟩
/-- true and false -/
def bi (b : Bool) : Int := if b then 1 else 0
theorem bi_01 (b : Bool) : bi b = 0 ∨ bi b = 1 := by cases b; exact Or.inl rfl; exact Or.inr rfl
theorem bi_nar (b : Bool) : narrow .boolean (.int (J (bi b))) = .int (J (bi b)) := by cases b <;> rfl
theorem k_zret {b : Bool} (hd : q_dec j pc = some (o, .ireturn, 1)) (hr : q_rt j = some (some .boolean)) (hq : Q (some (.int (J (bi b)))) S) : K sh d j pc ls [.int (J (bi b))] S Q := k_nret hd hr (bi_nar b) hq
theorem k_if_eqB {b : Bool} {off : Int} {t : Nat} (hd : q_dec j pc = some (o, .ifCond .eq off, 3)) (ht : (pc : Int) + off = (t : Int)) (k1 : b = false → K sh d j t ls st S Q) (k2 : b = true → K sh d j (pc + 3) ls st S Q) : K sh d j pc ls (.int (J (bi b)) :: st) S Q := by
  cases b
  · exact k_if_eq (a := 0) hd ht inJ_0 (fun _ => k1 rfl) (fun h => absurd rfl h)
  · exact k_if_eq (a := 1) hd ht (by decide) (fun h => absurd h (by decide)) (fun _ => k2 rfl)
theorem k_if_neB {b : Bool} {off : Int} {t : Nat} (hd : q_dec j pc = some (o, .ifCond .ne off, 3)) (ht : (pc : Int) + off = (t : Int)) (k1 : b = true → K sh d j t ls st S Q) (k2 : b = false → K sh d j (pc + 3) ls st S Q) : K sh d j pc ls (.int (J (bi b)) :: st) S Q := by
  cases b
  · exact k_if_ne (a := 0) hd ht inJ_0 (fun h => absurd rfl h) (fun _ => k2 rfl)
  · exact k_if_ne (a := 1) hd ht (by decide) (fun _ => k1 rfl) (fun h => absurd (by decide) h)
end KR
end
section
theorem ql_0 : q_ml 0 = 2 := by decide +kernel
theorem qt_0 : q_rt 0 = some (some .int) := by decide +kernel
theorem qp_0 : q_np 0 = 1 := by decide +kernel
theorem qo_0 : q_own 0 = 0 := by decide +kernel
theorem ql_1 : q_ml 1 = 2 := by decide +kernel
theorem qt_1 : q_rt 1 = some (some .int) := by decide +kernel
theorem qp_1 : q_np 1 = 1 := by decide +kernel
theorem qo_1 : q_own 1 = 1 := by decide +kernel
theorem ql_2 : q_ml 2 = 2 := by decide +kernel
theorem qt_2 : q_rt 2 = some (some .int) := by decide +kernel
theorem qp_2 : q_np 2 = 1 := by decide +kernel
theorem qo_2 : q_own 2 = 2 := by decide +kernel
theorem ql_3 : q_ml 3 = 2 := by decide +kernel
theorem qt_3 : q_rt 3 = some (some .int) := by decide +kernel
theorem qp_3 : q_np 3 = 1 := by decide +kernel
theorem qo_3 : q_own 3 = 3 := by decide +kernel
theorem ql_4 : q_ml 4 = 3 := by decide +kernel
theorem qt_4 : q_rt 4 = some (some .boolean) := by decide +kernel
theorem qp_4 : q_np 4 = 2 := by decide +kernel
theorem qo_4 : q_own 4 = 4 := by decide +kernel
theorem ql_5 : q_ml 5 = 4 := by decide +kernel
theorem qt_5 : q_rt 5 = some (some .boolean) := by decide +kernel
theorem qp_5 : q_np 5 = 1 := by decide +kernel
theorem qo_5 : q_own 5 = 4 := by decide +kernel
theorem ql_6 : q_ml 6 = 7 := by decide +kernel
theorem qt_6 : q_rt 6 = some (some .int) := by decide +kernel
theorem qp_6 : q_np 6 = 2 := by decide +kernel
theorem qo_6 : q_own 6 = 4 := by decide +kernel
theorem ql_7 : q_ml 7 = 2 := by decide +kernel
theorem qt_7 : q_rt 7 = some (some .int) := by decide +kernel
theorem qp_7 : q_np 7 = 1 := by decide +kernel
theorem qo_7 : q_own 7 = 5 := by decide +kernel
theorem ql_8 : q_ml 8 = 5 := by decide +kernel
theorem qt_8 : q_rt 8 = some (some .int) := by decide +kernel
theorem qp_8 : q_np 8 = 2 := by decide +kernel
theorem qo_8 : q_own 8 = 6 := by decide +kernel
theorem ql_9 : q_ml 9 = 4 := by decide +kernel
theorem qt_9 : q_rt 9 = some (some .int) := by decide +kernel
theorem qp_9 : q_np 9 = 1 := by decide +kernel
theorem qo_9 : q_own 9 = 6 := by decide +kernel
theorem ql_10 : q_ml 10 = 1 := by decide +kernel
theorem qt_10 : q_rt 10 = some none := by decide +kernel
theorem qp_10 : q_np 10 = 0 := by decide +kernel
theorem qo_10 : q_own 10 = 6 := by decide +kernel
theorem ql_11 : q_ml 11 = 1 := by decide +kernel
theorem qt_11 : q_rt 11 = some (some .boolean) := by decide +kernel
theorem qp_11 : q_np 11 = 1 := by decide +kernel
theorem qo_11 : q_own 11 = 6 := by decide +kernel
theorem ql_12 : q_ml 12 = 1 := by decide +kernel
theorem qt_12 : q_rt 12 = some none := by decide +kernel
theorem qp_12 : q_np 12 = 0 := by decide +kernel
theorem qo_12 : q_own 12 = 6 := by decide +kernel
theorem ql_13 : q_ml 13 = 3 := by decide +kernel
theorem qt_13 : q_rt 13 = some (some .boolean) := by decide +kernel
theorem qp_13 : q_np 13 = 1 := by decide +kernel
theorem qo_13 : q_own 13 = 6 := by decide +kernel
theorem ql_14 : q_ml 14 = 1 := by decide +kernel
theorem qt_14 : q_rt 14 = some (some .boolean) := by decide +kernel
theorem qp_14 : q_np 14 = 1 := by decide +kernel
theorem qo_14 : q_own 14 = 6 := by decide +kernel
theorem ql_15 : q_ml 15 = 2 := by decide +kernel
theorem qt_15 : q_rt 15 = some none := by decide +kernel
theorem qp_15 : q_np 15 = 0 := by decide +kernel
theorem qo_15 : q_own 15 = 6 := by decide +kernel
theorem ql_16 : q_ml 16 = 2 := by decide +kernel
theorem qt_16 : q_rt 16 = some (some .boolean) := by decide +kernel
theorem qp_16 : q_np 16 = 1 := by decide +kernel
theorem qo_16 : q_own 16 = 6 := by decide +kernel
theorem ql_17 : q_ml 17 = 3 := by decide +kernel
theorem qt_17 : q_rt 17 = some (some .boolean) := by decide +kernel
theorem qp_17 : q_np 17 = 2 := by decide +kernel
theorem qo_17 : q_own 17 = 6 := by decide +kernel
theorem ql_18 : q_ml 18 = 5 := by decide +kernel
theorem qt_18 : q_rt 18 = some (some .boolean) := by decide +kernel
theorem qp_18 : q_np 18 = 2 := by decide +kernel
theorem qo_18 : q_own 18 = 6 := by decide +kernel
theorem ql_19 : q_ml 19 = 2 := by decide +kernel
theorem qt_19 : q_rt 19 = some (some .boolean) := by decide +kernel
theorem qp_19 : q_np 19 = 1 := by decide +kernel
theorem qo_19 : q_own 19 = 6 := by decide +kernel
theorem ql_20 : q_ml 20 = 2 := by decide +kernel
theorem qt_20 : q_rt 20 = some (some .boolean) := by decide +kernel
theorem qp_20 : q_np 20 = 1 := by decide +kernel
theorem qo_20 : q_own 20 = 6 := by decide +kernel
theorem ql_21 : q_ml 21 = 2 := by decide +kernel
theorem qt_21 : q_rt 21 = some (some .boolean) := by decide +kernel
theorem qp_21 : q_np 21 = 1 := by decide +kernel
theorem qo_21 : q_own 21 = 6 := by decide +kernel
theorem ql_22 : q_ml 22 = 1 := by decide +kernel
theorem qt_22 : q_rt 22 = some (some .boolean) := by decide +kernel
theorem qp_22 : q_np 22 = 0 := by decide +kernel
theorem qo_22 : q_own 22 = 6 := by decide +kernel
theorem ql_23 : q_ml 23 = 1 := by decide +kernel
theorem qt_23 : q_rt 23 = some none := by decide +kernel
theorem qp_23 : q_np 23 = 0 := by decide +kernel
theorem qo_23 : q_own 23 = 7 := by decide +kernel
theorem ql_24 : q_ml 24 = 5 := by decide +kernel
theorem qt_24 : q_rt 24 = some none := by decide +kernel
theorem qp_24 : q_np 24 = 0 := by decide +kernel
theorem qo_24 : q_own 24 = 7 := by decide +kernel
theorem ql_25 : q_ml 25 = 3 := by decide +kernel
theorem qt_25 : q_rt 25 = some (some .int) := by decide +kernel
theorem qp_25 : q_np 25 = 2 := by decide +kernel
theorem qo_25 : q_own 25 = 7 := by decide +kernel
theorem ql_26 : q_ml 26 = 2 := by decide +kernel
theorem qt_26 : q_rt 26 = some (some .boolean) := by decide +kernel
theorem qp_26 : q_np 26 = 1 := by decide +kernel
theorem qo_26 : q_own 26 = 7 := by decide +kernel
theorem ql_27 : q_ml 27 = 2 := by decide +kernel
theorem qt_27 : q_rt 27 = some (some .boolean) := by decide +kernel
theorem qp_27 : q_np 27 = 1 := by decide +kernel
theorem qo_27 : q_own 27 = 7 := by decide +kernel
theorem ql_28 : q_ml 28 = 1 := by decide +kernel
theorem qt_28 : q_rt 28 = some (some .int) := by decide +kernel
theorem qp_28 : q_np 28 = 0 := by decide +kernel
theorem qo_28 : q_own 28 = 7 := by decide +kernel
theorem ql_29 : q_ml 29 = 2 := by decide +kernel
theorem qt_29 : q_rt 29 = some (some .int) := by decide +kernel
theorem qp_29 : q_np 29 = 1 := by decide +kernel
theorem qo_29 : q_own 29 = 7 := by decide +kernel
theorem ql_30 : q_ml 30 = 1 := by decide +kernel
theorem qt_30 : q_rt 30 = some (some .boolean) := by decide +kernel
theorem qp_30 : q_np 30 = 1 := by decide +kernel
theorem qo_30 : q_own 30 = 7 := by decide +kernel
theorem ql_31 : q_ml 31 = 3 := by decide +kernel
theorem qt_31 : q_rt 31 = some none := by decide +kernel
theorem qp_31 : q_np 31 = 2 := by decide +kernel
theorem qo_31 : q_own 31 = 7 := by decide +kernel
theorem ql_32 : q_ml 32 = 3 := by decide +kernel
theorem qt_32 : q_rt 32 = some (some .int) := by decide +kernel
theorem qp_32 : q_np 32 = 2 := by decide +kernel
theorem qo_32 : q_own 32 = 7 := by decide +kernel
theorem ql_33 : q_ml 33 = 5 := by decide +kernel
theorem qt_33 : q_rt 33 = some (some .int) := by decide +kernel
theorem qp_33 : q_np 33 = 4 := by decide +kernel
theorem qo_33 : q_own 33 = 7 := by decide +kernel
theorem ql_34 : q_ml 34 = 2 := by decide +kernel
theorem qt_34 : q_rt 34 = some (some .boolean) := by decide +kernel
theorem qp_34 : q_np 34 = 1 := by decide +kernel
theorem qo_34 : q_own 34 = 7 := by decide +kernel
theorem ql_35 : q_ml 35 = 5 := by decide +kernel
theorem qt_35 : q_rt 35 = some (some .int) := by decide +kernel
theorem qp_35 : q_np 35 = 2 := by decide +kernel
theorem qo_35 : q_own 35 = 7 := by decide +kernel
theorem ql_36 : q_ml 36 = 6 := by decide +kernel
theorem qt_36 : q_rt 36 = some (some .int) := by decide +kernel
theorem qp_36 : q_np 36 = 1 := by decide +kernel
theorem qo_36 : q_own 36 = 7 := by decide +kernel
theorem ql_37 : q_ml 37 = 6 := by decide +kernel
theorem qt_37 : q_rt 37 = some (some .int) := by decide +kernel
theorem qp_37 : q_np 37 = 2 := by decide +kernel
theorem qo_37 : q_own 37 = 7 := by decide +kernel
theorem ql_38 : q_ml 38 = 4 := by decide +kernel
theorem qt_38 : q_rt 38 = some (some .int) := by decide +kernel
theorem qp_38 : q_np 38 = 1 := by decide +kernel
theorem qo_38 : q_own 38 = 7 := by decide +kernel
theorem ql_39 : q_ml 39 = 4 := by decide +kernel
theorem qt_39 : q_rt 39 = some (some .int) := by decide +kernel
theorem qp_39 : q_np 39 = 1 := by decide +kernel
theorem qo_39 : q_own 39 = 7 := by decide +kernel
theorem ql_40 : q_ml 40 = 1 := by decide +kernel
theorem qt_40 : q_rt 40 = some none := by decide +kernel
theorem qp_40 : q_np 40 = 0 := by decide +kernel
theorem qo_40 : q_own 40 = 8 := by decide +kernel
theorem ql_41 : q_ml 41 = 1 := by decide +kernel
theorem qt_41 : q_rt 41 = some (some .int) := by decide +kernel
theorem qp_41 : q_np 41 = 0 := by decide +kernel
theorem qo_41 : q_own 41 = 8 := by decide +kernel
theorem ql_42 : q_ml 42 = 1 := by decide +kernel
theorem qt_42 : q_rt 42 = some (some .int) := by decide +kernel
theorem qp_42 : q_np 42 = 0 := by decide +kernel
theorem qo_42 : q_own 42 = 8 := by decide +kernel
theorem ql_43 : q_ml 43 = 5 := by decide +kernel
theorem qt_43 : q_rt 43 = some none := by decide +kernel
theorem qp_43 : q_np 43 = 4 := by decide +kernel
theorem qo_43 : q_own 43 = 8 := by decide +kernel
theorem ql_44 : q_ml 44 = 1 := by decide +kernel
theorem qt_44 : q_rt 44 = some (some .int) := by decide +kernel
theorem qp_44 : q_np 44 = 0 := by decide +kernel
theorem qo_44 : q_own 44 = 8 := by decide +kernel
theorem ql_45 : q_ml 45 = 2 := by decide +kernel
theorem qt_45 : q_rt 45 = some none := by decide +kernel
theorem qp_45 : q_np 45 = 1 := by decide +kernel
theorem qo_45 : q_own 45 = 8 := by decide +kernel
theorem ql_46 : q_ml 46 = 2 := by decide +kernel
theorem qt_46 : q_rt 46 = some (some .int) := by decide +kernel
theorem qp_46 : q_np 46 = 1 := by decide +kernel
theorem qo_46 : q_own 46 = 9 := by decide +kernel
theorem ql_47 : q_ml 47 = 4 := by decide +kernel
theorem qt_47 : q_rt 47 = some none := by decide +kernel
theorem qp_47 : q_np 47 = 2 := by decide +kernel
theorem qo_47 : q_own 47 = 10 := by decide +kernel
theorem ql_48 : q_ml 48 = 12 := by decide +kernel
theorem qt_48 : q_rt 48 = some (some .int) := by decide +kernel
theorem qp_48 : q_np 48 = 2 := by decide +kernel
theorem qo_48 : q_own 48 = 10 := by decide +kernel
theorem ql_49 : q_ml 49 = 6 := by decide +kernel
theorem qt_49 : q_rt 49 = some none := by decide +kernel
theorem qp_49 : q_np 49 = 1 := by decide +kernel
theorem qo_49 : q_own 49 = 10 := by decide +kernel
theorem ql_50 : q_ml 50 = 5 := by decide +kernel
theorem qt_50 : q_rt 50 = some (some .boolean) := by decide +kernel
theorem qp_50 : q_np 50 = 1 := by decide +kernel
theorem qo_50 : q_own 50 = 10 := by decide +kernel
theorem ql_51 : q_ml 51 = 7 := by decide +kernel
theorem qt_51 : q_rt 51 = some (some .int) := by decide +kernel
theorem qp_51 : q_np 51 = 3 := by decide +kernel
theorem qo_51 : q_own 51 = 10 := by decide +kernel
theorem ql_52 : q_ml 52 = 5 := by decide +kernel
theorem qt_52 : q_rt 52 = some (some .int) := by decide +kernel
theorem qp_52 : q_np 52 = 2 := by decide +kernel
theorem qo_52 : q_own 52 = 10 := by decide +kernel
theorem ql_53 : q_ml 53 = 2 := by decide +kernel
theorem qt_53 : q_rt 53 = some (some .int) := by decide +kernel
theorem qp_53 : q_np 53 = 1 := by decide +kernel
theorem qo_53 : q_own 53 = 10 := by decide +kernel
theorem ql_54 : q_ml 54 = 1 := by decide +kernel
theorem qt_54 : q_rt 54 = some (some .int) := by decide +kernel
theorem qp_54 : q_np 54 = 1 := by decide +kernel
theorem qo_54 : q_own 54 = 10 := by decide +kernel
theorem ql_55 : q_ml 55 = 1 := by decide +kernel
theorem qt_55 : q_rt 55 = some (some .int) := by decide +kernel
theorem qp_55 : q_np 55 = 1 := by decide +kernel
theorem qo_55 : q_own 55 = 10 := by decide +kernel
theorem ql_56 : q_ml 56 = 9 := by decide +kernel
theorem qt_56 : q_rt 56 = some (some .int) := by decide +kernel
theorem qp_56 : q_np 56 = 2 := by decide +kernel
theorem qo_56 : q_own 56 = 10 := by decide +kernel
theorem ql_57 : q_ml 57 = 6 := by decide +kernel
theorem qt_57 : q_rt 57 = some (some .int) := by decide +kernel
theorem qp_57 : q_np 57 = 4 := by decide +kernel
theorem qo_57 : q_own 57 = 10 := by decide +kernel
theorem ql_58 : q_ml 58 = 3 := by decide +kernel
theorem qt_58 : q_rt 58 = some (some .int) := by decide +kernel
theorem qp_58 : q_np 58 = 2 := by decide +kernel
theorem qo_58 : q_own 58 = 10 := by decide +kernel
theorem ql_59 : q_ml 59 = 3 := by decide +kernel
theorem qt_59 : q_rt 59 = some (some .int) := by decide +kernel
theorem qp_59 : q_np 59 = 1 := by decide +kernel
theorem qo_59 : q_own 59 = 10 := by decide +kernel
theorem ql_60 : q_ml 60 = 6 := by decide +kernel
theorem qt_60 : q_rt 60 = some (some .int) := by decide +kernel
theorem qp_60 : q_np 60 = 3 := by decide +kernel
theorem qo_60 : q_own 60 = 10 := by decide +kernel
theorem ql_61 : q_ml 61 = 7 := by decide +kernel
theorem qt_61 : q_rt 61 = some (some .int) := by decide +kernel
theorem qp_61 : q_np 61 = 3 := by decide +kernel
theorem qo_61 : q_own 61 = 10 := by decide +kernel
theorem ql_62 : q_ml 62 = 7 := by decide +kernel
theorem qt_62 : q_rt 62 = some (some .int) := by decide +kernel
theorem qp_62 : q_np 62 = 3 := by decide +kernel
theorem qo_62 : q_own 62 = 10 := by decide +kernel
theorem ql_63 : q_ml 63 = 7 := by decide +kernel
theorem qt_63 : q_rt 63 = some (some .int) := by decide +kernel
theorem qp_63 : q_np 63 = 2 := by decide +kernel
theorem qo_63 : q_own 63 = 10 := by decide +kernel
theorem ql_64 : q_ml 64 = 6 := by decide +kernel
theorem qt_64 : q_rt 64 = some (some .int) := by decide +kernel
theorem qp_64 : q_np 64 = 2 := by decide +kernel
theorem qo_64 : q_own 64 = 10 := by decide +kernel
theorem ql_65 : q_ml 65 = 6 := by decide +kernel
theorem qt_65 : q_rt 65 = some (some .int) := by decide +kernel
theorem qp_65 : q_np 65 = 4 := by decide +kernel
theorem qo_65 : q_own 65 = 10 := by decide +kernel
theorem ql_66 : q_ml 66 = 10 := by decide +kernel
theorem qt_66 : q_rt 66 = some (some .int) := by decide +kernel
theorem qp_66 : q_np 66 = 5 := by decide +kernel
theorem qo_66 : q_own 66 = 10 := by decide +kernel
theorem ql_67 : q_ml 67 = 4 := by decide +kernel
theorem qt_67 : q_rt 67 = some (some .int) := by decide +kernel
theorem qp_67 : q_np 67 = 2 := by decide +kernel
theorem qo_67 : q_own 67 = 11 := by decide +kernel
theorem ql_68 : q_ml 68 = 2 := by decide +kernel
theorem qt_68 : q_rt 68 = some (some .int) := by decide +kernel
theorem qp_68 : q_np 68 = 0 := by decide +kernel
theorem qo_68 : q_own 68 = 11 := by decide +kernel
theorem ql_69 : q_ml 69 = 4 := by decide +kernel
theorem qt_69 : q_rt 69 = some (some .int) := by decide +kernel
theorem qp_69 : q_np 69 = 0 := by decide +kernel
theorem qo_69 : q_own 69 = 11 := by decide +kernel
theorem ql_70 : q_ml 70 = 2 := by decide +kernel
theorem qt_70 : q_rt 70 = some (some .int) := by decide +kernel
theorem qp_70 : q_np 70 = 1 := by decide +kernel
theorem qo_70 : q_own 70 = 11 := by decide +kernel
theorem ql_71 : q_ml 71 = 2 := by decide +kernel
theorem qt_71 : q_rt 71 = some (some .int) := by decide +kernel
theorem qp_71 : q_np 71 = 1 := by decide +kernel
theorem qo_71 : q_own 71 = 11 := by decide +kernel
theorem ql_72 : q_ml 72 = 2 := by decide +kernel
theorem qt_72 : q_rt 72 = some (some .int) := by decide +kernel
theorem qp_72 : q_np 72 = 1 := by decide +kernel
theorem qo_72 : q_own 72 = 11 := by decide +kernel
theorem ql_73 : q_ml 73 = 5 := by decide +kernel
theorem qt_73 : q_rt 73 = some (some .int) := by decide +kernel
theorem qp_73 : q_np 73 = 1 := by decide +kernel
theorem qo_73 : q_own 73 = 11 := by decide +kernel
theorem ql_74 : q_ml 74 = 1 := by decide +kernel
theorem qt_74 : q_rt 74 = some (some .boolean) := by decide +kernel
theorem qp_74 : q_np 74 = 1 := by decide +kernel
theorem qo_74 : q_own 74 = 11 := by decide +kernel
theorem ql_75 : q_ml 75 = 1 := by decide +kernel
theorem qt_75 : q_rt 75 = some (some .int) := by decide +kernel
theorem qp_75 : q_np 75 = 0 := by decide +kernel
theorem qo_75 : q_own 75 = 11 := by decide +kernel
theorem ql_76 : q_ml 76 = 2 := by decide +kernel
theorem qt_76 : q_rt 76 = some (some .int) := by decide +kernel
theorem qp_76 : q_np 76 = 1 := by decide +kernel
theorem qo_76 : q_own 76 = 11 := by decide +kernel
theorem ql_77 : q_ml 77 = 3 := by decide +kernel
theorem qt_77 : q_rt 77 = some (some .int) := by decide +kernel
theorem qp_77 : q_np 77 = 1 := by decide +kernel
theorem qo_77 : q_own 77 = 11 := by decide +kernel
theorem ql_78 : q_ml 78 = 1 := by decide +kernel
theorem qt_78 : q_rt 78 = some (some .boolean) := by decide +kernel
theorem qp_78 : q_np 78 = 1 := by decide +kernel
theorem qo_78 : q_own 78 = 11 := by decide +kernel
theorem ql_79 : q_ml 79 = 3 := by decide +kernel
theorem qt_79 : q_rt 79 = some (some .int) := by decide +kernel
theorem qp_79 : q_np 79 = 2 := by decide +kernel
theorem qo_79 : q_own 79 = 11 := by decide +kernel
theorem ql_80 : q_ml 80 = 3 := by decide +kernel
theorem qt_80 : q_rt 80 = some (some .boolean) := by decide +kernel
theorem qp_80 : q_np 80 = 1 := by decide +kernel
theorem qo_80 : q_own 80 = 11 := by decide +kernel
theorem ql_81 : q_ml 81 = 5 := by decide +kernel
theorem qt_81 : q_rt 81 = some (some .int) := by decide +kernel
theorem qp_81 : q_np 81 = 3 := by decide +kernel
theorem qo_81 : q_own 81 = 11 := by decide +kernel
theorem ql_82 : q_ml 82 = 3 := by decide +kernel
theorem qt_82 : q_rt 82 = some (some .boolean) := by decide +kernel
theorem qp_82 : q_np 82 = 2 := by decide +kernel
theorem qo_82 : q_own 82 = 11 := by decide +kernel
theorem ql_83 : q_ml 83 = 6 := by decide +kernel
theorem qt_83 : q_rt 83 = some (some .int) := by decide +kernel
theorem qp_83 : q_np 83 = 3 := by decide +kernel
theorem qo_83 : q_own 83 = 11 := by decide +kernel
theorem ql_84 : q_ml 84 = 10 := by decide +kernel
theorem qt_84 : q_rt 84 = some (some .int) := by decide +kernel
theorem qp_84 : q_np 84 = 4 := by decide +kernel
theorem qo_84 : q_own 84 = 11 := by decide +kernel
theorem ql_85 : q_ml 85 = 6 := by decide +kernel
theorem qt_85 : q_rt 85 = some (some .int) := by decide +kernel
theorem qp_85 : q_np 85 = 2 := by decide +kernel
theorem qo_85 : q_own 85 = 11 := by decide +kernel
theorem ql_86 : q_ml 86 = 2 := by decide +kernel
theorem qt_86 : q_rt 86 = some (some .boolean) := by decide +kernel
theorem qp_86 : q_np 86 = 2 := by decide +kernel
theorem qo_86 : q_own 86 = 11 := by decide +kernel
theorem ql_87 : q_ml 87 = 3 := by decide +kernel
theorem qt_87 : q_rt 87 = some (some .int) := by decide +kernel
theorem qp_87 : q_np 87 = 2 := by decide +kernel
theorem qo_87 : q_own 87 = 11 := by decide +kernel
theorem ql_88 : q_ml 88 = 3 := by decide +kernel
theorem qt_88 : q_rt 88 = some (some .boolean) := by decide +kernel
theorem qp_88 : q_np 88 = 1 := by decide +kernel
theorem qo_88 : q_own 88 = 11 := by decide +kernel
theorem ql_89 : q_ml 89 = 3 := by decide +kernel
theorem qt_89 : q_rt 89 = some (some .int) := by decide +kernel
theorem qp_89 : q_np 89 = 2 := by decide +kernel
theorem qo_89 : q_own 89 = 11 := by decide +kernel
theorem ql_90 : q_ml 90 = 2 := by decide +kernel
theorem qt_90 : q_rt 90 = some (some .int) := by decide +kernel
theorem qp_90 : q_np 90 = 0 := by decide +kernel
theorem qo_90 : q_own 90 = 11 := by decide +kernel
theorem ql_91 : q_ml 91 = 6 := by decide +kernel
theorem qt_91 : q_rt 91 = some (some .int) := by decide +kernel
theorem qp_91 : q_np 91 = 1 := by decide +kernel
theorem qo_91 : q_own 91 = 11 := by decide +kernel
theorem ql_92 : q_ml 92 = 5 := by decide +kernel
theorem qt_92 : q_rt 92 = some (some .int) := by decide +kernel
theorem qp_92 : q_np 92 = 4 := by decide +kernel
theorem qo_92 : q_own 92 = 11 := by decide +kernel
theorem ql_93 : q_ml 93 = 2 := by decide +kernel
theorem qt_93 : q_rt 93 = some (some .int) := by decide +kernel
theorem qp_93 : q_np 93 = 1 := by decide +kernel
theorem qo_93 : q_own 93 = 11 := by decide +kernel
theorem ql_94 : q_ml 94 = 2 := by decide +kernel
theorem qt_94 : q_rt 94 = some (some .int) := by decide +kernel
theorem qp_94 : q_np 94 = 1 := by decide +kernel
theorem qo_94 : q_own 94 = 11 := by decide +kernel
theorem ql_95 : q_ml 95 = 1 := by decide +kernel
theorem qt_95 : q_rt 95 = some (some .boolean) := by decide +kernel
theorem qp_95 : q_np 95 = 1 := by decide +kernel
theorem qo_95 : q_own 95 = 11 := by decide +kernel
theorem ql_96 : q_ml 96 = 2 := by decide +kernel
theorem qt_96 : q_rt 96 = some (some .int) := by decide +kernel
theorem qp_96 : q_np 96 = 1 := by decide +kernel
theorem qo_96 : q_own 96 = 11 := by decide +kernel
theorem ql_97 : q_ml 97 = 2 := by decide +kernel
theorem qt_97 : q_rt 97 = some (some .int) := by decide +kernel
theorem qp_97 : q_np 97 = 1 := by decide +kernel
theorem qo_97 : q_own 97 = 11 := by decide +kernel
theorem ql_98 : q_ml 98 = 1 := by decide +kernel
theorem qt_98 : q_rt 98 = some (some .long) := by decide +kernel
theorem qp_98 : q_np 98 = 0 := by decide +kernel
theorem qo_98 : q_own 98 = 11 := by decide +kernel
theorem ql_99 : q_ml 99 = 5 := by decide +kernel
theorem qt_99 : q_rt 99 = some (some .int) := by decide +kernel
theorem qp_99 : q_np 99 = 2 := by decide +kernel
theorem qo_99 : q_own 99 = 12 := by decide +kernel
theorem ql_100 : q_ml 100 = 6 := by decide +kernel
theorem qt_100 : q_rt 100 = some (some .boolean) := by decide +kernel
theorem qp_100 : q_np 100 = 3 := by decide +kernel
theorem qo_100 : q_own 100 = 12 := by decide +kernel
theorem ql_101 : q_ml 101 = 2 := by decide +kernel
theorem qt_101 : q_rt 101 = some (some .int) := by decide +kernel
theorem qp_101 : q_np 101 = 0 := by decide +kernel
theorem qo_101 : q_own 101 = 12 := by decide +kernel
theorem ql_102 : q_ml 102 = 1 := by decide +kernel
theorem qt_102 : q_rt 102 = some (some .int) := by decide +kernel
theorem qp_102 : q_np 102 = 0 := by decide +kernel
theorem qo_102 : q_own 102 = 12 := by decide +kernel
theorem ql_103 : q_ml 103 = 1 := by decide +kernel
theorem qt_103 : q_rt 103 = some (some .boolean) := by decide +kernel
theorem qp_103 : q_np 103 = 0 := by decide +kernel
theorem qo_103 : q_own 103 = 12 := by decide +kernel
theorem ql_104 : q_ml 104 = 4 := by decide +kernel
theorem qt_104 : q_rt 104 = some none := by decide +kernel
theorem qp_104 : q_np 104 = 0 := by decide +kernel
theorem qo_104 : q_own 104 = 12 := by decide +kernel
theorem ql_105 : q_ml 105 = 4 := by decide +kernel
theorem qt_105 : q_rt 105 = some (some .long) := by decide +kernel
theorem qp_105 : q_np 105 = 0 := by decide +kernel
theorem qo_105 : q_own 105 = 12 := by decide +kernel
theorem ql_106 : q_ml 106 = 6 := by decide +kernel
theorem qt_106 : q_rt 106 = some (some .int) := by decide +kernel
theorem qp_106 : q_np 106 = 2 := by decide +kernel
theorem qo_106 : q_own 106 = 12 := by decide +kernel
theorem ql_107 : q_ml 107 = 2 := by decide +kernel
theorem qt_107 : q_rt 107 = some (some .int) := by decide +kernel
theorem qp_107 : q_np 107 = 2 := by decide +kernel
theorem qo_107 : q_own 107 = 12 := by decide +kernel
theorem ql_108 : q_ml 108 = 5 := by decide +kernel
theorem qt_108 : q_rt 108 = some none := by decide +kernel
theorem qp_108 : q_np 108 = 1 := by decide +kernel
theorem qo_108 : q_own 108 = 12 := by decide +kernel
theorem ql_109 : q_ml 109 = 2 := by decide +kernel
theorem qt_109 : q_rt 109 = some (some .boolean) := by decide +kernel
theorem qp_109 : q_np 109 = 2 := by decide +kernel
theorem qo_109 : q_own 109 = 12 := by decide +kernel
theorem ql_110 : q_ml 110 = 4 := by decide +kernel
theorem qt_110 : q_rt 110 = some (some .boolean) := by decide +kernel
theorem qp_110 : q_np 110 = 2 := by decide +kernel
theorem qo_110 : q_own 110 = 12 := by decide +kernel
theorem ql_111 : q_ml 111 = 2 := by decide +kernel
theorem qt_111 : q_rt 111 = some (some .int) := by decide +kernel
theorem qp_111 : q_np 111 = 1 := by decide +kernel
theorem qo_111 : q_own 111 = 12 := by decide +kernel
theorem ql_112 : q_ml 112 = 2 := by decide +kernel
theorem qt_112 : q_rt 112 = some (some .boolean) := by decide +kernel
theorem qp_112 : q_np 112 = 1 := by decide +kernel
theorem qo_112 : q_own 112 = 12 := by decide +kernel
theorem ql_113 : q_ml 113 = 2 := by decide +kernel
theorem qt_113 : q_rt 113 = some (some .int) := by decide +kernel
theorem qp_113 : q_np 113 = 1 := by decide +kernel
theorem qo_113 : q_own 113 = 12 := by decide +kernel
theorem ql_114 : q_ml 114 = 2 := by decide +kernel
theorem qt_114 : q_rt 114 = some (some .int) := by decide +kernel
theorem qp_114 : q_np 114 = 1 := by decide +kernel
theorem qo_114 : q_own 114 = 12 := by decide +kernel
theorem ql_115 : q_ml 115 = 2 := by decide +kernel
theorem qt_115 : q_rt 115 = some (some .boolean) := by decide +kernel
theorem qp_115 : q_np 115 = 1 := by decide +kernel
theorem qo_115 : q_own 115 = 12 := by decide +kernel
theorem ql_116 : q_ml 116 = 6 := by decide +kernel
theorem qt_116 : q_rt 116 = some (some .int) := by decide +kernel
theorem qp_116 : q_np 116 = 1 := by decide +kernel
theorem qo_116 : q_own 116 = 12 := by decide +kernel
theorem ql_117 : q_ml 117 = 6 := by decide +kernel
theorem qt_117 : q_rt 117 = some (some .int) := by decide +kernel
theorem qp_117 : q_np 117 = 2 := by decide +kernel
theorem qo_117 : q_own 117 = 12 := by decide +kernel
theorem ql_118 : q_ml 118 = 5 := by decide +kernel
theorem qt_118 : q_rt 118 = some (some .int) := by decide +kernel
theorem qp_118 : q_np 118 = 0 := by decide +kernel
theorem qo_118 : q_own 118 = 12 := by decide +kernel
theorem ql_119 : q_ml 119 = 3 := by decide +kernel
theorem qt_119 : q_rt 119 = some (some .int) := by decide +kernel
theorem qp_119 : q_np 119 = 2 := by decide +kernel
theorem qo_119 : q_own 119 = 12 := by decide +kernel
theorem ql_120 : q_ml 120 = 4 := by decide +kernel
theorem qt_120 : q_rt 120 = some (some .int) := by decide +kernel
theorem qp_120 : q_np 120 = 1 := by decide +kernel
theorem qo_120 : q_own 120 = 12 := by decide +kernel
theorem ql_121 : q_ml 121 = 2 := by decide +kernel
theorem qt_121 : q_rt 121 = some (some .int) := by decide +kernel
theorem qp_121 : q_np 121 = 0 := by decide +kernel
theorem qo_121 : q_own 121 = 12 := by decide +kernel
theorem ql_122 : q_ml 122 = 2 := by decide +kernel
theorem qt_122 : q_rt 122 = some (some .int) := by decide +kernel
theorem qp_122 : q_np 122 = 1 := by decide +kernel
theorem qo_122 : q_own 122 = 12 := by decide +kernel
theorem ql_123 : q_ml 123 = 3 := by decide +kernel
theorem qt_123 : q_rt 123 = some (some .int) := by decide +kernel
theorem qp_123 : q_np 123 = 1 := by decide +kernel
theorem qo_123 : q_own 123 = 12 := by decide +kernel
theorem ql_124 : q_ml 124 = 10 := by decide +kernel
theorem qt_124 : q_rt 124 = some (some .int) := by decide +kernel
theorem qp_124 : q_np 124 = 2 := by decide +kernel
theorem qo_124 : q_own 124 = 12 := by decide +kernel
theorem ql_125 : q_ml 125 = 8 := by decide +kernel
theorem qt_125 : q_rt 125 = some (some .int) := by decide +kernel
theorem qp_125 : q_np 125 = 3 := by decide +kernel
theorem qo_125 : q_own 125 = 12 := by decide +kernel
theorem ql_126 : q_ml 126 = 3 := by decide +kernel
theorem qt_126 : q_rt 126 = some (some .boolean) := by decide +kernel
theorem qp_126 : q_np 126 = 2 := by decide +kernel
theorem qo_126 : q_own 126 = 12 := by decide +kernel
theorem ql_127 : q_ml 127 = 10 := by decide +kernel
theorem qt_127 : q_rt 127 = some none := by decide +kernel
theorem qp_127 : q_np 127 = 2 := by decide +kernel
theorem qo_127 : q_own 127 = 12 := by decide +kernel
theorem ql_128 : q_ml 128 = 4 := by decide +kernel
theorem qt_128 : q_rt 128 = some (some .int) := by decide +kernel
theorem qp_128 : q_np 128 = 2 := by decide +kernel
theorem qo_128 : q_own 128 = 12 := by decide +kernel
theorem ql_129 : q_ml 129 = 8 := by decide +kernel
theorem qt_129 : q_rt 129 = some (some .int) := by decide +kernel
theorem qp_129 : q_np 129 = 3 := by decide +kernel
theorem qo_129 : q_own 129 = 12 := by decide +kernel
theorem ql_130 : q_ml 130 = 5 := by decide +kernel
theorem qt_130 : q_rt 130 = some (some .boolean) := by decide +kernel
theorem qp_130 : q_np 130 = 2 := by decide +kernel
theorem qo_130 : q_own 130 = 12 := by decide +kernel
theorem ql_131 : q_ml 131 = 5 := by decide +kernel
theorem qt_131 : q_rt 131 = some (some .int) := by decide +kernel
theorem qp_131 : q_np 131 = 3 := by decide +kernel
theorem qo_131 : q_own 131 = 12 := by decide +kernel
theorem ql_132 : q_ml 132 = 9 := by decide +kernel
theorem qt_132 : q_rt 132 = some none := by decide +kernel
theorem qp_132 : q_np 132 = 2 := by decide +kernel
theorem qo_132 : q_own 132 = 12 := by decide +kernel
theorem ql_133 : q_ml 133 = 8 := by decide +kernel
theorem qt_133 : q_rt 133 = some (some .int) := by decide +kernel
theorem qp_133 : q_np 133 = 4 := by decide +kernel
theorem qo_133 : q_own 133 = 12 := by decide +kernel
theorem ql_134 : q_ml 134 = 9 := by decide +kernel
theorem qt_134 : q_rt 134 = some (some .int) := by decide +kernel
theorem qp_134 : q_np 134 = 2 := by decide +kernel
theorem qo_134 : q_own 134 = 12 := by decide +kernel
theorem ql_135 : q_ml 135 = 8 := by decide +kernel
theorem qt_135 : q_rt 135 = some (some .int) := by decide +kernel
theorem qp_135 : q_np 135 = 2 := by decide +kernel
theorem qo_135 : q_own 135 = 12 := by decide +kernel
theorem ql_136 : q_ml 136 = 3 := by decide +kernel
theorem qt_136 : q_rt 136 = some (some .int) := by decide +kernel
theorem qp_136 : q_np 136 = 1 := by decide +kernel
theorem qo_136 : q_own 136 = 12 := by decide +kernel
theorem ql_137 : q_ml 137 = 5 := by decide +kernel
theorem qt_137 : q_rt 137 = some (some .int) := by decide +kernel
theorem qp_137 : q_np 137 = 3 := by decide +kernel
theorem qo_137 : q_own 137 = 12 := by decide +kernel
theorem ql_138 : q_ml 138 = 3 := by decide +kernel
theorem qt_138 : q_rt 138 = some (some .int) := by decide +kernel
theorem qp_138 : q_np 138 = 2 := by decide +kernel
theorem qo_138 : q_own 138 = 12 := by decide +kernel
theorem ql_139 : q_ml 139 = 2 := by decide +kernel
theorem qt_139 : q_rt 139 = some (some .int) := by decide +kernel
theorem qp_139 : q_np 139 = 0 := by decide +kernel
theorem qo_139 : q_own 139 = 12 := by decide +kernel
theorem ql_140 : q_ml 140 = 7 := by decide +kernel
theorem qt_140 : q_rt 140 = some (some .int) := by decide +kernel
theorem qp_140 : q_np 140 = 1 := by decide +kernel
theorem qo_140 : q_own 140 = 12 := by decide +kernel
theorem ql_141 : q_ml 141 = 9 := by decide +kernel
theorem qt_141 : q_rt 141 = some (some .int) := by decide +kernel
theorem qp_141 : q_np 141 = 4 := by decide +kernel
theorem qo_141 : q_own 141 = 12 := by decide +kernel
theorem ql_142 : q_ml 142 = 2 := by decide +kernel
theorem qt_142 : q_rt 142 = some (some .int) := by decide +kernel
theorem qp_142 : q_np 142 = 1 := by decide +kernel
theorem qo_142 : q_own 142 = 12 := by decide +kernel
theorem ql_143 : q_ml 143 = 2 := by decide +kernel
theorem qt_143 : q_rt 143 = some (some .int) := by decide +kernel
theorem qp_143 : q_np 143 = 1 := by decide +kernel
theorem qo_143 : q_own 143 = 12 := by decide +kernel
theorem ql_144 : q_ml 144 = 4 := by decide +kernel
theorem qt_144 : q_rt 144 = some none := by decide +kernel
theorem qp_144 : q_np 144 = 2 := by decide +kernel
theorem qo_144 : q_own 144 = 12 := by decide +kernel
theorem ql_145 : q_ml 145 = 2 := by decide +kernel
theorem qt_145 : q_rt 145 = some (some .int) := by decide +kernel
theorem qp_145 : q_np 145 = 1 := by decide +kernel
theorem qo_145 : q_own 145 = 12 := by decide +kernel
theorem ql_146 : q_ml 146 = 2 := by decide +kernel
theorem qt_146 : q_rt 146 = some (some .int) := by decide +kernel
theorem qp_146 : q_np 146 = 1 := by decide +kernel
theorem qo_146 : q_own 146 = 12 := by decide +kernel
theorem ql_147 : q_ml 147 = 1 := by decide +kernel
theorem qt_147 : q_rt 147 = some (some .long) := by decide +kernel
theorem qp_147 : q_np 147 = 0 := by decide +kernel
theorem qo_147 : q_own 147 = 12 := by decide +kernel
theorem ql_148 : q_ml 148 = 1 := by decide +kernel
theorem qt_148 : q_rt 148 = some (some .int) := by decide +kernel
theorem qp_148 : q_np 148 = 0 := by decide +kernel
theorem qo_148 : q_own 148 = 13 := by decide +kernel
theorem ql_149 : q_ml 149 = 1 := by decide +kernel
theorem qt_149 : q_rt 149 = some (some .byte) := by decide +kernel
theorem qp_149 : q_np 149 = 0 := by decide +kernel
theorem qo_149 : q_own 149 = 13 := by decide +kernel
theorem ql_150 : q_ml 150 = 2 := by decide +kernel
theorem qt_150 : q_rt 150 = some (some .char) := by decide +kernel
theorem qp_150 : q_np 150 = 1 := by decide +kernel
theorem qo_150 : q_own 150 = 13 := by decide +kernel
theorem ql_151 : q_ml 151 = 1 := by decide +kernel
theorem qt_151 : q_rt 151 = some (some .boolean) := by decide +kernel
theorem qp_151 : q_np 151 = 0 := by decide +kernel
theorem qo_151 : q_own 151 = 13 := by decide +kernel
theorem ql_152 : q_ml 152 = 2 := by decide +kernel
theorem qt_152 : q_rt 152 = some none := by decide +kernel
theorem qp_152 : q_np 152 = 2 := by decide +kernel
theorem qo_152 : q_own 152 = 13 := by decide +kernel
theorem ql_153 : q_ml 153 = 2 := by decide +kernel
theorem qt_153 : q_rt 153 = some (some .char) := by decide +kernel
theorem qp_153 : q_np 153 = 2 := by decide +kernel
theorem qo_153 : q_own 153 = 14 := by decide +kernel
theorem ql_154 : q_ml 154 = 3 := by decide +kernel
theorem qt_154 : q_rt 154 = some (some .int) := by decide +kernel
theorem qp_154 : q_np 154 = 3 := by decide +kernel
theorem qo_154 : q_own 154 = 15 := by decide +kernel
theorem ql_155 : q_ml 155 = 2 := by decide +kernel
theorem qt_155 : q_rt 155 = some (some .int) := by decide +kernel
theorem qp_155 : q_np 155 = 2 := by decide +kernel
theorem qo_155 : q_own 155 = 16 := by decide +kernel
theorem ql_156 : q_ml 156 = 2 := by decide +kernel
theorem qt_156 : q_rt 156 = some (some .int) := by decide +kernel
theorem qp_156 : q_np 156 = 2 := by decide +kernel
theorem qo_156 : q_own 156 = 16 := by decide +kernel
theorem ql_157 : q_ml 157 = 1 := by decide +kernel
theorem qt_157 : q_rt 157 = some (some .int) := by decide +kernel
theorem qp_157 : q_np 157 = 1 := by decide +kernel
theorem qo_157 : q_own 157 = 17 := by decide +kernel
theorem ql_158 : q_ml 158 = 4 := by decide +kernel
theorem qt_158 : q_rt 158 = some none := by decide +kernel
theorem qp_158 : q_np 158 = 2 := by decide +kernel
theorem qo_158 : q_own 158 = 18 := by decide +kernel
theorem c_0_15 : q_lk qct 0 15 = some (3, 46) := by decide +kernel
theorem c_1_15 : q_lk qct 1 15 = some (3, 46) := by decide +kernel
theorem c_1_23 : q_lk qct 1 23 = some (0, 42) := by decide +kernel
theorem c_2_15 : q_lk qct 2 15 = some (3, 3) := by decide +kernel
theorem c_3_15 : q_lk qct 3 15 = some (3, 46) := by decide +kernel
theorem c_4_28 : q_lk qct 4 28 = some (0, 49) := by decide +kernel
theorem c_4_34 : q_lk qct 4 34 = some (0, 59) := by decide +kernel
theorem c_4_39 : q_lk qct 4 39 = some (1, 155) := by decide +kernel
theorem c_5_15 : q_lk qct 5 15 = some (3, 1) := by decide +kernel
theorem c_5_29 : q_lk qct 5 29 = some (1, 156) := by decide +kernel
theorem c_6_19 : q_lk qct 6 19 = some (0, 23) := by decide +kernel
theorem c_6_37 : q_lk qct 6 37 = some (0, 10) := by decide +kernel
theorem c_6_43 : q_lk qct 6 43 = some (0, 16) := by decide +kernel
theorem c_6_47 : q_lk qct 6 47 = some (0, 18) := by decide +kernel
theorem c_6_51 : q_lk qct 6 51 = some (0, 19) := by decide +kernel
theorem c_6_54 : q_lk qct 6 54 = some (0, 20) := by decide +kernel
theorem c_6_57 : q_lk qct 6 57 = some (0, 21) := by decide +kernel
theorem c_6_60 : q_lk qct 6 60 = some (0, 22) := by decide +kernel
theorem c_6_67 : q_lk qct 6 67 = some (0, 17) := by decide +kernel
theorem c_6_80 : q_lk qct 6 80 = some (0, 25) := by decide +kernel
theorem c_6_84 : q_lk qct 6 84 = some (0, 29) := by decide +kernel
theorem c_6_88 : q_lk qct 6 88 = some (0, 31) := by decide +kernel
theorem c_6_107 : q_lk qct 6 107 = some (1, 11) := by decide +kernel
theorem c_6_111 : q_lk qct 6 111 = some (0, 12) := by decide +kernel
theorem c_6_114 : q_lk qct 6 114 = some (1, 14) := by decide +kernel
theorem c_6_117 : q_lk qct 6 117 = some (0, 15) := by decide +kernel
theorem c_6_122 : q_lk qct 6 122 = some (0, 13) := by decide +kernel
theorem c_6_135 : q_lk qct 6 135 = some (0, 148) := by decide +kernel
theorem c_6_140 : q_lk qct 6 140 = some (0, 150) := by decide +kernel
theorem c_6_144 : q_lk qct 6 144 = some (1, 155) := by decide +kernel
theorem c_7_47 : q_lk qct 7 47 = some (1, 158) := by decide +kernel
theorem c_7_59 : q_lk qct 7 59 = some (0, 25) := by decide +kernel
theorem c_7_63 : q_lk qct 7 63 = some (0, 26) := by decide +kernel
theorem c_7_67 : q_lk qct 7 67 = some (0, 28) := by decide +kernel
theorem c_7_71 : q_lk qct 7 71 = some (1, 30) := by decide +kernel
theorem c_7_74 : q_lk qct 7 74 = some (0, 27) := by decide +kernel
theorem c_7_77 : q_lk qct 7 77 = some (0, 29) := by decide +kernel
theorem c_7_81 : q_lk qct 7 81 = some (2, 74) := by decide +kernel
theorem c_7_84 : q_lk qct 7 84 = some (2, 86) := by decide +kernel
theorem c_7_88 : q_lk qct 7 88 = some (0, 32) := by decide +kernel
theorem c_7_91 : q_lk qct 7 91 = some (0, 37) := by decide +kernel
theorem c_7_94 : q_lk qct 7 94 = some (0, 34) := by decide +kernel
theorem c_8_38 : q_lk qct 8 38 = some (5, 0) := by decide +kernel
theorem c_10_48 : q_lk qct 10 48 = some (0, 35) := by decide +kernel
theorem c_10_55 : q_lk qct 10 55 = some (0, 32) := by decide +kernel
theorem c_10_59 : q_lk qct 10 59 = some (0, 33) := by decide +kernel
theorem c_10_64 : q_lk qct 10 64 = some (1, 158) := by decide +kernel
theorem c_10_70 : q_lk qct 10 70 = some (0, 28) := by decide +kernel
theorem c_10_74 : q_lk qct 10 74 = some (0, 50) := by decide +kernel
theorem c_10_78 : q_lk qct 10 78 = some (0, 26) := by decide +kernel
theorem c_10_81 : q_lk qct 10 81 = some (0, 51) := by decide +kernel
theorem c_10_85 : q_lk qct 10 85 = some (0, 34) := by decide +kernel
theorem c_10_88 : q_lk qct 10 88 = some (0, 52) := by decide +kernel
theorem c_10_91 : q_lk qct 10 91 = some (1, 155) := by decide +kernel
theorem c_10_96 : q_lk qct 10 96 = some (0, 53) := by decide +kernel
theorem c_10_100 : q_lk qct 10 100 = some (1, 54) := by decide +kernel
theorem c_10_103 : q_lk qct 10 103 = some (0, 49) := by decide +kernel
theorem c_10_107 : q_lk qct 10 107 = some (0, 59) := by decide +kernel
theorem c_10_110 : q_lk qct 10 110 = some (0, 57) := by decide +kernel
theorem c_10_113 : q_lk qct 10 113 = some (0, 61) := by decide +kernel
theorem c_10_116 : q_lk qct 10 116 = some (0, 62) := by decide +kernel
theorem c_10_119 : q_lk qct 10 119 = some (2, 86) := by decide +kernel
theorem c_10_123 : q_lk qct 10 123 = some (0, 64) := by decide +kernel
theorem c_10_126 : q_lk qct 10 126 = some (0, 38) := by decide +kernel
theorem c_10_129 : q_lk qct 10 129 = some (0, 66) := by decide +kernel
theorem c_11_83 : q_lk qct 11 83 = some (0, 8) := by decide +kernel
theorem c_11_91 : q_lk qct 11 91 = some (0, 9) := by decide +kernel
theorem c_11_95 : q_lk qct 11 95 = some (0, 24) := by decide +kernel
theorem c_11_98 : q_lk qct 11 98 = some (0, 40) := by decide +kernel
theorem c_11_108 : q_lk qct 11 108 = some (0, 27) := by decide +kernel
theorem c_11_112 : q_lk qct 11 112 = some (0, 29) := by decide +kernel
theorem c_11_131 : q_lk qct 11 131 = some (0, 26) := by decide +kernel
theorem c_11_137 : q_lk qct 11 137 = some (1, 74) := by decide +kernel
theorem c_11_140 : q_lk qct 11 140 = some (0, 32) := by decide +kernel
theorem c_11_147 : q_lk qct 11 147 = some (0, 41) := by decide +kernel
theorem c_11_151 : q_lk qct 11 151 = some (0, 42) := by decide +kernel
theorem c_11_154 : q_lk qct 11 154 = some (0, 33) := by decide +kernel
theorem c_11_158 : q_lk qct 11 158 = some (0, 35) := by decide +kernel
theorem c_11_162 : q_lk qct 11 162 = some (0, 43) := by decide +kernel
theorem c_11_166 : q_lk qct 11 166 = some (0, 44) := by decide +kernel
theorem c_11_172 : q_lk qct 11 172 = some (1, 78) := by decide +kernel
theorem c_11_175 : q_lk qct 11 175 = some (1, 80) := by decide +kernel
theorem c_11_178 : q_lk qct 11 178 = some (0, 47) := by decide +kernel
theorem c_11_182 : q_lk qct 11 182 = some (0, 48) := by decide +kernel
theorem c_11_185 : q_lk qct 11 185 = some (0, 82) := by decide +kernel
theorem c_11_189 : q_lk qct 11 189 = some (0, 49) := by decide +kernel
theorem c_11_193 : q_lk qct 11 193 = some (0, 53) := by decide +kernel
theorem c_11_197 : q_lk qct 11 197 = some (1, 54) := by decide +kernel
theorem c_11_200 : q_lk qct 11 200 = some (1, 55) := by decide +kernel
theorem c_11_203 : q_lk qct 11 203 = some (0, 56) := by decide +kernel
theorem c_11_207 : q_lk qct 11 207 = some (1, 155) := by decide +kernel
theorem c_11_212 : q_lk qct 11 212 = some (0, 58) := by decide +kernel
theorem c_11_215 : q_lk qct 11 215 = some (0, 60) := by decide +kernel
theorem c_11_219 : q_lk qct 11 219 = some (0, 36) := by decide +kernel
theorem c_11_222 : q_lk qct 11 222 = some (1, 86) := by decide +kernel
theorem c_11_225 : q_lk qct 11 225 = some (0, 88) := by decide +kernel
theorem c_11_228 : q_lk qct 11 228 = some (0, 63) := by decide +kernel
theorem c_11_231 : q_lk qct 11 231 = some (0, 4) := by decide +kernel
theorem c_11_233 : q_lk qct 11 233 = some (0, 5) := by decide +kernel
theorem c_11_237 : q_lk qct 11 237 = some (0, 28) := by decide +kernel
theorem c_11_240 : q_lk qct 11 240 = some (0, 6) := by decide +kernel
theorem c_11_244 : q_lk qct 11 244 = some (0, 65) := by decide +kernel
theorem c_11_247 : q_lk qct 11 247 = some (4, 46) := by decide +kernel
theorem c_11_251 : q_lk qct 11 251 = some (1, 95) := by decide +kernel
theorem c_11_254 : q_lk qct 11 254 = some (0, 45) := by decide +kernel
theorem c_11_264 : q_lk qct 11 264 = some (0, 39) := by decide +kernel
theorem c_11_268 : q_lk qct 11 268 = some (1, 157) := by decide +kernel
theorem c_12_72 : q_lk qct 12 72 = some (1, 100) := by decide +kernel
theorem c_12_76 : q_lk qct 12 76 = some (0, 112) := by decide +kernel
theorem c_12_83 : q_lk qct 12 83 = some (1, 109) := by decide +kernel
theorem c_12_100 : q_lk qct 12 100 = some (0, 103) := by decide +kernel
theorem c_12_108 : q_lk qct 12 108 = some (1, 107) := by decide +kernel
theorem c_12_123 : q_lk qct 12 123 = some (0, 106) := by decide +kernel
theorem c_12_138 : q_lk qct 12 138 = some (0, 105) := by decide +kernel
theorem c_12_151 : q_lk qct 12 151 = some (0, 108) := by decide +kernel
theorem c_12_157 : q_lk qct 12 157 = some (0, 110) := by decide +kernel
theorem c_12_164 : q_lk qct 12 164 = some (0, 104) := by decide +kernel
theorem c_12_179 : q_lk qct 12 179 = some (0, 119) := by decide +kernel
theorem c_12_182 : q_lk qct 12 182 = some (0, 115) := by decide +kernel
theorem c_12_187 : q_lk qct 12 187 = some (0, 117) := by decide +kernel
theorem c_12_190 : q_lk qct 12 190 = some (0, 118) := by decide +kernel
theorem c_12_194 : q_lk qct 12 194 = some (0, 120) := by decide +kernel
theorem c_12_203 : q_lk qct 12 203 = some (0, 128) := by decide +kernel
theorem c_12_206 : q_lk qct 12 206 = some (0, 129) := by decide +kernel
theorem c_12_210 : q_lk qct 12 210 = some (0, 126) := by decide +kernel
theorem c_12_213 : q_lk qct 12 213 = some (0, 127) := by decide +kernel
theorem c_12_217 : q_lk qct 12 217 = some (0, 130) := by decide +kernel
theorem c_12_220 : q_lk qct 12 220 = some (0, 132) := by decide +kernel
theorem c_12_223 : q_lk qct 12 223 = some (1, 136) := by decide +kernel
theorem c_12_226 : q_lk qct 12 226 = some (0, 137) := by decide +kernel
theorem c_12_244 : q_lk qct 12 244 = some (0, 144) := by decide +kernel
theorem c_13_335 : q_lk qct 13 335 = some (0, 149) := by decide +kernel
theorem c_13_492 : q_lk qct 13 492 = some (0, 151) := by decide +kernel
theorem c_13_495 : q_lk qct 13 495 = some (1, 153) := by decide +kernel
theorem c_13_1059 : q_lk qct 13 1059 = some (1, 154) := by decide +kernel
theorem c_14_9 : q_lk qct 14 9 = some (1, 152) := by decide +kernel
theorem f_0_7 : q_lk qft 0 7 = some (11, 9, 1) := by decide +kernel
theorem f_0_19 : q_lk qft 0 19 = some (11, 4, 1) := by decide +kernel
theorem f_0_23 : q_lk qft 0 23 = some (4, 0, 0) := by decide +kernel
theorem f_1_7 : q_lk qft 1 7 = some (11, 9, 1) := by decide +kernel
theorem f_1_19 : q_lk qft 1 19 = some (11, 1, 1) := by decide +kernel
theorem f_2_7 : q_lk qft 2 7 = some (11, 9, 1) := by decide +kernel
theorem f_3_7 : q_lk qft 3 7 = some (11, 9, 1) := by decide +kernel
theorem f_3_19 : q_lk qft 3 19 = some (11, 1, 1) := by decide +kernel
theorem f_3_23 : q_lk qft 3 23 = some (8, 2, 0) := by decide +kernel
theorem f_4_9 : q_lk qft 4 9 = some (4, 0, 0) := by decide +kernel
theorem f_4_15 : q_lk qft 4 15 = some (4, 1, 0) := by decide +kernel
theorem f_4_19 : q_lk qft 4 19 = some (4, 2, 0) := by decide +kernel
theorem f_4_22 : q_lk qft 4 22 = some (4, 3, 0) := by decide +kernel
theorem f_4_25 : q_lk qft 4 25 = some (4, 4, 0) := by decide +kernel
theorem f_5_7 : q_lk qft 5 7 = some (11, 9, 1) := by decide +kernel
theorem f_5_19 : q_lk qft 5 19 = some (11, 1, 1) := by decide +kernel
theorem f_5_23 : q_lk qft 5 23 = some (8, 0, 0) := by decide +kernel
theorem f_6_9 : q_lk qft 6 9 = some (6, 0, 0) := by decide +kernel
theorem f_6_15 : q_lk qft 6 15 = some (6, 1, 0) := by decide +kernel
theorem f_6_24 : q_lk qft 6 24 = some (6, 2, 0) := by decide +kernel
theorem f_6_27 : q_lk qft 6 27 = some (6, 6, 0) := by decide +kernel
theorem f_6_31 : q_lk qft 6 31 = some (6, 7, 0) := by decide +kernel
theorem f_6_34 : q_lk qft 6 34 = some (6, 8, 0) := by decide +kernel
theorem f_6_40 : q_lk qft 6 40 = some (6, 4, 0) := by decide +kernel
theorem f_6_64 : q_lk qft 6 64 = some (6, 3, 0) := by decide +kernel
theorem f_6_71 : q_lk qft 6 71 = some (6, 5, 0) := by decide +kernel
theorem f_6_74 : q_lk qft 6 74 = some (7, 0, 0) := by decide +kernel
theorem f_6_77 : q_lk qft 6 77 = some (7, 1, 0) := by decide +kernel
theorem f_6_92 : q_lk qft 6 92 = some (7, 2, 0) := by decide +kernel
theorem f_6_95 : q_lk qft 6 95 = some (7, 3, 0) := by decide +kernel
theorem f_6_98 : q_lk qft 6 98 = some (7, 4, 0) := by decide +kernel
theorem f_6_101 : q_lk qft 6 101 = some (7, 5, 0) := by decide +kernel
theorem f_6_104 : q_lk qft 6 104 = some (7, 6, 0) := by decide +kernel
theorem f_7_9 : q_lk qft 7 9 = some (7, 7, 0) := by decide +kernel
theorem f_7_15 : q_lk qft 7 15 = some (7, 8, 0) := by decide +kernel
theorem f_7_24 : q_lk qft 7 24 = some (7, 0, 0) := by decide +kernel
theorem f_7_28 : q_lk qft 7 28 = some (7, 1, 0) := by decide +kernel
theorem f_7_31 : q_lk qft 7 31 = some (7, 2, 0) := by decide +kernel
theorem f_7_34 : q_lk qft 7 34 = some (7, 3, 0) := by decide +kernel
theorem f_7_37 : q_lk qft 7 37 = some (7, 4, 0) := by decide +kernel
theorem f_7_40 : q_lk qft 7 40 = some (7, 5, 0) := by decide +kernel
theorem f_7_44 : q_lk qft 7 44 = some (7, 6, 0) := by decide +kernel
theorem f_8_9 : q_lk qft 8 9 = some (8, 0, 0) := by decide +kernel
theorem f_8_15 : q_lk qft 8 15 = some (8, 1, 0) := by decide +kernel
theorem f_8_18 : q_lk qft 8 18 = some (8, 2, 0) := by decide +kernel
theorem f_8_21 : q_lk qft 8 21 = some (8, 3, 0) := by decide +kernel
theorem f_8_25 : q_lk qft 8 25 = some (8, 4, 0) := by decide +kernel
theorem f_8_29 : q_lk qft 8 29 = some (8, 5, 0) := by decide +kernel
theorem f_8_32 : q_lk qft 8 32 = some (8, 6, 0) := by decide +kernel
theorem f_8_35 : q_lk qft 8 35 = some (8, 7, 0) := by decide +kernel
theorem f_9_7 : q_lk qft 9 7 = some (11, 9, 1) := by decide +kernel
theorem f_9_13 : q_lk qft 9 13 = some (11, 1, 1) := by decide +kernel
theorem f_9_17 : q_lk qft 9 17 = some (8, 1, 0) := by decide +kernel
theorem f_10_9 : q_lk qft 10 9 = some (10, 1, 0) := by decide +kernel
theorem f_10_15 : q_lk qft 10 15 = some (10, 2, 0) := by decide +kernel
theorem f_10_19 : q_lk qft 10 19 = some (10, 3, 0) := by decide +kernel
theorem f_10_23 : q_lk qft 10 23 = some (10, 4, 0) := by decide +kernel
theorem f_10_26 : q_lk qft 10 26 = some (10, 5, 0) := by decide +kernel
theorem f_10_29 : q_lk qft 10 29 = some (10, 6, 0) := by decide +kernel
theorem f_10_32 : q_lk qft 10 32 = some (10, 7, 0) := by decide +kernel
theorem f_10_35 : q_lk qft 10 35 = some (10, 8, 0) := by decide +kernel
theorem f_10_38 : q_lk qft 10 38 = some (10, 9, 0) := by decide +kernel
theorem f_10_41 : q_lk qft 10 41 = some (10, 10, 0) := by decide +kernel
theorem f_10_44 : q_lk qft 10 44 = some (10, 0, 0) := by decide +kernel
theorem f_11_12 : q_lk qft 11 12 = some (11, 0, 0) := by decide +kernel
theorem f_11_19 : q_lk qft 11 19 = some (11, 1, 0) := by decide +kernel
theorem f_11_23 : q_lk qft 11 23 = some (11, 2, 0) := by decide +kernel
theorem f_11_27 : q_lk qft 11 27 = some (11, 3, 0) := by decide +kernel
theorem f_11_34 : q_lk qft 11 34 = some (11, 4, 0) := by decide +kernel
theorem f_11_40 : q_lk qft 11 40 = some (11, 5, 0) := by decide +kernel
theorem f_11_47 : q_lk qft 11 47 = some (11, 7, 0) := by decide +kernel
theorem f_11_51 : q_lk qft 11 51 = some (11, 8, 0) := by decide +kernel
theorem f_11_54 : q_lk qft 11 54 = some (11, 9, 0) := by decide +kernel
theorem f_11_79 : q_lk qft 11 79 = some (11, 6, 0) := by decide +kernel
theorem f_11_87 : q_lk qft 11 87 = some (6, 0, 0) := by decide +kernel
theorem f_11_101 : q_lk qft 11 101 = some (8, 3, 0) := by decide +kernel
theorem f_11_105 : q_lk qft 11 105 = some (4, 0, 0) := by decide +kernel
theorem f_11_116 : q_lk qft 11 116 = some (7, 2, 0) := by decide +kernel
theorem f_11_119 : q_lk qft 11 119 = some (7, 3, 0) := by decide +kernel
theorem f_11_122 : q_lk qft 11 122 = some (7, 4, 0) := by decide +kernel
theorem f_11_125 : q_lk qft 11 125 = some (7, 5, 0) := by decide +kernel
theorem f_11_128 : q_lk qft 11 128 = some (7, 6, 0) := by decide +kernel
theorem f_11_134 : q_lk qft 11 134 = some (8, 0, 0) := by decide +kernel
theorem f_11_144 : q_lk qft 11 144 = some (8, 2, 0) := by decide +kernel
theorem f_11_169 : q_lk qft 11 169 = some (8, 1, 0) := by decide +kernel
theorem f_11_258 : q_lk qft 11 258 = some (7, 0, 0) := by decide +kernel
theorem f_11_261 : q_lk qft 11 261 = some (7, 1, 0) := by decide +kernel
theorem f_12_7 : q_lk qft 12 7 = some (12, 0, 0) := by decide +kernel
theorem f_12_13 : q_lk qft 12 13 = some (12, 1, 0) := by decide +kernel
theorem f_12_16 : q_lk qft 12 16 = some (12, 4, 0) := by decide +kernel
theorem f_12_19 : q_lk qft 12 19 = some (12, 5, 0) := by decide +kernel
theorem f_12_22 : q_lk qft 12 22 = some (12, 6, 0) := by decide +kernel
theorem f_12_25 : q_lk qft 12 25 = some (12, 9, 0) := by decide +kernel
theorem f_12_29 : q_lk qft 12 29 = some (12, 11, 0) := by decide +kernel
theorem f_12_32 : q_lk qft 12 32 = some (12, 12, 0) := by decide +kernel
theorem f_12_36 : q_lk qft 12 36 = some (12, 14, 0) := by decide +kernel
theorem f_12_39 : q_lk qft 12 39 = some (12, 15, 0) := by decide +kernel
theorem f_12_42 : q_lk qft 12 42 = some (12, 21, 0) := by decide +kernel
theorem f_12_45 : q_lk qft 12 45 = some (12, 26, 0) := by decide +kernel
theorem f_12_48 : q_lk qft 12 48 = some (12, 27, 0) := by decide +kernel
theorem f_12_51 : q_lk qft 12 51 = some (12, 28, 0) := by decide +kernel
theorem f_12_54 : q_lk qft 12 54 = some (12, 29, 0) := by decide +kernel
theorem f_12_57 : q_lk qft 12 57 = some (12, 30, 0) := by decide +kernel
theorem f_12_60 : q_lk qft 12 60 = some (12, 31, 0) := by decide +kernel
theorem f_12_63 : q_lk qft 12 63 = some (12, 32, 0) := by decide +kernel
theorem f_12_66 : q_lk qft 12 66 = some (12, 33, 0) := by decide +kernel
theorem f_12_69 : q_lk qft 12 69 = some (12, 34, 0) := by decide +kernel
theorem f_12_80 : q_lk qft 12 80 = some (12, 2, 0) := by decide +kernel
theorem f_12_89 : q_lk qft 12 89 = some (12, 10, 0) := by decide +kernel
theorem f_12_94 : q_lk qft 12 94 = some (12, 24, 0) := by decide +kernel
theorem f_12_97 : q_lk qft 12 97 = some (12, 25, 0) := by decide +kernel
theorem f_12_120 : q_lk qft 12 120 = some (12, 17, 0) := by decide +kernel
theorem f_12_126 : q_lk qft 12 126 = some (12, 18, 0) := by decide +kernel
theorem f_12_129 : q_lk qft 12 129 = some (12, 19, 0) := by decide +kernel
theorem f_12_132 : q_lk qft 12 132 = some (12, 20, 0) := by decide +kernel
theorem f_12_135 : q_lk qft 12 135 = some (12, 22, 0) := by decide +kernel
theorem f_12_144 : q_lk qft 12 144 = some (12, 23, 0) := by decide +kernel
theorem f_12_167 : q_lk qft 12 167 = some (12, 3, 0) := by decide +kernel
theorem f_12_170 : q_lk qft 12 170 = some (12, 7, 0) := by decide +kernel
theorem f_12_173 : q_lk qft 12 173 = some (12, 8, 0) := by decide +kernel
theorem f_12_176 : q_lk qft 12 176 = some (12, 13, 0) := by decide +kernel
theorem f_12_229 : q_lk qft 12 229 = some (12, 16, 0) := by decide +kernel
theorem f_13_9 : q_lk qft 13 9 = some (13, 0, 0) := by decide +kernel
theorem f_13_15 : q_lk qft 13 15 = some (13, 1, 0) := by decide +kernel
theorem s_7_53 : q_lk qst 7 53 = some (.ref 1000) := by decide +kernel
theorem s_7_56 : q_lk qst 7 56 = some (.ref 1001) := by decide +kernel
theorem s_13_38 : q_lk qst 13 38 = some (.int 1) := by decide +kernel
theorem s_13_1053 : q_lk qst 13 1053 = some (.ref 1030) := by decide +kernel
theorem n_4_38 : q_lk qci 4 38 = some (1073741824) := by decide +kernel
theorem n_10_54 : q_lk qci 10 54 = some (99999999) := by decide +kernel
theorem n_10_63 : q_lk qci 10 63 = some (1073741824) := by decide +kernel
theorem n_11_196 : q_lk qci 11 196 = some (1073741824) := by decide +kernel
theorem n_11_206 : q_lk qci 11 206 = some (1073741823) := by decide +kernel
theorem n_11_250 : q_lk qci 11 250 = some (-1000000) := by decide +kernel
theorem n_11_267 : q_lk qci 11 267 = some (999999999) := by decide +kernel
theorem n_12_202 : q_lk qci 12 202 = some (100000000) := by decide +kernel
theorem n_12_243 : q_lk qci 12 243 = some (-1000000) := by decide +kernel
theorem n_17_265 : q_lk qci 17 265 = some (1431655765) := by decide +kernel
theorem n_17_266 : q_lk qci 17 266 = some (858993459) := by decide +kernel
theorem n_17_267 : q_lk qci 17 267 = some (252645135) := by decide +kernel
theorem l_0_13 : q_lk qcj 0 13 = some (100000) := by decide +kernel
theorem l_1_13 : q_lk qcj 1 13 = some (100) := by decide +kernel
theorem l_2_13 : q_lk qcj 2 13 = some (1000) := by decide +kernel
theorem l_3_13 : q_lk qcj 3 13 = some (10) := by decide +kernel
theorem l_5_13 : q_lk qcj 5 13 = some (10000) := by decide +kernel
theorem l_12_87 : q_lk qcj 12 87 = some (8) := by decide +kernel
theorem l_12_92 : q_lk qcj 12 92 = some (255) := by decide +kernel
theorem l_12_104 : q_lk qcj 12 104 = some (48) := by decide +kernel
theorem l_12_106 : q_lk qcj 12 106 = some (57) := by decide +kernel
theorem l_12_112 : q_lk qcj 12 112 = some (97) := by decide +kernel
theorem l_12_114 : q_lk qcj 12 114 = some (122) := by decide +kernel
theorem l_12_116 : q_lk qcj 12 116 = some (32) := by decide +kernel
theorem l_12_118 : q_lk qcj 12 118 = some (96) := by decide +kernel
theorem l_12_142 : q_lk qcj 12 142 = some (671470) := by decide +kernel
theorem l_12_147 : q_lk qcj 12 147 = some (8902245) := by decide +kernel
theorem l_12_149 : q_lk qcj 12 149 = some (5638647) := by decide +kernel
theorem l_12_155 : q_lk qcj 12 155 = some (20536) := by decide +kernel
theorem l_12_160 : q_lk qcj 12 160 = some (150636933) := by decide +kernel
theorem l_12_162 : q_lk qcj 12 162 = some (8441477) := by decide +kernel
theorem l_12_185 : q_lk qcj 12 185 = some (3) := by decide +kernel
theorem l_12_198 : q_lk qcj 12 198 = some (444444444) := by decide +kernel
theorem l_12_200 : q_lk qcj 12 200 = some (4) := by decide +kernel
theorem l_12_233 : q_lk qcj 12 233 = some (11) := by decide +kernel
theorem l_12_235 : q_lk qcj 12 235 = some (101) := by decide +kernel
theorem l_12_237 : q_lk qcj 12 237 = some (1011) := by decide +kernel
theorem l_12_239 : q_lk qcj 12 239 = some (10101) := by decide +kernel
theorem l_12_241 : q_lk qcj 12 241 = some (100001) := by decide +kernel
theorem z_6_120 : q_lk qcs 6 120 = some (0) := by decide +kernel
theorem sn_6_120 : q_lk qci 6 120 = none := by decide +kernel
theorem z_6_126 : q_lk qcs 6 126 = some (1) := by decide +kernel
theorem sn_6_126 : q_lk qci 6 126 = none := by decide +kernel
theorem z_6_128 : q_lk qcs 6 128 = some (2) := by decide +kernel
theorem sn_6_128 : q_lk qci 6 128 = none := by decide +kernel
theorem z_6_130 : q_lk qcs 6 130 = some (3) := by decide +kernel
theorem sn_6_130 : q_lk qci 6 130 = none := by decide +kernel
theorem z_6_132 : q_lk qcs 6 132 = some (4) := by decide +kernel
theorem sn_6_132 : q_lk qci 6 132 = none := by decide +kernel
theorem z_6_134 : q_lk qcs 6 134 = some (5) := by decide +kernel
theorem sn_6_134 : q_lk qci 6 134 = none := by decide +kernel
end
section
theorem i_0_0 : q_dec 0 0 = some (0, .aload_n 1, 1) := by decide +kernel
theorem i_0_1 : q_dec 0 1 = some (0, .dup, 1) := by decide +kernel
theorem i_0_2 : q_dec 0 2 = some (0, .getfield 7, 3) := by decide +kernel
theorem i_0_5 : q_dec 0 5 = some (0, .ldc2_w 13, 3) := by decide +kernel
theorem i_0_8 : q_dec 0 8 = some (0, .ladd, 1) := by decide +kernel
theorem i_0_9 : q_dec 0 9 = some (0, .putfield 7, 3) := by decide +kernel
theorem i_0_12 : q_dec 0 12 = some (0, .aload_n 0, 1) := by decide +kernel
theorem i_0_13 : q_dec 0 13 = some (0, .aload_n 1, 1) := by decide +kernel
theorem i_0_14 : q_dec 0 14 = some (0, .invokespecial 15, 3) := by decide +kernel
theorem i_0_17 : q_dec 0 17 = some (0, .aload_n 1, 1) := by decide +kernel
theorem i_0_18 : q_dec 0 18 = some (0, .getfield 19, 3) := by decide +kernel
theorem i_0_21 : q_dec 0 21 = some (0, .getfield 23, 3) := by decide +kernel
theorem i_0_24 : q_dec 0 24 = some (0, .iadd, 1) := by decide +kernel
theorem i_0_25 : q_dec 0 25 = some (0, .ireturn, 1) := by decide +kernel
theorem i_1_0 : q_dec 1 0 = some (1, .aload_n 1, 1) := by decide +kernel
theorem i_1_1 : q_dec 1 1 = some (1, .dup, 1) := by decide +kernel
theorem i_1_2 : q_dec 1 2 = some (1, .getfield 7, 3) := by decide +kernel
theorem i_1_5 : q_dec 1 5 = some (1, .ldc2_w 13, 3) := by decide +kernel
theorem i_1_8 : q_dec 1 8 = some (1, .ladd, 1) := by decide +kernel
theorem i_1_9 : q_dec 1 9 = some (1, .putfield 7, 3) := by decide +kernel
theorem i_1_12 : q_dec 1 12 = some (1, .aload_n 0, 1) := by decide +kernel
theorem i_1_13 : q_dec 1 13 = some (1, .aload_n 1, 1) := by decide +kernel
theorem i_1_14 : q_dec 1 14 = some (1, .invokespecial 15, 3) := by decide +kernel
theorem i_1_17 : q_dec 1 17 = some (1, .aload_n 1, 1) := by decide +kernel
theorem i_1_18 : q_dec 1 18 = some (1, .getfield 19, 3) := by decide +kernel
theorem i_1_21 : q_dec 1 21 = some (1, .invokevirtual 23, 3) := by decide +kernel
theorem i_1_24 : q_dec 1 24 = some (1, .isub, 1) := by decide +kernel
theorem i_1_25 : q_dec 1 25 = some (1, .ireturn, 1) := by decide +kernel
theorem i_2_0 : q_dec 2 0 = some (2, .aload_n 1, 1) := by decide +kernel
theorem i_2_1 : q_dec 2 1 = some (2, .dup, 1) := by decide +kernel
theorem i_2_2 : q_dec 2 2 = some (2, .getfield 7, 3) := by decide +kernel
theorem i_2_5 : q_dec 2 5 = some (2, .ldc2_w 13, 3) := by decide +kernel
theorem i_2_8 : q_dec 2 8 = some (2, .ladd, 1) := by decide +kernel
theorem i_2_9 : q_dec 2 9 = some (2, .putfield 7, 3) := by decide +kernel
theorem i_2_12 : q_dec 2 12 = some (2, .iconst 2, 1) := by decide +kernel
theorem i_2_13 : q_dec 2 13 = some (2, .aload_n 0, 1) := by decide +kernel
theorem i_2_14 : q_dec 2 14 = some (2, .aload_n 1, 1) := by decide +kernel
theorem i_2_15 : q_dec 2 15 = some (2, .invokespecial 15, 3) := by decide +kernel
theorem i_2_18 : q_dec 2 18 = some (2, .imul, 1) := by decide +kernel
theorem i_2_19 : q_dec 2 19 = some (2, .ireturn, 1) := by decide +kernel
theorem i_3_0 : q_dec 3 0 = some (3, .aload_n 1, 1) := by decide +kernel
theorem i_3_1 : q_dec 3 1 = some (3, .dup, 1) := by decide +kernel
theorem i_3_2 : q_dec 3 2 = some (3, .getfield 7, 3) := by decide +kernel
theorem i_3_5 : q_dec 3 5 = some (3, .ldc2_w 13, 3) := by decide +kernel
theorem i_3_8 : q_dec 3 8 = some (3, .ladd, 1) := by decide +kernel
theorem i_3_9 : q_dec 3 9 = some (3, .putfield 7, 3) := by decide +kernel
theorem i_3_12 : q_dec 3 12 = some (3, .aload_n 0, 1) := by decide +kernel
theorem i_3_13 : q_dec 3 13 = some (3, .aload_n 1, 1) := by decide +kernel
theorem i_3_14 : q_dec 3 14 = some (3, .invokespecial 15, 3) := by decide +kernel
theorem i_3_17 : q_dec 3 17 = some (3, .aload_n 1, 1) := by decide +kernel
theorem i_3_18 : q_dec 3 18 = some (3, .getfield 19, 3) := by decide +kernel
theorem i_3_21 : q_dec 3 21 = some (3, .getfield 23, 3) := by decide +kernel
theorem i_3_24 : q_dec 3 24 = some (3, .iadd, 1) := by decide +kernel
theorem i_3_25 : q_dec 3 25 = some (3, .ireturn, 1) := by decide +kernel
theorem i_4_0 : q_dec 4 0 = some (4, .aload_n 0, 1) := by decide +kernel
theorem i_4_1 : q_dec 4 1 = some (4, .getfield 9, 3) := by decide +kernel
theorem i_4_4 : q_dec 4 4 = some (4, .ifCond .lt (12), 3) := by decide +kernel
theorem i_4_7 : q_dec 4 7 = some (4, .aload_n 0, 1) := by decide +kernel
theorem i_4_8 : q_dec 4 8 = some (4, .getfield 9, 3) := by decide +kernel
theorem i_4_11 : q_dec 4 11 = some (4, .bipush 6, 2) := by decide +kernel
theorem i_4_13 : q_dec 4 13 = some (4, .if_icmp .lt (5), 3) := by decide +kernel
theorem i_4_16 : q_dec 4 16 = some (4, .iconst 0, 1) := by decide +kernel
theorem i_4_17 : q_dec 4 17 = some (4, .ireturn, 1) := by decide +kernel
theorem i_4_18 : q_dec 4 18 = some (4, .aload_n 0, 1) := by decide +kernel
theorem i_4_19 : q_dec 4 19 = some (4, .getfield 15, 3) := by decide +kernel
theorem i_4_22 : q_dec 4 22 = some (4, .aload_n 0, 1) := by decide +kernel
theorem i_4_23 : q_dec 4 23 = some (4, .getfield 9, 3) := by decide +kernel
theorem i_4_26 : q_dec 4 26 = some (4, .iload_n 1, 1) := by decide +kernel
theorem i_4_27 : q_dec 4 27 = some (4, .iastore, 1) := by decide +kernel
theorem i_4_28 : q_dec 4 28 = some (4, .aload_n 0, 1) := by decide +kernel
theorem i_4_29 : q_dec 4 29 = some (4, .getfield 19, 3) := by decide +kernel
theorem i_4_32 : q_dec 4 32 = some (4, .aload_n 0, 1) := by decide +kernel
theorem i_4_33 : q_dec 4 33 = some (4, .getfield 9, 3) := by decide +kernel
theorem i_4_36 : q_dec 4 36 = some (4, .iload_n 2, 1) := by decide +kernel
theorem i_4_37 : q_dec 4 37 = some (4, .iastore, 1) := by decide +kernel
theorem i_4_38 : q_dec 4 38 = some (4, .aload_n 0, 1) := by decide +kernel
theorem i_4_39 : q_dec 4 39 = some (4, .dup, 1) := by decide +kernel
theorem i_4_40 : q_dec 4 40 = some (4, .getfield 9, 3) := by decide +kernel
theorem i_4_43 : q_dec 4 43 = some (4, .iconst 1, 1) := by decide +kernel
theorem i_4_44 : q_dec 4 44 = some (4, .iadd, 1) := by decide +kernel
theorem i_4_45 : q_dec 4 45 = some (4, .putfield 9, 3) := by decide +kernel
theorem i_4_48 : q_dec 4 48 = some (4, .iconst 1, 1) := by decide +kernel
theorem i_4_49 : q_dec 4 49 = some (4, .ireturn, 1) := by decide +kernel
theorem i_5_0 : q_dec 5 0 = some (4, .iconst 0, 1) := by decide +kernel
theorem i_5_1 : q_dec 5 1 = some (4, .istore_n 2, 1) := by decide +kernel
theorem i_5_2 : q_dec 5 2 = some (4, .iload_n 2, 1) := by decide +kernel
theorem i_5_3 : q_dec 5 3 = some (4, .aload_n 0, 1) := by decide +kernel
theorem i_5_4 : q_dec 5 4 = some (4, .getfield 9, 3) := by decide +kernel
theorem i_5_7 : q_dec 5 7 = some (4, .if_icmp .ge (84), 3) := by decide +kernel
theorem i_5_10 : q_dec 5 10 = some (4, .iload_n 2, 1) := by decide +kernel
theorem i_5_11 : q_dec 5 11 = some (4, .bipush 6, 2) := by decide +kernel
theorem i_5_13 : q_dec 5 13 = some (4, .if_icmp .ge (78), 3) := by decide +kernel
theorem i_5_16 : q_dec 5 16 = some (4, .aload_n 1, 1) := by decide +kernel
theorem i_5_17 : q_dec 5 17 = some (4, .aload_n 0, 1) := by decide +kernel
theorem i_5_18 : q_dec 5 18 = some (4, .getfield 19, 3) := by decide +kernel
theorem i_5_21 : q_dec 5 21 = some (4, .iload_n 2, 1) := by decide +kernel
theorem i_5_22 : q_dec 5 22 = some (4, .iaload, 1) := by decide +kernel
theorem i_5_23 : q_dec 5 23 = some (4, .invokevirtual 28, 3) := by decide +kernel
theorem i_5_26 : q_dec 5 26 = some (4, .aload_n 0, 1) := by decide +kernel
theorem i_5_27 : q_dec 5 27 = some (4, .getfield 22, 3) := by decide +kernel
theorem i_5_30 : q_dec 5 30 = some (4, .iload_n 2, 1) := by decide +kernel
theorem i_5_31 : q_dec 5 31 = some (4, .aload_n 1, 1) := by decide +kernel
theorem i_5_32 : q_dec 5 32 = some (4, .aload_n 0, 1) := by decide +kernel
theorem i_5_33 : q_dec 5 33 = some (4, .getfield 15, 3) := by decide +kernel
theorem i_5_36 : q_dec 5 36 = some (4, .iload_n 2, 1) := by decide +kernel
theorem i_5_37 : q_dec 5 37 = some (4, .iaload, 1) := by decide +kernel
theorem i_5_38 : q_dec 5 38 = some (4, .invokevirtual 34, 3) := by decide +kernel
theorem i_5_41 : q_dec 5 41 = some (4, .iastore, 1) := by decide +kernel
theorem i_5_42 : q_dec 5 42 = some (4, .aload_n 0, 1) := by decide +kernel
theorem i_5_43 : q_dec 5 43 = some (4, .getfield 22, 3) := by decide +kernel
theorem i_5_46 : q_dec 5 46 = some (4, .iload_n 2, 1) := by decide +kernel
theorem i_5_47 : q_dec 5 47 = some (4, .iaload, 1) := by decide +kernel
theorem i_5_48 : q_dec 5 48 = some (4, .ldc 38, 2) := by decide +kernel
theorem i_5_50 : q_dec 5 50 = some (4, .if_icmp .lt (5), 3) := by decide +kernel
theorem i_5_53 : q_dec 5 53 = some (4, .iconst 0, 1) := by decide +kernel
theorem i_5_54 : q_dec 5 54 = some (4, .ireturn, 1) := by decide +kernel
theorem i_5_55 : q_dec 5 55 = some (4, .iconst 0, 1) := by decide +kernel
theorem i_5_56 : q_dec 5 56 = some (4, .istore_n 3, 1) := by decide +kernel
theorem i_5_57 : q_dec 5 57 = some (4, .iload_n 3, 1) := by decide +kernel
theorem i_5_58 : q_dec 5 58 = some (4, .bipush 20, 2) := by decide +kernel
theorem i_5_60 : q_dec 5 60 = some (4, .if_icmp .ge (25), 3) := by decide +kernel
theorem i_5_63 : q_dec 5 63 = some (4, .aload_n 0, 1) := by decide +kernel
theorem i_5_64 : q_dec 5 64 = some (4, .getfield 25, 3) := by decide +kernel
theorem i_5_67 : q_dec 5 67 = some (4, .iload_n 2, 1) := by decide +kernel
theorem i_5_68 : q_dec 5 68 = some (4, .bipush 20, 2) := by decide +kernel
theorem i_5_70 : q_dec 5 70 = some (4, .imul, 1) := by decide +kernel
theorem i_5_71 : q_dec 5 71 = some (4, .iload_n 3, 1) := by decide +kernel
theorem i_5_72 : q_dec 5 72 = some (4, .iadd, 1) := by decide +kernel
theorem i_5_73 : q_dec 5 73 = some (4, .aload_n 1, 1) := by decide +kernel
theorem i_5_74 : q_dec 5 74 = some (4, .iload_n 3, 1) := by decide +kernel
theorem i_5_75 : q_dec 5 75 = some (4, .invokevirtual 34, 3) := by decide +kernel
theorem i_5_78 : q_dec 5 78 = some (4, .iastore, 1) := by decide +kernel
theorem i_5_79 : q_dec 5 79 = some (4, .iinc 3 1, 3) := by decide +kernel
theorem i_5_82 : q_dec 5 82 = some (4, .goto (-25), 3) := by decide +kernel
theorem i_5_85 : q_dec 5 85 = some (4, .iinc 2 1, 3) := by decide +kernel
theorem i_5_88 : q_dec 5 88 = some (4, .goto (-86), 3) := by decide +kernel
theorem i_5_91 : q_dec 5 91 = some (4, .iconst 1, 1) := by decide +kernel
theorem i_5_92 : q_dec 5 92 = some (4, .ireturn, 1) := by decide +kernel
theorem i_6_0 : q_dec 6 0 = some (4, .aload_n 2, 1) := by decide +kernel
theorem i_6_1 : q_dec 6 1 = some (4, .iload_n 1, 1) := by decide +kernel
theorem i_6_2 : q_dec 6 2 = some (4, .invokevirtual 28, 3) := by decide +kernel
theorem i_6_5 : q_dec 6 5 = some (4, .iconst 0, 1) := by decide +kernel
theorem i_6_6 : q_dec 6 6 = some (4, .istore_n 3, 1) := by decide +kernel
theorem i_6_7 : q_dec 6 7 = some (4, .iconst 0, 1) := by decide +kernel
theorem i_6_8 : q_dec 6 8 = some (4, .istore 4, 2) := by decide +kernel
theorem i_6_10 : q_dec 6 10 = some (4, .iload 4, 2) := by decide +kernel
theorem i_6_12 : q_dec 6 12 = some (4, .aload_n 0, 1) := by decide +kernel
theorem i_6_13 : q_dec 6 13 = some (4, .getfield 9, 3) := by decide +kernel
theorem i_6_16 : q_dec 6 16 = some (4, .if_icmp .ge (73), 3) := by decide +kernel
theorem i_6_19 : q_dec 6 19 = some (4, .iload 4, 2) := by decide +kernel
theorem i_6_21 : q_dec 6 21 = some (4, .bipush 6, 2) := by decide +kernel
theorem i_6_23 : q_dec 6 23 = some (4, .if_icmp .ge (66), 3) := by decide +kernel
theorem i_6_26 : q_dec 6 26 = some (4, .aload_n 2, 1) := by decide +kernel
theorem i_6_27 : q_dec 6 27 = some (4, .aload_n 0, 1) := by decide +kernel
theorem i_6_28 : q_dec 6 28 = some (4, .getfield 15, 3) := by decide +kernel
theorem i_6_31 : q_dec 6 31 = some (4, .iload 4, 2) := by decide +kernel
theorem i_6_33 : q_dec 6 33 = some (4, .iaload, 1) := by decide +kernel
theorem i_6_34 : q_dec 6 34 = some (4, .invokevirtual 34, 3) := by decide +kernel
theorem i_6_37 : q_dec 6 37 = some (4, .istore 5, 2) := by decide +kernel
theorem i_6_39 : q_dec 6 39 = some (4, .iload 5, 2) := by decide +kernel
theorem i_6_41 : q_dec 6 41 = some (4, .ldc 38, 2) := by decide +kernel
theorem i_6_43 : q_dec 6 43 = some (4, .if_icmp .ge (21), 3) := by decide +kernel
theorem i_6_46 : q_dec 6 46 = some (4, .iload 5, 2) := by decide +kernel
theorem i_6_48 : q_dec 6 48 = some (4, .aload_n 0, 1) := by decide +kernel
theorem i_6_49 : q_dec 6 49 = some (4, .getfield 25, 3) := by decide +kernel
theorem i_6_52 : q_dec 6 52 = some (4, .iload 4, 2) := by decide +kernel
theorem i_6_54 : q_dec 6 54 = some (4, .bipush 20, 2) := by decide +kernel
theorem i_6_56 : q_dec 6 56 = some (4, .imul, 1) := by decide +kernel
theorem i_6_57 : q_dec 6 57 = some (4, .iload_n 1, 1) := by decide +kernel
theorem i_6_58 : q_dec 6 58 = some (4, .iadd, 1) := by decide +kernel
theorem i_6_59 : q_dec 6 59 = some (4, .iaload, 1) := by decide +kernel
theorem i_6_60 : q_dec 6 60 = some (4, .iadd, 1) := by decide +kernel
theorem i_6_61 : q_dec 6 61 = some (4, .goto 5, 3) := by decide +kernel
theorem i_6_64 : q_dec 6 64 = some (4, .ldc 38, 2) := by decide +kernel
theorem i_6_66 : q_dec 6 66 = some (4, .istore 6, 2) := by decide +kernel
theorem i_6_68 : q_dec 6 68 = some (4, .iload_n 3, 1) := by decide +kernel
theorem i_6_69 : q_dec 6 69 = some (4, .aload_n 0, 1) := by decide +kernel
theorem i_6_70 : q_dec 6 70 = some (4, .getfield 22, 3) := by decide +kernel
theorem i_6_73 : q_dec 6 73 = some (4, .iload 4, 2) := by decide +kernel
theorem i_6_75 : q_dec 6 75 = some (4, .iaload, 1) := by decide +kernel
theorem i_6_76 : q_dec 6 76 = some (4, .iload 6, 2) := by decide +kernel
theorem i_6_78 : q_dec 6 78 = some (4, .invokestatic 39, 3) := by decide +kernel
theorem i_6_81 : q_dec 6 81 = some (4, .iadd, 1) := by decide +kernel
theorem i_6_82 : q_dec 6 82 = some (4, .istore_n 3, 1) := by decide +kernel
theorem i_6_83 : q_dec 6 83 = some (4, .iinc 4 1, 3) := by decide +kernel
theorem i_6_86 : q_dec 6 86 = some (4, .goto (-76), 3) := by decide +kernel
theorem i_6_89 : q_dec 6 89 = some (4, .iload_n 3, 1) := by decide +kernel
theorem i_6_90 : q_dec 6 90 = some (4, .ireturn, 1) := by decide +kernel
theorem i_7_0 : q_dec 7 0 = some (5, .aload_n 1, 1) := by decide +kernel
theorem i_7_1 : q_dec 7 1 = some (5, .dup, 1) := by decide +kernel
theorem i_7_2 : q_dec 7 2 = some (5, .getfield 7, 3) := by decide +kernel
theorem i_7_5 : q_dec 7 5 = some (5, .ldc2_w 13, 3) := by decide +kernel
theorem i_7_8 : q_dec 7 8 = some (5, .ladd, 1) := by decide +kernel
theorem i_7_9 : q_dec 7 9 = some (5, .putfield 7, 3) := by decide +kernel
theorem i_7_12 : q_dec 7 12 = some (5, .aload_n 0, 1) := by decide +kernel
theorem i_7_13 : q_dec 7 13 = some (5, .aload_n 1, 1) := by decide +kernel
theorem i_7_14 : q_dec 7 14 = some (5, .invokespecial 15, 3) := by decide +kernel
theorem i_7_17 : q_dec 7 17 = some (5, .aload_n 1, 1) := by decide +kernel
theorem i_7_18 : q_dec 7 18 = some (5, .getfield 19, 3) := by decide +kernel
theorem i_7_21 : q_dec 7 21 = some (5, .getfield 23, 3) := by decide +kernel
theorem i_7_24 : q_dec 7 24 = some (5, .iconst 0, 1) := by decide +kernel
theorem i_7_25 : q_dec 7 25 = some (5, .invokestatic 29, 3) := by decide +kernel
theorem i_7_28 : q_dec 7 28 = some (5, .iadd, 1) := by decide +kernel
theorem i_7_29 : q_dec 7 29 = some (5, .ireturn, 1) := by decide +kernel
theorem i_8_0 : q_dec 8 0 = some (6, .aload_n 0, 1) := by decide +kernel
theorem i_8_1 : q_dec 8 1 = some (6, .getfield 9, 3) := by decide +kernel
theorem i_8_4 : q_dec 8 4 = some (6, .iload_n 3, 1) := by decide +kernel
theorem i_8_5 : q_dec 8 5 = some (6, .iadd, 1) := by decide +kernel
theorem i_8_6 : q_dec 8 6 = some (6, .sipush 200, 3) := by decide +kernel
theorem i_8_9 : q_dec 8 9 = some (6, .if_icmp .le (6), 3) := by decide +kernel
theorem i_8_12 : q_dec 8 12 = some (6, .bipush (-3), 2) := by decide +kernel
theorem i_8_14 : q_dec 8 14 = some (6, .ireturn, 1) := by decide +kernel
theorem i_8_15 : q_dec 8 15 = some (6, .iload_n 3, 1) := by decide +kernel
theorem i_8_16 : q_dec 8 16 = some (6, .iconst 1, 1) := by decide +kernel
theorem i_8_17 : q_dec 8 17 = some (6, .isub, 1) := by decide +kernel
theorem i_8_18 : q_dec 8 18 = some (6, .istore 4, 2) := by decide +kernel
theorem i_8_20 : q_dec 8 20 = some (6, .iload 4, 2) := by decide +kernel
theorem i_8_22 : q_dec 8 22 = some (6, .ifCond .lt (37), 3) := by decide +kernel
theorem i_8_25 : q_dec 8 25 = some (6, .aload_n 0, 1) := by decide +kernel
theorem i_8_26 : q_dec 8 26 = some (6, .getfield 15, 3) := by decide +kernel
theorem i_8_29 : q_dec 8 29 = some (6, .aload_n 0, 1) := by decide +kernel
theorem i_8_30 : q_dec 8 30 = some (6, .getfield 9, 3) := by decide +kernel
theorem i_8_33 : q_dec 8 33 = some (6, .lload_n 1, 1) := by decide +kernel
theorem i_8_34 : q_dec 8 34 = some (6, .bipush 8, 2) := by decide +kernel
theorem i_8_36 : q_dec 8 36 = some (6, .iload 4, 2) := by decide +kernel
theorem i_8_38 : q_dec 8 38 = some (6, .imul, 1) := by decide +kernel
theorem i_8_39 : q_dec 8 39 = some (6, .lshr, 1) := by decide +kernel
theorem i_8_40 : q_dec 8 40 = some (6, .l2i, 1) := by decide +kernel
theorem i_8_41 : q_dec 8 41 = some (6, .i2b, 1) := by decide +kernel
theorem i_8_42 : q_dec 8 42 = some (6, .bastore, 1) := by decide +kernel
theorem i_8_43 : q_dec 8 43 = some (6, .aload_n 0, 1) := by decide +kernel
theorem i_8_44 : q_dec 8 44 = some (6, .dup, 1) := by decide +kernel
theorem i_8_45 : q_dec 8 45 = some (6, .getfield 9, 3) := by decide +kernel
theorem i_8_48 : q_dec 8 48 = some (6, .iconst 1, 1) := by decide +kernel
theorem i_8_49 : q_dec 8 49 = some (6, .iadd, 1) := by decide +kernel
theorem i_8_50 : q_dec 8 50 = some (6, .putfield 9, 3) := by decide +kernel
theorem i_8_53 : q_dec 8 53 = some (6, .iinc 4 (-1), 3) := by decide +kernel
theorem i_8_56 : q_dec 8 56 = some (6, .goto (-36), 3) := by decide +kernel
theorem i_8_59 : q_dec 8 59 = some (6, .aload_n 0, 1) := by decide +kernel
theorem i_8_60 : q_dec 8 60 = some (6, .getfield 9, 3) := by decide +kernel
theorem i_8_63 : q_dec 8 63 = some (6, .ireturn, 1) := by decide +kernel
theorem i_9_0 : q_dec 9 0 = some (6, .aload_n 1, 1) := by decide +kernel
theorem i_9_1 : q_dec 9 1 = some (6, .invokevirtual 19, 3) := by decide +kernel
theorem i_9_4 : q_dec 9 4 = some (6, .aload_n 0, 1) := by decide +kernel
theorem i_9_5 : q_dec 9 5 = some (6, .iconst 0, 1) := by decide +kernel
theorem i_9_6 : q_dec 9 6 = some (6, .putfield 24, 3) := by decide +kernel
theorem i_9_9 : q_dec 9 9 = some (6, .aload_n 0, 1) := by decide +kernel
theorem i_9_10 : q_dec 9 10 = some (6, .iconst 0, 1) := by decide +kernel
theorem i_9_11 : q_dec 9 11 = some (6, .putfield 27, 3) := by decide +kernel
theorem i_9_14 : q_dec 9 14 = some (6, .aload_n 0, 1) := by decide +kernel
theorem i_9_15 : q_dec 9 15 = some (6, .iconst 0, 1) := by decide +kernel
theorem i_9_16 : q_dec 9 16 = some (6, .putfield 31, 3) := by decide +kernel
theorem i_9_19 : q_dec 9 19 = some (6, .aload_n 0, 1) := by decide +kernel
theorem i_9_20 : q_dec 9 20 = some (6, .iconst 0, 1) := by decide +kernel
theorem i_9_21 : q_dec 9 21 = some (6, .putfield 34, 3) := by decide +kernel
theorem i_9_24 : q_dec 9 24 = some (6, .aload_n 0, 1) := by decide +kernel
theorem i_9_25 : q_dec 9 25 = some (6, .invokevirtual 37, 3) := by decide +kernel
theorem i_9_28 : q_dec 9 28 = some (6, .iconst 0, 1) := by decide +kernel
theorem i_9_29 : q_dec 9 29 = some (6, .istore_n 2, 1) := by decide +kernel
theorem i_9_30 : q_dec 9 30 = some (6, .aload_n 0, 1) := by decide +kernel
theorem i_9_31 : q_dec 9 31 = some (6, .getfield 40, 3) := by decide +kernel
theorem i_9_34 : q_dec 9 34 = some (6, .iconst 1, 1) := by decide +kernel
theorem i_9_35 : q_dec 9 35 = some (6, .if_icmp .eq (150), 3) := by decide +kernel
theorem i_9_38 : q_dec 9 38 = some (6, .iload_n 2, 1) := by decide +kernel
theorem i_9_39 : q_dec 9 39 = some (6, .sipush 200, 3) := by decide +kernel
theorem i_9_42 : q_dec 9 42 = some (6, .if_icmp .ge (143), 3) := by decide +kernel
theorem i_9_45 : q_dec 9 45 = some (6, .iconst 0, 1) := by decide +kernel
theorem i_9_46 : q_dec 9 46 = some (6, .istore_n 3, 1) := by decide +kernel
theorem i_9_47 : q_dec 9 47 = some (6, .aload_n 0, 1) := by decide +kernel
theorem i_9_48 : q_dec 9 48 = some (6, .getfield 40, 3) := by decide +kernel
theorem i_9_51 : q_dec 9 51 = some (6, .tableswitch (105) (4) (9) #[37, 58, 68, 78, 87, 96], 37) := by decide +kernel
theorem i_9_88 : q_dec 9 88 = some (6, .iload_n 2, 1) := by decide +kernel
theorem i_9_89 : q_dec 9 89 = some (6, .ifCond .ne (15), 3) := by decide +kernel
theorem i_9_92 : q_dec 9 92 = some (6, .aload_n 0, 1) := by decide +kernel
theorem i_9_93 : q_dec 9 93 = some (6, .aload_n 1, 1) := by decide +kernel
theorem i_9_94 : q_dec 9 94 = some (6, .invokevirtual 43, 3) := by decide +kernel
theorem i_9_97 : q_dec 9 97 = some (6, .ifCond .eq (7), 3) := by decide +kernel
theorem i_9_100 : q_dec 9 100 = some (6, .iconst 1, 1) := by decide +kernel
theorem i_9_101 : q_dec 9 101 = some (6, .goto 4, 3) := by decide +kernel
theorem i_9_104 : q_dec 9 104 = some (6, .iconst 0, 1) := by decide +kernel
theorem i_9_105 : q_dec 9 105 = some (6, .istore_n 3, 1) := by decide +kernel
theorem i_9_106 : q_dec 9 106 = some (6, .goto 50, 3) := by decide +kernel
theorem i_9_109 : q_dec 9 109 = some (6, .aload_n 0, 1) := by decide +kernel
theorem i_9_110 : q_dec 9 110 = some (6, .aload_n 1, 1) := by decide +kernel
theorem i_9_111 : q_dec 9 111 = some (6, .iconst 1, 1) := by decide +kernel
theorem i_9_112 : q_dec 9 112 = some (6, .invokevirtual 47, 3) := by decide +kernel
theorem i_9_115 : q_dec 9 115 = some (6, .istore_n 3, 1) := by decide +kernel
theorem i_9_116 : q_dec 9 116 = some (6, .goto 40, 3) := by decide +kernel
theorem i_9_119 : q_dec 9 119 = some (6, .aload_n 0, 1) := by decide +kernel
theorem i_9_120 : q_dec 9 120 = some (6, .aload_n 1, 1) := by decide +kernel
theorem i_9_121 : q_dec 9 121 = some (6, .iconst 2, 1) := by decide +kernel
theorem i_9_122 : q_dec 9 122 = some (6, .invokevirtual 47, 3) := by decide +kernel
theorem i_9_125 : q_dec 9 125 = some (6, .istore_n 3, 1) := by decide +kernel
theorem i_9_126 : q_dec 9 126 = some (6, .goto 30, 3) := by decide +kernel
theorem i_9_129 : q_dec 9 129 = some (6, .aload_n 0, 1) := by decide +kernel
theorem i_9_130 : q_dec 9 130 = some (6, .aload_n 1, 1) := by decide +kernel
theorem i_9_131 : q_dec 9 131 = some (6, .invokevirtual 51, 3) := by decide +kernel
theorem i_9_134 : q_dec 9 134 = some (6, .istore_n 3, 1) := by decide +kernel
theorem i_9_135 : q_dec 9 135 = some (6, .goto 21, 3) := by decide +kernel
theorem i_9_138 : q_dec 9 138 = some (6, .aload_n 0, 1) := by decide +kernel
theorem i_9_139 : q_dec 9 139 = some (6, .aload_n 1, 1) := by decide +kernel
theorem i_9_140 : q_dec 9 140 = some (6, .invokevirtual 54, 3) := by decide +kernel
theorem i_9_143 : q_dec 9 143 = some (6, .istore_n 3, 1) := by decide +kernel
theorem i_9_144 : q_dec 9 144 = some (6, .goto 12, 3) := by decide +kernel
theorem i_9_147 : q_dec 9 147 = some (6, .aload_n 0, 1) := by decide +kernel
theorem i_9_148 : q_dec 9 148 = some (6, .aload_n 1, 1) := by decide +kernel
theorem i_9_149 : q_dec 9 149 = some (6, .invokevirtual 57, 3) := by decide +kernel
theorem i_9_152 : q_dec 9 152 = some (6, .istore_n 3, 1) := by decide +kernel
theorem i_9_153 : q_dec 9 153 = some (6, .goto 3, 3) := by decide +kernel
theorem i_9_156 : q_dec 9 156 = some (6, .iload_n 3, 1) := by decide +kernel
theorem i_9_157 : q_dec 9 157 = some (6, .ifCond .eq (10), 3) := by decide +kernel
theorem i_9_160 : q_dec 9 160 = some (6, .aload_n 0, 1) := by decide +kernel
theorem i_9_161 : q_dec 9 161 = some (6, .invokevirtual 60, 3) := by decide +kernel
theorem i_9_164 : q_dec 9 164 = some (6, .ifCond .ne (11), 3) := by decide +kernel
theorem i_9_167 : q_dec 9 167 = some (6, .bipush (-10), 2) := by decide +kernel
theorem i_9_169 : q_dec 9 169 = some (6, .aload_n 0, 1) := by decide +kernel
theorem i_9_170 : q_dec 9 170 = some (6, .getfield 64, 3) := by decide +kernel
theorem i_9_173 : q_dec 9 173 = some (6, .isub, 1) := by decide +kernel
theorem i_9_174 : q_dec 9 174 = some (6, .ireturn, 1) := by decide +kernel
theorem i_9_175 : q_dec 9 175 = some (6, .iinc 2 1, 3) := by decide +kernel
theorem i_9_178 : q_dec 9 178 = some (6, .aload_n 0, 1) := by decide +kernel
theorem i_9_179 : q_dec 9 179 = some (6, .invokevirtual 37, 3) := by decide +kernel
theorem i_9_182 : q_dec 9 182 = some (6, .goto (-152), 3) := by decide +kernel
theorem i_9_185 : q_dec 9 185 = some (6, .iload_n 2, 1) := by decide +kernel
theorem i_9_186 : q_dec 9 186 = some (6, .ireturn, 1) := by decide +kernel
theorem i_10_0 : q_dec 10 0 = some (6, .aload_n 0, 1) := by decide +kernel
theorem i_10_1 : q_dec 10 1 = some (6, .getfield 24, 3) := by decide +kernel
theorem i_10_4 : q_dec 10 4 = some (6, .aload_n 0, 1) := by decide +kernel
theorem i_10_5 : q_dec 10 5 = some (6, .getfield 9, 3) := by decide +kernel
theorem i_10_8 : q_dec 10 8 = some (6, .if_icmp .ge (30), 3) := by decide +kernel
theorem i_10_11 : q_dec 10 11 = some (6, .aload_n 0, 1) := by decide +kernel
theorem i_10_12 : q_dec 10 12 = some (6, .getfield 15, 3) := by decide +kernel
theorem i_10_15 : q_dec 10 15 = some (6, .aload_n 0, 1) := by decide +kernel
theorem i_10_16 : q_dec 10 16 = some (6, .getfield 24, 3) := by decide +kernel
theorem i_10_19 : q_dec 10 19 = some (6, .baload, 1) := by decide +kernel
theorem i_10_20 : q_dec 10 20 = some (6, .bipush 32, 2) := by decide +kernel
theorem i_10_22 : q_dec 10 22 = some (6, .if_icmp .ne (16), 3) := by decide +kernel
theorem i_10_25 : q_dec 10 25 = some (6, .aload_n 0, 1) := by decide +kernel
theorem i_10_26 : q_dec 10 26 = some (6, .dup, 1) := by decide +kernel
theorem i_10_27 : q_dec 10 27 = some (6, .getfield 24, 3) := by decide +kernel
theorem i_10_30 : q_dec 10 30 = some (6, .iconst 1, 1) := by decide +kernel
theorem i_10_31 : q_dec 10 31 = some (6, .iadd, 1) := by decide +kernel
theorem i_10_32 : q_dec 10 32 = some (6, .putfield 24, 3) := by decide +kernel
theorem i_10_35 : q_dec 10 35 = some (6, .goto (-35), 3) := by decide +kernel
theorem i_10_38 : q_dec 10 38 = some (6, .aload_n 0, 1) := by decide +kernel
theorem i_10_39 : q_dec 10 39 = some (6, .aload_n 0, 1) := by decide +kernel
theorem i_10_40 : q_dec 10 40 = some (6, .getfield 24, 3) := by decide +kernel
theorem i_10_43 : q_dec 10 43 = some (6, .putfield 64, 3) := by decide +kernel
theorem i_10_46 : q_dec 10 46 = some (6, .aload_n 0, 1) := by decide +kernel
theorem i_10_47 : q_dec 10 47 = some (6, .getfield 24, 3) := by decide +kernel
theorem i_10_50 : q_dec 10 50 = some (6, .aload_n 0, 1) := by decide +kernel
theorem i_10_51 : q_dec 10 51 = some (6, .getfield 9, 3) := by decide +kernel
theorem i_10_54 : q_dec 10 54 = some (6, .if_icmp .lt (11), 3) := by decide +kernel
theorem i_10_57 : q_dec 10 57 = some (6, .aload_n 0, 1) := by decide +kernel
theorem i_10_58 : q_dec 10 58 = some (6, .iconst 1, 1) := by decide +kernel
theorem i_10_59 : q_dec 10 59 = some (6, .putfield 40, 3) := by decide +kernel
theorem i_10_62 : q_dec 10 62 = some (6, .goto 84, 3) := by decide +kernel
theorem i_10_65 : q_dec 10 65 = some (6, .aload_n 0, 1) := by decide +kernel
theorem i_10_66 : q_dec 10 66 = some (6, .getfield 15, 3) := by decide +kernel
theorem i_10_69 : q_dec 10 69 = some (6, .aload_n 0, 1) := by decide +kernel
theorem i_10_70 : q_dec 10 70 = some (6, .getfield 24, 3) := by decide +kernel
theorem i_10_73 : q_dec 10 73 = some (6, .baload, 1) := by decide +kernel
theorem i_10_74 : q_dec 10 74 = some (6, .bipush 59, 2) := by decide +kernel
theorem i_10_76 : q_dec 10 76 = some (6, .if_icmp .ne (21), 3) := by decide +kernel
theorem i_10_79 : q_dec 10 79 = some (6, .aload_n 0, 1) := by decide +kernel
theorem i_10_80 : q_dec 10 80 = some (6, .iconst 2, 1) := by decide +kernel
theorem i_10_81 : q_dec 10 81 = some (6, .putfield 40, 3) := by decide +kernel
theorem i_10_84 : q_dec 10 84 = some (6, .aload_n 0, 1) := by decide +kernel
theorem i_10_85 : q_dec 10 85 = some (6, .dup, 1) := by decide +kernel
theorem i_10_86 : q_dec 10 86 = some (6, .getfield 24, 3) := by decide +kernel
theorem i_10_89 : q_dec 10 89 = some (6, .iconst 1, 1) := by decide +kernel
theorem i_10_90 : q_dec 10 90 = some (6, .iadd, 1) := by decide +kernel
theorem i_10_91 : q_dec 10 91 = some (6, .putfield 24, 3) := by decide +kernel
theorem i_10_94 : q_dec 10 94 = some (6, .goto 52, 3) := by decide +kernel
theorem i_10_97 : q_dec 10 97 = some (6, .aload_n 0, 1) := by decide +kernel
theorem i_10_98 : q_dec 10 98 = some (6, .getfield 15, 3) := by decide +kernel
theorem i_10_101 : q_dec 10 101 = some (6, .aload_n 0, 1) := by decide +kernel
theorem i_10_102 : q_dec 10 102 = some (6, .getfield 24, 3) := by decide +kernel
theorem i_10_105 : q_dec 10 105 = some (6, .baload, 1) := by decide +kernel
theorem i_10_106 : q_dec 10 106 = some (6, .invokestatic 107, 3) := by decide +kernel
theorem i_10_109 : q_dec 10 109 = some (6, .ifCond .eq (10), 3) := by decide +kernel
theorem i_10_112 : q_dec 10 112 = some (6, .aload_n 0, 1) := by decide +kernel
theorem i_10_113 : q_dec 10 113 = some (6, .invokevirtual 111, 3) := by decide +kernel
theorem i_10_116 : q_dec 10 116 = some (6, .goto 30, 3) := by decide +kernel
theorem i_10_119 : q_dec 10 119 = some (6, .aload_n 0, 1) := by decide +kernel
theorem i_10_120 : q_dec 10 120 = some (6, .getfield 15, 3) := by decide +kernel
theorem i_10_123 : q_dec 10 123 = some (6, .aload_n 0, 1) := by decide +kernel
theorem i_10_124 : q_dec 10 124 = some (6, .getfield 24, 3) := by decide +kernel
theorem i_10_127 : q_dec 10 127 = some (6, .baload, 1) := by decide +kernel
theorem i_10_128 : q_dec 10 128 = some (6, .invokestatic 114, 3) := by decide +kernel
theorem i_10_131 : q_dec 10 131 = some (6, .ifCond .eq (10), 3) := by decide +kernel
theorem i_10_134 : q_dec 10 134 = some (6, .aload_n 0, 1) := by decide +kernel
theorem i_10_135 : q_dec 10 135 = some (6, .invokevirtual 117, 3) := by decide +kernel
theorem i_10_138 : q_dec 10 138 = some (6, .goto 8, 3) := by decide +kernel
theorem i_10_141 : q_dec 10 141 = some (6, .aload_n 0, 1) := by decide +kernel
theorem i_10_142 : q_dec 10 142 = some (6, .iconst 0, 1) := by decide +kernel
theorem i_10_143 : q_dec 10 143 = some (6, .putfield 40, 3) := by decide +kernel
theorem i_10_146 : q_dec 10 146 = some (6, .return_, 1) := by decide +kernel
theorem i_11_0 : q_dec 11 0 = some (6, .iload_n 0, 1) := by decide +kernel
theorem i_11_1 : q_dec 11 1 = some (6, .bipush 97, 2) := by decide +kernel
theorem i_11_3 : q_dec 11 3 = some (6, .if_icmp .lt (13), 3) := by decide +kernel
theorem i_11_6 : q_dec 11 6 = some (6, .iload_n 0, 1) := by decide +kernel
theorem i_11_7 : q_dec 11 7 = some (6, .bipush 122, 2) := by decide +kernel
theorem i_11_9 : q_dec 11 9 = some (6, .if_icmp .gt (7), 3) := by decide +kernel
theorem i_11_12 : q_dec 11 12 = some (6, .iconst 1, 1) := by decide +kernel
theorem i_11_13 : q_dec 11 13 = some (6, .goto 4, 3) := by decide +kernel
theorem i_11_16 : q_dec 11 16 = some (6, .iconst 0, 1) := by decide +kernel
theorem i_11_17 : q_dec 11 17 = some (6, .ireturn, 1) := by decide +kernel
theorem i_12_0 : q_dec 12 0 = some (6, .aload_n 0, 1) := by decide +kernel
theorem i_12_1 : q_dec 12 1 = some (6, .getfield 24, 3) := by decide +kernel
theorem i_12_4 : q_dec 12 4 = some (6, .aload_n 0, 1) := by decide +kernel
theorem i_12_5 : q_dec 12 5 = some (6, .getfield 9, 3) := by decide +kernel
theorem i_12_8 : q_dec 12 8 = some (6, .if_icmp .ge (31), 3) := by decide +kernel
theorem i_12_11 : q_dec 12 11 = some (6, .aload_n 0, 1) := by decide +kernel
theorem i_12_12 : q_dec 12 12 = some (6, .getfield 15, 3) := by decide +kernel
theorem i_12_15 : q_dec 12 15 = some (6, .aload_n 0, 1) := by decide +kernel
theorem i_12_16 : q_dec 12 16 = some (6, .getfield 24, 3) := by decide +kernel
theorem i_12_19 : q_dec 12 19 = some (6, .baload, 1) := by decide +kernel
theorem i_12_20 : q_dec 12 20 = some (6, .invokestatic 107, 3) := by decide +kernel
theorem i_12_23 : q_dec 12 23 = some (6, .ifCond .eq (16), 3) := by decide +kernel
theorem i_12_26 : q_dec 12 26 = some (6, .aload_n 0, 1) := by decide +kernel
theorem i_12_27 : q_dec 12 27 = some (6, .dup, 1) := by decide +kernel
theorem i_12_28 : q_dec 12 28 = some (6, .getfield 24, 3) := by decide +kernel
theorem i_12_31 : q_dec 12 31 = some (6, .iconst 1, 1) := by decide +kernel
theorem i_12_32 : q_dec 12 32 = some (6, .iadd, 1) := by decide +kernel
theorem i_12_33 : q_dec 12 33 = some (6, .putfield 24, 3) := by decide +kernel
theorem i_12_36 : q_dec 12 36 = some (6, .goto (-36), 3) := by decide +kernel
theorem i_12_39 : q_dec 12 39 = some (6, .aload_n 0, 1) := by decide +kernel
theorem i_12_40 : q_dec 12 40 = some (6, .ldc 120, 2) := by decide +kernel
theorem i_12_42 : q_dec 12 42 = some (6, .invokevirtual 122, 3) := by decide +kernel
theorem i_12_45 : q_dec 12 45 = some (6, .ifCond .eq (11), 3) := by decide +kernel
theorem i_12_48 : q_dec 12 48 = some (6, .aload_n 0, 1) := by decide +kernel
theorem i_12_49 : q_dec 12 49 = some (6, .iconst 4, 1) := by decide +kernel
theorem i_12_50 : q_dec 12 50 = some (6, .putfield 40, 3) := by decide +kernel
theorem i_12_53 : q_dec 12 53 = some (6, .goto 97, 3) := by decide +kernel
theorem i_12_56 : q_dec 12 56 = some (6, .aload_n 0, 1) := by decide +kernel
theorem i_12_57 : q_dec 12 57 = some (6, .ldc 126, 2) := by decide +kernel
theorem i_12_59 : q_dec 12 59 = some (6, .invokevirtual 122, 3) := by decide +kernel
theorem i_12_62 : q_dec 12 62 = some (6, .ifCond .eq (11), 3) := by decide +kernel
theorem i_12_65 : q_dec 12 65 = some (6, .aload_n 0, 1) := by decide +kernel
theorem i_12_66 : q_dec 12 66 = some (6, .iconst 5, 1) := by decide +kernel
theorem i_12_67 : q_dec 12 67 = some (6, .putfield 40, 3) := by decide +kernel
theorem i_12_70 : q_dec 12 70 = some (6, .goto 80, 3) := by decide +kernel
theorem i_12_73 : q_dec 12 73 = some (6, .aload_n 0, 1) := by decide +kernel
theorem i_12_74 : q_dec 12 74 = some (6, .ldc 128, 2) := by decide +kernel
theorem i_12_76 : q_dec 12 76 = some (6, .invokevirtual 122, 3) := by decide +kernel
theorem i_12_79 : q_dec 12 79 = some (6, .ifCond .eq (12), 3) := by decide +kernel
theorem i_12_82 : q_dec 12 82 = some (6, .aload_n 0, 1) := by decide +kernel
theorem i_12_83 : q_dec 12 83 = some (6, .bipush 6, 2) := by decide +kernel
theorem i_12_85 : q_dec 12 85 = some (6, .putfield 40, 3) := by decide +kernel
theorem i_12_88 : q_dec 12 88 = some (6, .goto 62, 3) := by decide +kernel
theorem i_12_91 : q_dec 12 91 = some (6, .aload_n 0, 1) := by decide +kernel
theorem i_12_92 : q_dec 12 92 = some (6, .ldc 130, 2) := by decide +kernel
theorem i_12_94 : q_dec 12 94 = some (6, .invokevirtual 122, 3) := by decide +kernel
theorem i_12_97 : q_dec 12 97 = some (6, .ifCond .eq (12), 3) := by decide +kernel
theorem i_12_100 : q_dec 12 100 = some (6, .aload_n 0, 1) := by decide +kernel
theorem i_12_101 : q_dec 12 101 = some (6, .bipush 7, 2) := by decide +kernel
theorem i_12_103 : q_dec 12 103 = some (6, .putfield 40, 3) := by decide +kernel
theorem i_12_106 : q_dec 12 106 = some (6, .goto 44, 3) := by decide +kernel
theorem i_12_109 : q_dec 12 109 = some (6, .aload_n 0, 1) := by decide +kernel
theorem i_12_110 : q_dec 12 110 = some (6, .ldc 132, 2) := by decide +kernel
theorem i_12_112 : q_dec 12 112 = some (6, .invokevirtual 122, 3) := by decide +kernel
theorem i_12_115 : q_dec 12 115 = some (6, .ifCond .eq (12), 3) := by decide +kernel
theorem i_12_118 : q_dec 12 118 = some (6, .aload_n 0, 1) := by decide +kernel
theorem i_12_119 : q_dec 12 119 = some (6, .bipush 8, 2) := by decide +kernel
theorem i_12_121 : q_dec 12 121 = some (6, .putfield 40, 3) := by decide +kernel
theorem i_12_124 : q_dec 12 124 = some (6, .goto 26, 3) := by decide +kernel
theorem i_12_127 : q_dec 12 127 = some (6, .aload_n 0, 1) := by decide +kernel
theorem i_12_128 : q_dec 12 128 = some (6, .ldc 134, 2) := by decide +kernel
theorem i_12_130 : q_dec 12 130 = some (6, .invokevirtual 122, 3) := by decide +kernel
theorem i_12_133 : q_dec 12 133 = some (6, .ifCond .eq (12), 3) := by decide +kernel
theorem i_12_136 : q_dec 12 136 = some (6, .aload_n 0, 1) := by decide +kernel
theorem i_12_137 : q_dec 12 137 = some (6, .bipush 9, 2) := by decide +kernel
theorem i_12_139 : q_dec 12 139 = some (6, .putfield 40, 3) := by decide +kernel
theorem i_12_142 : q_dec 12 142 = some (6, .goto 8, 3) := by decide +kernel
theorem i_12_145 : q_dec 12 145 = some (6, .aload_n 0, 1) := by decide +kernel
theorem i_12_146 : q_dec 12 146 = some (6, .iconst 0, 1) := by decide +kernel
theorem i_12_147 : q_dec 12 147 = some (6, .putfield 40, 3) := by decide +kernel
theorem i_12_150 : q_dec 12 150 = some (6, .return_, 1) := by decide +kernel
theorem i_13_0 : q_dec 13 0 = some (6, .aload_n 0, 1) := by decide +kernel
theorem i_13_1 : q_dec 13 1 = some (6, .getfield 24, 3) := by decide +kernel
theorem i_13_4 : q_dec 13 4 = some (6, .aload_n 0, 1) := by decide +kernel
theorem i_13_5 : q_dec 13 5 = some (6, .getfield 64, 3) := by decide +kernel
theorem i_13_8 : q_dec 13 8 = some (6, .isub, 1) := by decide +kernel
theorem i_13_9 : q_dec 13 9 = some (6, .aload_n 1, 1) := by decide +kernel
theorem i_13_10 : q_dec 13 10 = some (6, .invokevirtual 135, 3) := by decide +kernel
theorem i_13_13 : q_dec 13 13 = some (6, .if_icmp .eq (5), 3) := by decide +kernel
theorem i_13_16 : q_dec 13 16 = some (6, .iconst 0, 1) := by decide +kernel
theorem i_13_17 : q_dec 13 17 = some (6, .ireturn, 1) := by decide +kernel
theorem i_13_18 : q_dec 13 18 = some (6, .iconst 0, 1) := by decide +kernel
theorem i_13_19 : q_dec 13 19 = some (6, .istore_n 2, 1) := by decide +kernel
theorem i_13_20 : q_dec 13 20 = some (6, .iload_n 2, 1) := by decide +kernel
theorem i_13_21 : q_dec 13 21 = some (6, .aload_n 1, 1) := by decide +kernel
theorem i_13_22 : q_dec 13 22 = some (6, .invokevirtual 135, 3) := by decide +kernel
theorem i_13_25 : q_dec 13 25 = some (6, .if_icmp .ge (30), 3) := by decide +kernel
theorem i_13_28 : q_dec 13 28 = some (6, .aload_n 0, 1) := by decide +kernel
theorem i_13_29 : q_dec 13 29 = some (6, .getfield 15, 3) := by decide +kernel
theorem i_13_32 : q_dec 13 32 = some (6, .aload_n 0, 1) := by decide +kernel
theorem i_13_33 : q_dec 13 33 = some (6, .getfield 64, 3) := by decide +kernel
theorem i_13_36 : q_dec 13 36 = some (6, .iload_n 2, 1) := by decide +kernel
theorem i_13_37 : q_dec 13 37 = some (6, .iadd, 1) := by decide +kernel
theorem i_13_38 : q_dec 13 38 = some (6, .baload, 1) := by decide +kernel
theorem i_13_39 : q_dec 13 39 = some (6, .aload_n 1, 1) := by decide +kernel
theorem i_13_40 : q_dec 13 40 = some (6, .iload_n 2, 1) := by decide +kernel
theorem i_13_41 : q_dec 13 41 = some (6, .invokevirtual 140, 3) := by decide +kernel
theorem i_13_44 : q_dec 13 44 = some (6, .if_icmp .eq (5), 3) := by decide +kernel
theorem i_13_47 : q_dec 13 47 = some (6, .iconst 0, 1) := by decide +kernel
theorem i_13_48 : q_dec 13 48 = some (6, .ireturn, 1) := by decide +kernel
theorem i_13_49 : q_dec 13 49 = some (6, .iinc 2 1, 3) := by decide +kernel
theorem i_13_52 : q_dec 13 52 = some (6, .goto (-32), 3) := by decide +kernel
theorem i_13_55 : q_dec 13 55 = some (6, .iconst 1, 1) := by decide +kernel
theorem i_13_56 : q_dec 13 56 = some (6, .ireturn, 1) := by decide +kernel
theorem i_14_0 : q_dec 14 0 = some (6, .iload_n 0, 1) := by decide +kernel
theorem i_14_1 : q_dec 14 1 = some (6, .bipush 48, 2) := by decide +kernel
theorem i_14_3 : q_dec 14 3 = some (6, .if_icmp .lt (13), 3) := by decide +kernel
theorem i_14_6 : q_dec 14 6 = some (6, .iload_n 0, 1) := by decide +kernel
theorem i_14_7 : q_dec 14 7 = some (6, .bipush 57, 2) := by decide +kernel
theorem i_14_9 : q_dec 14 9 = some (6, .if_icmp .gt (7), 3) := by decide +kernel
theorem i_14_12 : q_dec 14 12 = some (6, .iconst 1, 1) := by decide +kernel
theorem i_14_13 : q_dec 14 13 = some (6, .goto 4, 3) := by decide +kernel
theorem i_14_16 : q_dec 14 16 = some (6, .iconst 0, 1) := by decide +kernel
theorem i_14_17 : q_dec 14 17 = some (6, .ireturn, 1) := by decide +kernel
theorem i_15_0 : q_dec 15 0 = some (6, .aload_n 0, 1) := by decide +kernel
theorem i_15_1 : q_dec 15 1 = some (6, .iconst 0, 1) := by decide +kernel
theorem i_15_2 : q_dec 15 2 = some (6, .putfield 71, 3) := by decide +kernel
theorem i_15_5 : q_dec 15 5 = some (6, .aload_n 0, 1) := by decide +kernel
theorem i_15_6 : q_dec 15 6 = some (6, .getfield 24, 3) := by decide +kernel
theorem i_15_9 : q_dec 15 9 = some (6, .aload_n 0, 1) := by decide +kernel
theorem i_15_10 : q_dec 15 10 = some (6, .getfield 9, 3) := by decide +kernel
theorem i_15_13 : q_dec 15 13 = some (6, .if_icmp .ge (60), 3) := by decide +kernel
theorem i_15_16 : q_dec 15 16 = some (6, .aload_n 0, 1) := by decide +kernel
theorem i_15_17 : q_dec 15 17 = some (6, .getfield 15, 3) := by decide +kernel
theorem i_15_20 : q_dec 15 20 = some (6, .aload_n 0, 1) := by decide +kernel
theorem i_15_21 : q_dec 15 21 = some (6, .getfield 24, 3) := by decide +kernel
theorem i_15_24 : q_dec 15 24 = some (6, .baload, 1) := by decide +kernel
theorem i_15_25 : q_dec 15 25 = some (6, .invokestatic 114, 3) := by decide +kernel
theorem i_15_28 : q_dec 15 28 = some (6, .ifCond .eq (45), 3) := by decide +kernel
theorem i_15_31 : q_dec 15 31 = some (6, .aload_n 0, 1) := by decide +kernel
theorem i_15_32 : q_dec 15 32 = some (6, .aload_n 0, 1) := by decide +kernel
theorem i_15_33 : q_dec 15 33 = some (6, .getfield 71, 3) := by decide +kernel
theorem i_15_36 : q_dec 15 36 = some (6, .bipush 10, 2) := by decide +kernel
theorem i_15_38 : q_dec 15 38 = some (6, .imul, 1) := by decide +kernel
theorem i_15_39 : q_dec 15 39 = some (6, .aload_n 0, 1) := by decide +kernel
theorem i_15_40 : q_dec 15 40 = some (6, .getfield 15, 3) := by decide +kernel
theorem i_15_43 : q_dec 15 43 = some (6, .aload_n 0, 1) := by decide +kernel
theorem i_15_44 : q_dec 15 44 = some (6, .getfield 24, 3) := by decide +kernel
theorem i_15_47 : q_dec 15 47 = some (6, .baload, 1) := by decide +kernel
theorem i_15_48 : q_dec 15 48 = some (6, .iadd, 1) := by decide +kernel
theorem i_15_49 : q_dec 15 49 = some (6, .bipush 48, 2) := by decide +kernel
theorem i_15_51 : q_dec 15 51 = some (6, .isub, 1) := by decide +kernel
theorem i_15_52 : q_dec 15 52 = some (6, .bipush 100, 2) := by decide +kernel
theorem i_15_54 : q_dec 15 54 = some (6, .invokestatic 144, 3) := by decide +kernel
theorem i_15_57 : q_dec 15 57 = some (6, .putfield 71, 3) := by decide +kernel
theorem i_15_60 : q_dec 15 60 = some (6, .aload_n 0, 1) := by decide +kernel
theorem i_15_61 : q_dec 15 61 = some (6, .dup, 1) := by decide +kernel
theorem i_15_62 : q_dec 15 62 = some (6, .getfield 24, 3) := by decide +kernel
theorem i_15_65 : q_dec 15 65 = some (6, .iconst 1, 1) := by decide +kernel
theorem i_15_66 : q_dec 15 66 = some (6, .iadd, 1) := by decide +kernel
theorem i_15_67 : q_dec 15 67 = some (6, .putfield 24, 3) := by decide +kernel
theorem i_15_70 : q_dec 15 70 = some (6, .goto (-65), 3) := by decide +kernel
theorem i_15_73 : q_dec 15 73 = some (6, .aload_n 0, 1) := by decide +kernel
theorem i_15_74 : q_dec 15 74 = some (6, .getfield 15, 3) := by decide +kernel
theorem i_15_77 : q_dec 15 77 = some (6, .aload_n 0, 1) := by decide +kernel
theorem i_15_78 : q_dec 15 78 = some (6, .getfield 64, 3) := by decide +kernel
theorem i_15_81 : q_dec 15 81 = some (6, .baload, 1) := by decide +kernel
theorem i_15_82 : q_dec 15 82 = some (6, .bipush 48, 2) := by decide +kernel
theorem i_15_84 : q_dec 15 84 = some (6, .if_icmp .ne (20), 3) := by decide +kernel
theorem i_15_87 : q_dec 15 87 = some (6, .aload_n 0, 1) := by decide +kernel
theorem i_15_88 : q_dec 15 88 = some (6, .getfield 24, 3) := by decide +kernel
theorem i_15_91 : q_dec 15 91 = some (6, .aload_n 0, 1) := by decide +kernel
theorem i_15_92 : q_dec 15 92 = some (6, .getfield 64, 3) := by decide +kernel
theorem i_15_95 : q_dec 15 95 = some (6, .isub, 1) := by decide +kernel
theorem i_15_96 : q_dec 15 96 = some (6, .iconst 1, 1) := by decide +kernel
theorem i_15_97 : q_dec 15 97 = some (6, .if_icmp .le (7), 3) := by decide +kernel
theorem i_15_100 : q_dec 15 100 = some (6, .iconst 1, 1) := by decide +kernel
theorem i_15_101 : q_dec 15 101 = some (6, .goto 4, 3) := by decide +kernel
theorem i_15_104 : q_dec 15 104 = some (6, .iconst 0, 1) := by decide +kernel
theorem i_15_105 : q_dec 15 105 = some (6, .istore_n 1, 1) := by decide +kernel
theorem i_15_106 : q_dec 15 106 = some (6, .aload_n 0, 1) := by decide +kernel
theorem i_15_107 : q_dec 15 107 = some (6, .iload_n 1, 1) := by decide +kernel
theorem i_15_108 : q_dec 15 108 = some (6, .ifCond .ne (12), 3) := by decide +kernel
theorem i_15_111 : q_dec 15 111 = some (6, .aload_n 0, 1) := by decide +kernel
theorem i_15_112 : q_dec 15 112 = some (6, .getfield 71, 3) := by decide +kernel
theorem i_15_115 : q_dec 15 115 = some (6, .bipush 99, 2) := by decide +kernel
theorem i_15_117 : q_dec 15 117 = some (6, .if_icmp .le (7), 3) := by decide +kernel
theorem i_15_120 : q_dec 15 120 = some (6, .iconst 0, 1) := by decide +kernel
theorem i_15_121 : q_dec 15 121 = some (6, .goto 4, 3) := by decide +kernel
theorem i_15_124 : q_dec 15 124 = some (6, .iconst 3, 1) := by decide +kernel
theorem i_15_125 : q_dec 15 125 = some (6, .putfield 40, 3) := by decide +kernel
theorem i_15_128 : q_dec 15 128 = some (6, .return_, 1) := by decide +kernel
theorem i_16_0 : q_dec 16 0 = some (6, .aload_n 0, 1) := by decide +kernel
theorem i_16_1 : q_dec 16 1 = some (6, .iconst 2, 1) := by decide +kernel
theorem i_16_2 : q_dec 16 2 = some (6, .iconst 5, 1) := by decide +kernel
theorem i_16_3 : q_dec 16 3 = some (6, .invokevirtual 67, 3) := by decide +kernel
theorem i_16_6 : q_dec 16 6 = some (6, .ifCond .ne (5), 3) := by decide +kernel
theorem i_16_9 : q_dec 16 9 = some (6, .iconst 0, 1) := by decide +kernel
theorem i_16_10 : q_dec 16 10 = some (6, .ireturn, 1) := by decide +kernel
theorem i_16_11 : q_dec 16 11 = some (6, .aload_n 1, 1) := by decide +kernel
theorem i_16_12 : q_dec 16 12 = some (6, .aload_n 0, 1) := by decide +kernel
theorem i_16_13 : q_dec 16 13 = some (6, .getfield 71, 3) := by decide +kernel
theorem i_16_16 : q_dec 16 16 = some (6, .putfield 74, 3) := by decide +kernel
theorem i_16_19 : q_dec 16 19 = some (6, .aload_n 0, 1) := by decide +kernel
theorem i_16_20 : q_dec 16 20 = some (6, .iconst 1, 1) := by decide +kernel
theorem i_16_21 : q_dec 16 21 = some (6, .iconst 4, 1) := by decide +kernel
theorem i_16_22 : q_dec 16 22 = some (6, .invokevirtual 67, 3) := by decide +kernel
theorem i_16_25 : q_dec 16 25 = some (6, .ifCond .ne (5), 3) := by decide +kernel
theorem i_16_28 : q_dec 16 28 = some (6, .iconst 0, 1) := by decide +kernel
theorem i_16_29 : q_dec 16 29 = some (6, .ireturn, 1) := by decide +kernel
theorem i_16_30 : q_dec 16 30 = some (6, .aload_n 1, 1) := by decide +kernel
theorem i_16_31 : q_dec 16 31 = some (6, .aload_n 0, 1) := by decide +kernel
theorem i_16_32 : q_dec 16 32 = some (6, .getfield 71, 3) := by decide +kernel
theorem i_16_35 : q_dec 16 35 = some (6, .putfield 77, 3) := by decide +kernel
theorem i_16_38 : q_dec 16 38 = some (6, .iconst 1, 1) := by decide +kernel
theorem i_16_39 : q_dec 16 39 = some (6, .ireturn, 1) := by decide +kernel
theorem i_17_0 : q_dec 17 0 = some (6, .aload_n 0, 1) := by decide +kernel
theorem i_17_1 : q_dec 17 1 = some (6, .invokevirtual 37, 3) := by decide +kernel
theorem i_17_4 : q_dec 17 4 = some (6, .aload_n 0, 1) := by decide +kernel
theorem i_17_5 : q_dec 17 5 = some (6, .getfield 40, 3) := by decide +kernel
theorem i_17_8 : q_dec 17 8 = some (6, .iconst 3, 1) := by decide +kernel
theorem i_17_9 : q_dec 17 9 = some (6, .if_icmp .ne (23), 3) := by decide +kernel
theorem i_17_12 : q_dec 17 12 = some (6, .aload_n 0, 1) := by decide +kernel
theorem i_17_13 : q_dec 17 13 = some (6, .getfield 71, 3) := by decide +kernel
theorem i_17_16 : q_dec 17 16 = some (6, .iload_n 1, 1) := by decide +kernel
theorem i_17_17 : q_dec 17 17 = some (6, .if_icmp .lt (15), 3) := by decide +kernel
theorem i_17_20 : q_dec 17 20 = some (6, .aload_n 0, 1) := by decide +kernel
theorem i_17_21 : q_dec 17 21 = some (6, .getfield 71, 3) := by decide +kernel
theorem i_17_24 : q_dec 17 24 = some (6, .iload_n 2, 1) := by decide +kernel
theorem i_17_25 : q_dec 17 25 = some (6, .if_icmp .gt (7), 3) := by decide +kernel
theorem i_17_28 : q_dec 17 28 = some (6, .iconst 1, 1) := by decide +kernel
theorem i_17_29 : q_dec 17 29 = some (6, .goto 4, 3) := by decide +kernel
theorem i_17_32 : q_dec 17 32 = some (6, .iconst 0, 1) := by decide +kernel
theorem i_17_33 : q_dec 17 33 = some (6, .ireturn, 1) := by decide +kernel
theorem i_18_0 : q_dec 18 0 = some (6, .aload_n 0, 1) := by decide +kernel
theorem i_18_1 : q_dec 18 1 = some (6, .iconst 0, 1) := by decide +kernel
theorem i_18_2 : q_dec 18 2 = some (6, .aload_n 1, 1) := by decide +kernel
theorem i_18_3 : q_dec 18 3 = some (6, .getfield 74, 3) := by decide +kernel
theorem i_18_6 : q_dec 18 6 = some (6, .iconst 1, 1) := by decide +kernel
theorem i_18_7 : q_dec 18 7 = some (6, .isub, 1) := by decide +kernel
theorem i_18_8 : q_dec 18 8 = some (6, .invokevirtual 67, 3) := by decide +kernel
theorem i_18_11 : q_dec 18 11 = some (6, .ifCond .ne (5), 3) := by decide +kernel
theorem i_18_14 : q_dec 18 14 = some (6, .iconst 0, 1) := by decide +kernel
theorem i_18_15 : q_dec 18 15 = some (6, .ireturn, 1) := by decide +kernel
theorem i_18_16 : q_dec 18 16 = some (6, .aload_n 0, 1) := by decide +kernel
theorem i_18_17 : q_dec 18 17 = some (6, .getfield 71, 3) := by decide +kernel
theorem i_18_20 : q_dec 18 20 = some (6, .istore_n 3, 1) := by decide +kernel
theorem i_18_21 : q_dec 18 21 = some (6, .aload_n 0, 1) := by decide +kernel
theorem i_18_22 : q_dec 18 22 = some (6, .iconst 0, 1) := by decide +kernel
theorem i_18_23 : q_dec 18 23 = some (6, .aload_n 1, 1) := by decide +kernel
theorem i_18_24 : q_dec 18 24 = some (6, .getfield 77, 3) := by decide +kernel
theorem i_18_27 : q_dec 18 27 = some (6, .iconst 1, 1) := by decide +kernel
theorem i_18_28 : q_dec 18 28 = some (6, .isub, 1) := by decide +kernel
theorem i_18_29 : q_dec 18 29 = some (6, .invokevirtual 67, 3) := by decide +kernel
theorem i_18_32 : q_dec 18 32 = some (6, .ifCond .ne (5), 3) := by decide +kernel
theorem i_18_35 : q_dec 18 35 = some (6, .iconst 0, 1) := by decide +kernel
theorem i_18_36 : q_dec 18 36 = some (6, .ireturn, 1) := by decide +kernel
theorem i_18_37 : q_dec 18 37 = some (6, .aload_n 1, 1) := by decide +kernel
theorem i_18_38 : q_dec 18 38 = some (6, .iload_n 3, 1) := by decide +kernel
theorem i_18_39 : q_dec 18 39 = some (6, .aload_n 0, 1) := by decide +kernel
theorem i_18_40 : q_dec 18 40 = some (6, .getfield 71, 3) := by decide +kernel
theorem i_18_43 : q_dec 18 43 = some (6, .invokevirtual 80, 3) := by decide +kernel
theorem i_18_46 : q_dec 18 46 = some (6, .istore 4, 2) := by decide +kernel
theorem i_18_48 : q_dec 18 48 = some (6, .aload_n 1, 1) := by decide +kernel
theorem i_18_49 : q_dec 18 49 = some (6, .iload 4, 2) := by decide +kernel
theorem i_18_51 : q_dec 18 51 = some (6, .invokevirtual 84, 3) := by decide +kernel
theorem i_18_54 : q_dec 18 54 = some (6, .ifCond .eq (5), 3) := by decide +kernel
theorem i_18_57 : q_dec 18 57 = some (6, .iconst 0, 1) := by decide +kernel
theorem i_18_58 : q_dec 18 58 = some (6, .ireturn, 1) := by decide +kernel
theorem i_18_59 : q_dec 18 59 = some (6, .aload_n 1, 1) := by decide +kernel
theorem i_18_60 : q_dec 18 60 = some (6, .iload 4, 2) := by decide +kernel
theorem i_18_62 : q_dec 18 62 = some (6, .iload_n 2, 1) := by decide +kernel
theorem i_18_63 : q_dec 18 63 = some (6, .invokevirtual 88, 3) := by decide +kernel
theorem i_18_66 : q_dec 18 66 = some (6, .iconst 1, 1) := by decide +kernel
theorem i_18_67 : q_dec 18 67 = some (6, .ireturn, 1) := by decide +kernel
theorem i_19_0 : q_dec 19 0 = some (6, .aload_n 0, 1) := by decide +kernel
theorem i_19_1 : q_dec 19 1 = some (6, .getfield 27, 3) := by decide +kernel
theorem i_19_4 : q_dec 19 4 = some (6, .ifCond .ne (12), 3) := by decide +kernel
theorem i_19_7 : q_dec 19 7 = some (6, .aload_n 0, 1) := by decide +kernel
theorem i_19_8 : q_dec 19 8 = some (6, .iconst 0, 1) := by decide +kernel
theorem i_19_9 : q_dec 19 9 = some (6, .iconst 4, 1) := by decide +kernel
theorem i_19_10 : q_dec 19 10 = some (6, .invokevirtual 67, 3) := by decide +kernel
theorem i_19_13 : q_dec 19 13 = some (6, .ifCond .ne (5), 3) := by decide +kernel
theorem i_19_16 : q_dec 19 16 = some (6, .iconst 0, 1) := by decide +kernel
theorem i_19_17 : q_dec 19 17 = some (6, .ireturn, 1) := by decide +kernel
theorem i_19_18 : q_dec 19 18 = some (6, .aload_n 0, 1) := by decide +kernel
theorem i_19_19 : q_dec 19 19 = some (6, .iconst 1, 1) := by decide +kernel
theorem i_19_20 : q_dec 19 20 = some (6, .putfield 27, 3) := by decide +kernel
theorem i_19_23 : q_dec 19 23 = some (6, .aload_n 1, 1) := by decide +kernel
theorem i_19_24 : q_dec 19 24 = some (6, .aload_n 0, 1) := by decide +kernel
theorem i_19_25 : q_dec 19 25 = some (6, .getfield 71, 3) := by decide +kernel
theorem i_19_28 : q_dec 19 28 = some (6, .putfield 92, 3) := by decide +kernel
theorem i_19_31 : q_dec 19 31 = some (6, .aload_n 0, 1) := by decide +kernel
theorem i_19_32 : q_dec 19 32 = some (6, .iconst 1, 1) := by decide +kernel
theorem i_19_33 : q_dec 19 33 = some (6, .bipush 9, 2) := by decide +kernel
theorem i_19_35 : q_dec 19 35 = some (6, .invokevirtual 67, 3) := by decide +kernel
theorem i_19_38 : q_dec 19 38 = some (6, .ifCond .ne (5), 3) := by decide +kernel
theorem i_19_41 : q_dec 19 41 = some (6, .iconst 0, 1) := by decide +kernel
theorem i_19_42 : q_dec 19 42 = some (6, .ireturn, 1) := by decide +kernel
theorem i_19_43 : q_dec 19 43 = some (6, .aload_n 1, 1) := by decide +kernel
theorem i_19_44 : q_dec 19 44 = some (6, .aload_n 0, 1) := by decide +kernel
theorem i_19_45 : q_dec 19 45 = some (6, .getfield 71, 3) := by decide +kernel
theorem i_19_48 : q_dec 19 48 = some (6, .putfield 95, 3) := by decide +kernel
theorem i_19_51 : q_dec 19 51 = some (6, .aload_n 0, 1) := by decide +kernel
theorem i_19_52 : q_dec 19 52 = some (6, .iconst 0, 1) := by decide +kernel
theorem i_19_53 : q_dec 19 53 = some (6, .iconst 2, 1) := by decide +kernel
theorem i_19_54 : q_dec 19 54 = some (6, .invokevirtual 67, 3) := by decide +kernel
theorem i_19_57 : q_dec 19 57 = some (6, .ifCond .ne (5), 3) := by decide +kernel
theorem i_19_60 : q_dec 19 60 = some (6, .iconst 0, 1) := by decide +kernel
theorem i_19_61 : q_dec 19 61 = some (6, .ireturn, 1) := by decide +kernel
theorem i_19_62 : q_dec 19 62 = some (6, .aload_n 1, 1) := by decide +kernel
theorem i_19_63 : q_dec 19 63 = some (6, .aload_n 0, 1) := by decide +kernel
theorem i_19_64 : q_dec 19 64 = some (6, .getfield 71, 3) := by decide +kernel
theorem i_19_67 : q_dec 19 67 = some (6, .putfield 98, 3) := by decide +kernel
theorem i_19_70 : q_dec 19 70 = some (6, .iconst 1, 1) := by decide +kernel
theorem i_19_71 : q_dec 19 71 = some (6, .ireturn, 1) := by decide +kernel
theorem i_20_0 : q_dec 20 0 = some (6, .aload_n 0, 1) := by decide +kernel
theorem i_20_1 : q_dec 20 1 = some (6, .getfield 31, 3) := by decide +kernel
theorem i_20_4 : q_dec 20 4 = some (6, .ifCond .eq (5), 3) := by decide +kernel
theorem i_20_7 : q_dec 20 7 = some (6, .iconst 0, 1) := by decide +kernel
theorem i_20_8 : q_dec 20 8 = some (6, .ireturn, 1) := by decide +kernel
theorem i_20_9 : q_dec 20 9 = some (6, .aload_n 0, 1) := by decide +kernel
theorem i_20_10 : q_dec 20 10 = some (6, .iconst 1, 1) := by decide +kernel
theorem i_20_11 : q_dec 20 11 = some (6, .putfield 31, 3) := by decide +kernel
theorem i_20_14 : q_dec 20 14 = some (6, .aload_n 1, 1) := by decide +kernel
theorem i_20_15 : q_dec 20 15 = some (6, .iconst 1, 1) := by decide +kernel
theorem i_20_16 : q_dec 20 16 = some (6, .putfield 101, 3) := by decide +kernel
theorem i_20_19 : q_dec 20 19 = some (6, .iconst 1, 1) := by decide +kernel
theorem i_20_20 : q_dec 20 20 = some (6, .ireturn, 1) := by decide +kernel
theorem i_21_0 : q_dec 21 0 = some (6, .aload_n 0, 1) := by decide +kernel
theorem i_21_1 : q_dec 21 1 = some (6, .getfield 34, 3) := by decide +kernel
theorem i_21_4 : q_dec 21 4 = some (6, .ifCond .ne (13), 3) := by decide +kernel
theorem i_21_7 : q_dec 21 7 = some (6, .aload_n 0, 1) := by decide +kernel
theorem i_21_8 : q_dec 21 8 = some (6, .iconst 0, 1) := by decide +kernel
theorem i_21_9 : q_dec 21 9 = some (6, .bipush 9, 2) := by decide +kernel
theorem i_21_11 : q_dec 21 11 = some (6, .invokevirtual 67, 3) := by decide +kernel
theorem i_21_14 : q_dec 21 14 = some (6, .ifCond .ne (5), 3) := by decide +kernel
theorem i_21_17 : q_dec 21 17 = some (6, .iconst 0, 1) := by decide +kernel
theorem i_21_18 : q_dec 21 18 = some (6, .ireturn, 1) := by decide +kernel
theorem i_21_19 : q_dec 21 19 = some (6, .aload_n 0, 1) := by decide +kernel
theorem i_21_20 : q_dec 21 20 = some (6, .iconst 1, 1) := by decide +kernel
theorem i_21_21 : q_dec 21 21 = some (6, .putfield 34, 3) := by decide +kernel
theorem i_21_24 : q_dec 21 24 = some (6, .aload_n 1, 1) := by decide +kernel
theorem i_21_25 : q_dec 21 25 = some (6, .aload_n 0, 1) := by decide +kernel
theorem i_21_26 : q_dec 21 26 = some (6, .getfield 71, 3) := by decide +kernel
theorem i_21_29 : q_dec 21 29 = some (6, .putfield 104, 3) := by decide +kernel
theorem i_21_32 : q_dec 21 32 = some (6, .iconst 1, 1) := by decide +kernel
theorem i_21_33 : q_dec 21 33 = some (6, .ireturn, 1) := by decide +kernel
theorem i_22_0 : q_dec 22 0 = some (6, .aload_n 0, 1) := by decide +kernel
theorem i_22_1 : q_dec 22 1 = some (6, .invokevirtual 37, 3) := by decide +kernel
theorem i_22_4 : q_dec 22 4 = some (6, .aload_n 0, 1) := by decide +kernel
theorem i_22_5 : q_dec 22 5 = some (6, .getfield 40, 3) := by decide +kernel
theorem i_22_8 : q_dec 22 8 = some (6, .iconst 2, 1) := by decide +kernel
theorem i_22_9 : q_dec 22 9 = some (6, .if_icmp .ne (7), 3) := by decide +kernel
theorem i_22_12 : q_dec 22 12 = some (6, .iconst 1, 1) := by decide +kernel
theorem i_22_13 : q_dec 22 13 = some (6, .goto 4, 3) := by decide +kernel
theorem i_22_16 : q_dec 22 16 = some (6, .iconst 0, 1) := by decide +kernel
theorem i_22_17 : q_dec 22 17 = some (6, .ireturn, 1) := by decide +kernel
theorem i_23_0 : q_dec 23 0 = some (7, .aload_n 0, 1) := by decide +kernel
theorem i_23_1 : q_dec 23 1 = some (7, .iconst 4, 1) := by decide +kernel
theorem i_23_2 : q_dec 23 2 = some (7, .putfield 24, 3) := by decide +kernel
theorem i_23_5 : q_dec 23 5 = some (7, .aload_n 0, 1) := by decide +kernel
theorem i_23_6 : q_dec 23 6 = some (7, .iconst 3, 1) := by decide +kernel
theorem i_23_7 : q_dec 23 7 = some (7, .putfield 28, 3) := by decide +kernel
theorem i_23_10 : q_dec 23 10 = some (7, .aload_n 0, 1) := by decide +kernel
theorem i_23_11 : q_dec 23 11 = some (7, .iconst 1, 1) := by decide +kernel
theorem i_23_12 : q_dec 23 12 = some (7, .putfield 31, 3) := by decide +kernel
theorem i_23_15 : q_dec 23 15 = some (7, .aload_n 0, 1) := by decide +kernel
theorem i_23_16 : q_dec 23 16 = some (7, .iconst 1, 1) := by decide +kernel
theorem i_23_17 : q_dec 23 17 = some (7, .putfield 34, 3) := by decide +kernel
theorem i_23_20 : q_dec 23 20 = some (7, .aload_n 0, 1) := by decide +kernel
theorem i_23_21 : q_dec 23 21 = some (7, .iconst 2, 1) := by decide +kernel
theorem i_23_22 : q_dec 23 22 = some (7, .putfield 37, 3) := by decide +kernel
theorem i_23_25 : q_dec 23 25 = some (7, .aload_n 0, 1) := by decide +kernel
theorem i_23_26 : q_dec 23 26 = some (7, .iconst 0, 1) := by decide +kernel
theorem i_23_27 : q_dec 23 27 = some (7, .putfield 40, 3) := by decide +kernel
theorem i_23_30 : q_dec 23 30 = some (7, .aload_n 0, 1) := by decide +kernel
theorem i_23_31 : q_dec 23 31 = some (7, .iconst 0, 1) := by decide +kernel
theorem i_23_32 : q_dec 23 32 = some (7, .putfield 44, 3) := by decide +kernel
theorem i_23_35 : q_dec 23 35 = some (7, .aload_n 0, 1) := by decide +kernel
theorem i_23_36 : q_dec 23 36 = some (7, .getfield 9, 3) := by decide +kernel
theorem i_23_39 : q_dec 23 39 = some (7, .iconst 0, 1) := by decide +kernel
theorem i_23_40 : q_dec 23 40 = some (7, .invokestatic 47, 3) := by decide +kernel
theorem i_23_43 : q_dec 23 43 = some (7, .return_, 1) := by decide +kernel
theorem i_24_0 : q_dec 24 0 = some (7, .aload_n 0, 1) := by decide +kernel
theorem i_24_1 : q_dec 24 1 = some (7, .getfield 15, 3) := by decide +kernel
theorem i_24_4 : q_dec 24 4 = some (7, .iconst (-1), 1) := by decide +kernel
theorem i_24_5 : q_dec 24 5 = some (7, .invokestatic 47, 3) := by decide +kernel
theorem i_24_8 : q_dec 24 8 = some (7, .iconst 0, 1) := by decide +kernel
theorem i_24_9 : q_dec 24 9 = some (7, .istore_n 1, 1) := by decide +kernel
theorem i_24_10 : q_dec 24 10 = some (7, .iload_n 1, 1) := by decide +kernel
theorem i_24_11 : q_dec 24 11 = some (7, .aload_n 0, 1) := by decide +kernel
theorem i_24_12 : q_dec 24 12 = some (7, .getfield 28, 3) := by decide +kernel
theorem i_24_15 : q_dec 24 15 = some (7, .if_icmp .ge (84), 3) := by decide +kernel
theorem i_24_18 : q_dec 24 18 = some (7, .iconst 0, 1) := by decide +kernel
theorem i_24_19 : q_dec 24 19 = some (7, .istore_n 2, 1) := by decide +kernel
theorem i_24_20 : q_dec 24 20 = some (7, .iload_n 2, 1) := by decide +kernel
theorem i_24_21 : q_dec 24 21 = some (7, .aload_n 0, 1) := by decide +kernel
theorem i_24_22 : q_dec 24 22 = some (7, .getfield 24, 3) := by decide +kernel
theorem i_24_25 : q_dec 24 25 = some (7, .if_icmp .ge (68), 3) := by decide +kernel
theorem i_24_28 : q_dec 24 28 = some (7, .iconst 0, 1) := by decide +kernel
theorem i_24_29 : q_dec 24 29 = some (7, .istore_n 3, 1) := by decide +kernel
theorem i_24_30 : q_dec 24 30 = some (7, .iload_n 3, 1) := by decide +kernel
theorem i_24_31 : q_dec 24 31 = some (7, .iconst 4, 1) := by decide +kernel
theorem i_24_32 : q_dec 24 32 = some (7, .if_icmp .ge (55), 3) := by decide +kernel
theorem i_24_35 : q_dec 24 35 = some (7, .aload_n 0, 1) := by decide +kernel
theorem i_24_36 : q_dec 24 36 = some (7, .iload_n 2, 1) := by decide +kernel
theorem i_24_37 : q_dec 24 37 = some (7, .getstatic 53, 3) := by decide +kernel
theorem i_24_40 : q_dec 24 40 = some (7, .iload_n 3, 1) := by decide +kernel
theorem i_24_41 : q_dec 24 41 = some (7, .iaload, 1) := by decide +kernel
theorem i_24_42 : q_dec 24 42 = some (7, .iadd, 1) := by decide +kernel
theorem i_24_43 : q_dec 24 43 = some (7, .iload_n 1, 1) := by decide +kernel
theorem i_24_44 : q_dec 24 44 = some (7, .getstatic 56, 3) := by decide +kernel
theorem i_24_47 : q_dec 24 47 = some (7, .iload_n 3, 1) := by decide +kernel
theorem i_24_48 : q_dec 24 48 = some (7, .iaload, 1) := by decide +kernel
theorem i_24_49 : q_dec 24 49 = some (7, .iadd, 1) := by decide +kernel
theorem i_24_50 : q_dec 24 50 = some (7, .invokevirtual 59, 3) := by decide +kernel
theorem i_24_53 : q_dec 24 53 = some (7, .istore 4, 2) := by decide +kernel
theorem i_24_55 : q_dec 24 55 = some (7, .aload_n 0, 1) := by decide +kernel
theorem i_24_56 : q_dec 24 56 = some (7, .iload 4, 2) := by decide +kernel
theorem i_24_58 : q_dec 24 58 = some (7, .invokevirtual 63, 3) := by decide +kernel
theorem i_24_61 : q_dec 24 61 = some (7, .ifCond .eq (20), 3) := by decide +kernel
theorem i_24_64 : q_dec 24 64 = some (7, .aload_n 0, 1) := by decide +kernel
theorem i_24_65 : q_dec 24 65 = some (7, .getfield 15, 3) := by decide +kernel
theorem i_24_68 : q_dec 24 68 = some (7, .aload_n 0, 1) := by decide +kernel
theorem i_24_69 : q_dec 24 69 = some (7, .iload_n 2, 1) := by decide +kernel
theorem i_24_70 : q_dec 24 70 = some (7, .iload_n 1, 1) := by decide +kernel
theorem i_24_71 : q_dec 24 71 = some (7, .invokevirtual 59, 3) := by decide +kernel
theorem i_24_74 : q_dec 24 74 = some (7, .iconst 4, 1) := by decide +kernel
theorem i_24_75 : q_dec 24 75 = some (7, .imul, 1) := by decide +kernel
theorem i_24_76 : q_dec 24 76 = some (7, .iload_n 3, 1) := by decide +kernel
theorem i_24_77 : q_dec 24 77 = some (7, .iadd, 1) := by decide +kernel
theorem i_24_78 : q_dec 24 78 = some (7, .iload 4, 2) := by decide +kernel
theorem i_24_80 : q_dec 24 80 = some (7, .iastore, 1) := by decide +kernel
theorem i_24_81 : q_dec 24 81 = some (7, .iinc 3 1, 3) := by decide +kernel
theorem i_24_84 : q_dec 24 84 = some (7, .goto (-54), 3) := by decide +kernel
theorem i_24_87 : q_dec 24 87 = some (7, .iinc 2 1, 3) := by decide +kernel
theorem i_24_90 : q_dec 24 90 = some (7, .goto (-70), 3) := by decide +kernel
theorem i_24_93 : q_dec 24 93 = some (7, .iinc 1 1, 3) := by decide +kernel
theorem i_24_96 : q_dec 24 96 = some (7, .goto (-86), 3) := by decide +kernel
theorem i_24_99 : q_dec 24 99 = some (7, .return_, 1) := by decide +kernel
theorem i_25_0 : q_dec 25 0 = some (7, .iload_n 1, 1) := by decide +kernel
theorem i_25_1 : q_dec 25 1 = some (7, .ifCond .lt (34), 3) := by decide +kernel
theorem i_25_4 : q_dec 25 4 = some (7, .iload_n 1, 1) := by decide +kernel
theorem i_25_5 : q_dec 25 5 = some (7, .aload_n 0, 1) := by decide +kernel
theorem i_25_6 : q_dec 25 6 = some (7, .getfield 24, 3) := by decide +kernel
theorem i_25_9 : q_dec 25 9 = some (7, .if_icmp .ge (26), 3) := by decide +kernel
theorem i_25_12 : q_dec 25 12 = some (7, .iload_n 2, 1) := by decide +kernel
theorem i_25_13 : q_dec 25 13 = some (7, .ifCond .lt (22), 3) := by decide +kernel
theorem i_25_16 : q_dec 25 16 = some (7, .iload_n 2, 1) := by decide +kernel
theorem i_25_17 : q_dec 25 17 = some (7, .aload_n 0, 1) := by decide +kernel
theorem i_25_18 : q_dec 25 18 = some (7, .getfield 28, 3) := by decide +kernel
theorem i_25_21 : q_dec 25 21 = some (7, .if_icmp .ge (14), 3) := by decide +kernel
theorem i_25_24 : q_dec 25 24 = some (7, .iload_n 2, 1) := by decide +kernel
theorem i_25_25 : q_dec 25 25 = some (7, .aload_n 0, 1) := by decide +kernel
theorem i_25_26 : q_dec 25 26 = some (7, .getfield 24, 3) := by decide +kernel
theorem i_25_29 : q_dec 25 29 = some (7, .imul, 1) := by decide +kernel
theorem i_25_30 : q_dec 25 30 = some (7, .iload_n 1, 1) := by decide +kernel
theorem i_25_31 : q_dec 25 31 = some (7, .iadd, 1) := by decide +kernel
theorem i_25_32 : q_dec 25 32 = some (7, .goto 4, 3) := by decide +kernel
theorem i_25_35 : q_dec 25 35 = some (7, .iconst (-1), 1) := by decide +kernel
theorem i_25_36 : q_dec 25 36 = some (7, .ireturn, 1) := by decide +kernel
theorem i_26_0 : q_dec 26 0 = some (7, .aload_n 0, 1) := by decide +kernel
theorem i_26_1 : q_dec 26 1 = some (7, .iload_n 1, 1) := by decide +kernel
theorem i_26_2 : q_dec 26 2 = some (7, .invokevirtual 74, 3) := by decide +kernel
theorem i_26_5 : q_dec 26 5 = some (7, .ifCond .eq (16), 3) := by decide +kernel
theorem i_26_8 : q_dec 26 8 = some (7, .aload_n 0, 1) := by decide +kernel
theorem i_26_9 : q_dec 26 9 = some (7, .iload_n 1, 1) := by decide +kernel
theorem i_26_10 : q_dec 26 10 = some (7, .invokevirtual 77, 3) := by decide +kernel
theorem i_26_13 : q_dec 26 13 = some (7, .iconst 1, 1) := by decide +kernel
theorem i_26_14 : q_dec 26 14 = some (7, .if_icmp .eq (7), 3) := by decide +kernel
theorem i_26_17 : q_dec 26 17 = some (7, .iconst 1, 1) := by decide +kernel
theorem i_26_18 : q_dec 26 18 = some (7, .goto 4, 3) := by decide +kernel
theorem i_26_21 : q_dec 26 21 = some (7, .iconst 0, 1) := by decide +kernel
theorem i_26_22 : q_dec 26 22 = some (7, .ireturn, 1) := by decide +kernel
theorem i_27_0 : q_dec 27 0 = some (7, .iload_n 1, 1) := by decide +kernel
theorem i_27_1 : q_dec 27 1 = some (7, .ifCond .lt (15), 3) := by decide +kernel
theorem i_27_4 : q_dec 27 4 = some (7, .iload_n 1, 1) := by decide +kernel
theorem i_27_5 : q_dec 27 5 = some (7, .aload_n 0, 1) := by decide +kernel
theorem i_27_6 : q_dec 27 6 = some (7, .invokevirtual 67, 3) := by decide +kernel
theorem i_27_9 : q_dec 27 9 = some (7, .if_icmp .ge (7), 3) := by decide +kernel
theorem i_27_12 : q_dec 27 12 = some (7, .iconst 1, 1) := by decide +kernel
theorem i_27_13 : q_dec 27 13 = some (7, .goto 4, 3) := by decide +kernel
theorem i_27_16 : q_dec 27 16 = some (7, .iconst 0, 1) := by decide +kernel
theorem i_27_17 : q_dec 27 17 = some (7, .ireturn, 1) := by decide +kernel
theorem i_28_0 : q_dec 28 0 = some (7, .aload_n 0, 1) := by decide +kernel
theorem i_28_1 : q_dec 28 1 = some (7, .getfield 24, 3) := by decide +kernel
theorem i_28_4 : q_dec 28 4 = some (7, .aload_n 0, 1) := by decide +kernel
theorem i_28_5 : q_dec 28 5 = some (7, .getfield 28, 3) := by decide +kernel
theorem i_28_8 : q_dec 28 8 = some (7, .imul, 1) := by decide +kernel
theorem i_28_9 : q_dec 28 9 = some (7, .ireturn, 1) := by decide +kernel
theorem i_29_0 : q_dec 29 0 = some (7, .iload_n 1, 1) := by decide +kernel
theorem i_29_1 : q_dec 29 1 = some (7, .invokestatic 71, 3) := by decide +kernel
theorem i_29_4 : q_dec 29 4 = some (7, .ifCond .eq (12), 3) := by decide +kernel
theorem i_29_7 : q_dec 29 7 = some (7, .aload_n 0, 1) := by decide +kernel
theorem i_29_8 : q_dec 29 8 = some (7, .getfield 9, 3) := by decide +kernel
theorem i_29_11 : q_dec 29 11 = some (7, .iload_n 1, 1) := by decide +kernel
theorem i_29_12 : q_dec 29 12 = some (7, .iaload, 1) := by decide +kernel
theorem i_29_13 : q_dec 29 13 = some (7, .goto 4, 3) := by decide +kernel
theorem i_29_16 : q_dec 29 16 = some (7, .iconst 0, 1) := by decide +kernel
theorem i_29_17 : q_dec 29 17 = some (7, .ireturn, 1) := by decide +kernel
theorem i_30_0 : q_dec 30 0 = some (7, .iload_n 0, 1) := by decide +kernel
theorem i_30_1 : q_dec 30 1 = some (7, .ifCond .lt (13), 3) := by decide +kernel
theorem i_30_4 : q_dec 30 4 = some (7, .iload_n 0, 1) := by decide +kernel
theorem i_30_5 : q_dec 30 5 = some (7, .bipush 20, 2) := by decide +kernel
theorem i_30_7 : q_dec 30 7 = some (7, .if_icmp .ge (7), 3) := by decide +kernel
theorem i_30_10 : q_dec 30 10 = some (7, .iconst 1, 1) := by decide +kernel
theorem i_30_11 : q_dec 30 11 = some (7, .goto 4, 3) := by decide +kernel
theorem i_30_14 : q_dec 30 14 = some (7, .iconst 0, 1) := by decide +kernel
theorem i_30_15 : q_dec 30 15 = some (7, .ireturn, 1) := by decide +kernel
theorem i_31_0 : q_dec 31 0 = some (7, .iload_n 1, 1) := by decide +kernel
theorem i_31_1 : q_dec 31 1 = some (7, .invokestatic 71, 3) := by decide +kernel
theorem i_31_4 : q_dec 31 4 = some (7, .ifCond .eq (10), 3) := by decide +kernel
theorem i_31_7 : q_dec 31 7 = some (7, .aload_n 0, 1) := by decide +kernel
theorem i_31_8 : q_dec 31 8 = some (7, .getfield 9, 3) := by decide +kernel
theorem i_31_11 : q_dec 31 11 = some (7, .iload_n 1, 1) := by decide +kernel
theorem i_31_12 : q_dec 31 12 = some (7, .iload_n 2, 1) := by decide +kernel
theorem i_31_13 : q_dec 31 13 = some (7, .iastore, 1) := by decide +kernel
theorem i_31_14 : q_dec 31 14 = some (7, .return_, 1) := by decide +kernel
theorem i_32_0 : q_dec 32 0 = some (7, .iload_n 1, 1) := by decide +kernel
theorem i_32_1 : q_dec 32 1 = some (7, .invokestatic 71, 3) := by decide +kernel
theorem i_32_4 : q_dec 32 4 = some (7, .ifCond .eq (23), 3) := by decide +kernel
theorem i_32_7 : q_dec 32 7 = some (7, .iload_n 2, 1) := by decide +kernel
theorem i_32_8 : q_dec 32 8 = some (7, .invokestatic 81, 3) := by decide +kernel
theorem i_32_11 : q_dec 32 11 = some (7, .ifCond .eq (16), 3) := by decide +kernel
theorem i_32_14 : q_dec 32 14 = some (7, .aload_n 0, 1) := by decide +kernel
theorem i_32_15 : q_dec 32 15 = some (7, .getfield 15, 3) := by decide +kernel
theorem i_32_18 : q_dec 32 18 = some (7, .iload_n 1, 1) := by decide +kernel
theorem i_32_19 : q_dec 32 19 = some (7, .iconst 4, 1) := by decide +kernel
theorem i_32_20 : q_dec 32 20 = some (7, .imul, 1) := by decide +kernel
theorem i_32_21 : q_dec 32 21 = some (7, .iload_n 2, 1) := by decide +kernel
theorem i_32_22 : q_dec 32 22 = some (7, .iadd, 1) := by decide +kernel
theorem i_32_23 : q_dec 32 23 = some (7, .iaload, 1) := by decide +kernel
theorem i_32_24 : q_dec 32 24 = some (7, .goto 4, 3) := by decide +kernel
theorem i_32_27 : q_dec 32 27 = some (7, .iconst (-1), 1) := by decide +kernel
theorem i_32_28 : q_dec 32 28 = some (7, .ireturn, 1) := by decide +kernel
theorem i_33_0 : q_dec 33 0 = some (7, .iload 4, 2) := by decide +kernel
theorem i_33_2 : q_dec 33 2 = some (7, .iload_n 2, 1) := by decide +kernel
theorem i_33_3 : q_dec 33 3 = some (7, .if_icmp .ne (17), 3) := by decide +kernel
theorem i_33_6 : q_dec 33 6 = some (7, .aload_n 0, 1) := by decide +kernel
theorem i_33_7 : q_dec 33 7 = some (7, .iload_n 1, 1) := by decide +kernel
theorem i_33_8 : q_dec 33 8 = some (7, .invokevirtual 94, 3) := by decide +kernel
theorem i_33_11 : q_dec 33 11 = some (7, .ifCond .ne (9), 3) := by decide +kernel
theorem i_33_14 : q_dec 33 14 = some (7, .iload_n 3, 1) := by decide +kernel
theorem i_33_15 : q_dec 33 15 = some (7, .iconst 1, 1) := by decide +kernel
theorem i_33_16 : q_dec 33 16 = some (7, .iadd, 1) := by decide +kernel
theorem i_33_17 : q_dec 33 17 = some (7, .goto 4, 3) := by decide +kernel
theorem i_33_20 : q_dec 33 20 = some (7, .iconst 1, 1) := by decide +kernel
theorem i_33_21 : q_dec 33 21 = some (7, .ireturn, 1) := by decide +kernel
theorem i_34_0 : q_dec 34 0 = some (7, .iload_n 1, 1) := by decide +kernel
theorem i_34_1 : q_dec 34 1 = some (7, .invokestatic 71, 3) := by decide +kernel
theorem i_34_4 : q_dec 34 4 = some (7, .ifCond .eq (17), 3) := by decide +kernel
theorem i_34_7 : q_dec 34 7 = some (7, .aload_n 0, 1) := by decide +kernel
theorem i_34_8 : q_dec 34 8 = some (7, .getfield 9, 3) := by decide +kernel
theorem i_34_11 : q_dec 34 11 = some (7, .iload_n 1, 1) := by decide +kernel
theorem i_34_12 : q_dec 34 12 = some (7, .iaload, 1) := by decide +kernel
theorem i_34_13 : q_dec 34 13 = some (7, .iconst 2, 1) := by decide +kernel
theorem i_34_14 : q_dec 34 14 = some (7, .if_icmp .ne (7), 3) := by decide +kernel
theorem i_34_17 : q_dec 34 17 = some (7, .iconst 1, 1) := by decide +kernel
theorem i_34_18 : q_dec 34 18 = some (7, .goto 4, 3) := by decide +kernel
theorem i_34_21 : q_dec 34 21 = some (7, .iconst 0, 1) := by decide +kernel
theorem i_34_22 : q_dec 34 22 = some (7, .ireturn, 1) := by decide +kernel
theorem i_35_0 : q_dec 35 0 = some (7, .iload_n 1, 1) := by decide +kernel
theorem i_35_1 : q_dec 35 1 = some (7, .aload_n 0, 1) := by decide +kernel
theorem i_35_2 : q_dec 35 2 = some (7, .getfield 31, 3) := by decide +kernel
theorem i_35_5 : q_dec 35 5 = some (7, .isub, 1) := by decide +kernel
theorem i_35_6 : q_dec 35 6 = some (7, .istore_n 3, 1) := by decide +kernel
theorem i_35_7 : q_dec 35 7 = some (7, .iload_n 3, 1) := by decide +kernel
theorem i_35_8 : q_dec 35 8 = some (7, .ifCond .gt (8), 3) := by decide +kernel
theorem i_35_11 : q_dec 35 11 = some (7, .aload_n 0, 1) := by decide +kernel
theorem i_35_12 : q_dec 35 12 = some (7, .getfield 44, 3) := by decide +kernel
theorem i_35_15 : q_dec 35 15 = some (7, .ireturn, 1) := by decide +kernel
theorem i_35_16 : q_dec 35 16 = some (7, .aload_n 0, 1) := by decide +kernel
theorem i_35_17 : q_dec 35 17 = some (7, .getfield 34, 3) := by decide +kernel
theorem i_35_20 : q_dec 35 20 = some (7, .istore 4, 2) := by decide +kernel
theorem i_35_22 : q_dec 35 22 = some (7, .aload_n 0, 1) := by decide +kernel
theorem i_35_23 : q_dec 35 23 = some (7, .getfield 37, 3) := by decide +kernel
theorem i_35_26 : q_dec 35 26 = some (7, .iconst 1, 1) := by decide +kernel
theorem i_35_27 : q_dec 35 27 = some (7, .if_icmp .ne (14), 3) := by decide +kernel
theorem i_35_30 : q_dec 35 30 = some (7, .aload_n 0, 1) := by decide +kernel
theorem i_35_31 : q_dec 35 31 = some (7, .getfield 34, 3) := by decide +kernel
theorem i_35_34 : q_dec 35 34 = some (7, .iload_n 3, 1) := by decide +kernel
theorem i_35_35 : q_dec 35 35 = some (7, .imul, 1) := by decide +kernel
theorem i_35_36 : q_dec 35 36 = some (7, .istore 4, 2) := by decide +kernel
theorem i_35_38 : q_dec 35 38 = some (7, .goto 21, 3) := by decide +kernel
theorem i_35_41 : q_dec 35 41 = some (7, .aload_n 0, 1) := by decide +kernel
theorem i_35_42 : q_dec 35 42 = some (7, .getfield 37, 3) := by decide +kernel
theorem i_35_45 : q_dec 35 45 = some (7, .iconst 2, 1) := by decide +kernel
theorem i_35_46 : q_dec 35 46 = some (7, .if_icmp .ne (13), 3) := by decide +kernel
theorem i_35_49 : q_dec 35 49 = some (7, .aload_n 0, 1) := by decide +kernel
theorem i_35_50 : q_dec 35 50 = some (7, .getfield 34, 3) := by decide +kernel
theorem i_35_53 : q_dec 35 53 = some (7, .iload_n 3, 1) := by decide +kernel
theorem i_35_54 : q_dec 35 54 = some (7, .imul, 1) := by decide +kernel
theorem i_35_55 : q_dec 35 55 = some (7, .iload_n 3, 1) := by decide +kernel
theorem i_35_56 : q_dec 35 56 = some (7, .imul, 1) := by decide +kernel
theorem i_35_57 : q_dec 35 57 = some (7, .istore 4, 2) := by decide +kernel
theorem i_35_59 : q_dec 35 59 = some (7, .iload_n 2, 1) := by decide +kernel
theorem i_35_60 : q_dec 35 60 = some (7, .ifCond .eq (22), 3) := by decide +kernel
theorem i_35_63 : q_dec 35 63 = some (7, .aload_n 0, 1) := by decide +kernel
theorem i_35_64 : q_dec 35 64 = some (7, .getfield 40, 3) := by decide +kernel
theorem i_35_67 : q_dec 35 67 = some (7, .ifCond .eq (15), 3) := by decide +kernel
theorem i_35_70 : q_dec 35 70 = some (7, .aload_n 0, 1) := by decide +kernel
theorem i_35_71 : q_dec 35 71 = some (7, .getfield 44, 3) := by decide +kernel
theorem i_35_74 : q_dec 35 74 = some (7, .iconst 2, 1) := by decide +kernel
theorem i_35_75 : q_dec 35 75 = some (7, .iload 4, 2) := by decide +kernel
theorem i_35_77 : q_dec 35 77 = some (7, .imul, 1) := by decide +kernel
theorem i_35_78 : q_dec 35 78 = some (7, .iadd, 1) := by decide +kernel
theorem i_35_79 : q_dec 35 79 = some (7, .goto 10, 3) := by decide +kernel
theorem i_35_82 : q_dec 35 82 = some (7, .aload_n 0, 1) := by decide +kernel
theorem i_35_83 : q_dec 35 83 = some (7, .getfield 44, 3) := by decide +kernel
theorem i_35_86 : q_dec 35 86 = some (7, .iload 4, 2) := by decide +kernel
theorem i_35_88 : q_dec 35 88 = some (7, .iadd, 1) := by decide +kernel
theorem i_35_89 : q_dec 35 89 = some (7, .ireturn, 1) := by decide +kernel
theorem i_36_0 : q_dec 36 0 = some (7, .iconst 0, 1) := by decide +kernel
theorem i_36_1 : q_dec 36 1 = some (7, .istore_n 2, 1) := by decide +kernel
theorem i_36_2 : q_dec 36 2 = some (7, .iconst 0, 1) := by decide +kernel
theorem i_36_3 : q_dec 36 3 = some (7, .istore_n 3, 1) := by decide +kernel
theorem i_36_4 : q_dec 36 4 = some (7, .iload_n 3, 1) := by decide +kernel
theorem i_36_5 : q_dec 36 5 = some (7, .iconst 4, 1) := by decide +kernel
theorem i_36_6 : q_dec 36 6 = some (7, .if_icmp .ge (41), 3) := by decide +kernel
theorem i_36_9 : q_dec 36 9 = some (7, .iload_n 1, 1) := by decide +kernel
theorem i_36_10 : q_dec 36 10 = some (7, .istore 4, 2) := by decide +kernel
theorem i_36_12 : q_dec 36 12 = some (7, .iconst 0, 1) := by decide +kernel
theorem i_36_13 : q_dec 36 13 = some (7, .istore 5, 2) := by decide +kernel
theorem i_36_15 : q_dec 36 15 = some (7, .iload 5, 2) := by decide +kernel
theorem i_36_17 : q_dec 36 17 = some (7, .iconst 4, 1) := by decide +kernel
theorem i_36_18 : q_dec 36 18 = some (7, .if_icmp .ge (23), 3) := by decide +kernel
theorem i_36_21 : q_dec 36 21 = some (7, .aload_n 0, 1) := by decide +kernel
theorem i_36_22 : q_dec 36 22 = some (7, .iload 4, 2) := by decide +kernel
theorem i_36_24 : q_dec 36 24 = some (7, .iload_n 3, 1) := by decide +kernel
theorem i_36_25 : q_dec 36 25 = some (7, .invokevirtual 91, 3) := by decide +kernel
theorem i_36_28 : q_dec 36 28 = some (7, .istore 4, 2) := by decide +kernel
theorem i_36_30 : q_dec 36 30 = some (7, .iload_n 2, 1) := by decide +kernel
theorem i_36_31 : q_dec 36 31 = some (7, .iload 4, 2) := by decide +kernel
theorem i_36_33 : q_dec 36 33 = some (7, .ior, 1) := by decide +kernel
theorem i_36_34 : q_dec 36 34 = some (7, .istore_n 2, 1) := by decide +kernel
theorem i_36_35 : q_dec 36 35 = some (7, .iinc 5 1, 3) := by decide +kernel
theorem i_36_38 : q_dec 36 38 = some (7, .goto (-23), 3) := by decide +kernel
theorem i_36_41 : q_dec 36 41 = some (7, .iinc 3 1, 3) := by decide +kernel
theorem i_36_44 : q_dec 36 44 = some (7, .goto (-40), 3) := by decide +kernel
theorem i_36_47 : q_dec 36 47 = some (7, .iload_n 2, 1) := by decide +kernel
theorem i_36_48 : q_dec 36 48 = some (7, .ireturn, 1) := by decide +kernel
theorem i_37_0 : q_dec 37 0 = some (7, .iconst 0, 1) := by decide +kernel
theorem i_37_1 : q_dec 37 1 = some (7, .istore_n 3, 1) := by decide +kernel
theorem i_37_2 : q_dec 37 2 = some (7, .iconst 0, 1) := by decide +kernel
theorem i_37_3 : q_dec 37 3 = some (7, .istore 4, 2) := by decide +kernel
theorem i_37_5 : q_dec 37 5 = some (7, .iload 4, 2) := by decide +kernel
theorem i_37_7 : q_dec 37 7 = some (7, .aload_n 0, 1) := by decide +kernel
theorem i_37_8 : q_dec 37 8 = some (7, .invokevirtual 67, 3) := by decide +kernel
theorem i_37_11 : q_dec 37 11 = some (7, .if_icmp .ge (44), 3) := by decide +kernel
theorem i_37_14 : q_dec 37 14 = some (7, .iload_n 1, 1) := by decide +kernel
theorem i_37_15 : q_dec 37 15 = some (7, .iload 4, 2) := by decide +kernel
theorem i_37_17 : q_dec 37 17 = some (7, .invokestatic 84, 3) := by decide +kernel
theorem i_37_20 : q_dec 37 20 = some (7, .ifCond .eq (13), 3) := by decide +kernel
theorem i_37_23 : q_dec 37 23 = some (7, .aload_n 0, 1) := by decide +kernel
theorem i_37_24 : q_dec 37 24 = some (7, .iload 4, 2) := by decide +kernel
theorem i_37_26 : q_dec 37 26 = some (7, .iload_n 2, 1) := by decide +kernel
theorem i_37_27 : q_dec 37 27 = some (7, .invokevirtual 88, 3) := by decide +kernel
theorem i_37_30 : q_dec 37 30 = some (7, .goto 4, 3) := by decide +kernel
theorem i_37_33 : q_dec 37 33 = some (7, .iconst (-1), 1) := by decide +kernel
theorem i_37_34 : q_dec 37 34 = some (7, .istore 5, 2) := by decide +kernel
theorem i_37_36 : q_dec 37 36 = some (7, .iload 5, 2) := by decide +kernel
theorem i_37_38 : q_dec 37 38 = some (7, .iconst (-1), 1) := by decide +kernel
theorem i_37_39 : q_dec 37 39 = some (7, .if_icmp .eq (10), 3) := by decide +kernel
theorem i_37_42 : q_dec 37 42 = some (7, .iload_n 3, 1) := by decide +kernel
theorem i_37_43 : q_dec 37 43 = some (7, .iconst 1, 1) := by decide +kernel
theorem i_37_44 : q_dec 37 44 = some (7, .iload 5, 2) := by decide +kernel
theorem i_37_46 : q_dec 37 46 = some (7, .ishl, 1) := by decide +kernel
theorem i_37_47 : q_dec 37 47 = some (7, .ior, 1) := by decide +kernel
theorem i_37_48 : q_dec 37 48 = some (7, .istore_n 3, 1) := by decide +kernel
theorem i_37_49 : q_dec 37 49 = some (7, .iinc 4 1, 3) := by decide +kernel
theorem i_37_52 : q_dec 37 52 = some (7, .goto (-47), 3) := by decide +kernel
theorem i_37_55 : q_dec 37 55 = some (7, .iload_n 3, 1) := by decide +kernel
theorem i_37_56 : q_dec 37 56 = some (7, .ireturn, 1) := by decide +kernel
theorem i_38_0 : q_dec 38 0 = some (7, .iconst 0, 1) := by decide +kernel
theorem i_38_1 : q_dec 38 1 = some (7, .istore_n 2, 1) := by decide +kernel
theorem i_38_2 : q_dec 38 2 = some (7, .iconst 0, 1) := by decide +kernel
theorem i_38_3 : q_dec 38 3 = some (7, .istore_n 3, 1) := by decide +kernel
theorem i_38_4 : q_dec 38 4 = some (7, .iload_n 3, 1) := by decide +kernel
theorem i_38_5 : q_dec 38 5 = some (7, .iconst 4, 1) := by decide +kernel
theorem i_38_6 : q_dec 38 6 = some (7, .if_icmp .ge (18), 3) := by decide +kernel
theorem i_38_9 : q_dec 38 9 = some (7, .iload_n 2, 1) := by decide +kernel
theorem i_38_10 : q_dec 38 10 = some (7, .aload_n 0, 1) := by decide +kernel
theorem i_38_11 : q_dec 38 11 = some (7, .iload_n 1, 1) := by decide +kernel
theorem i_38_12 : q_dec 38 12 = some (7, .iload_n 3, 1) := by decide +kernel
theorem i_38_13 : q_dec 38 13 = some (7, .invokevirtual 91, 3) := by decide +kernel
theorem i_38_16 : q_dec 38 16 = some (7, .ior, 1) := by decide +kernel
theorem i_38_17 : q_dec 38 17 = some (7, .istore_n 2, 1) := by decide +kernel
theorem i_38_18 : q_dec 38 18 = some (7, .iinc 3 1, 3) := by decide +kernel
theorem i_38_21 : q_dec 38 21 = some (7, .goto (-17), 3) := by decide +kernel
theorem i_38_24 : q_dec 38 24 = some (7, .iload_n 2, 1) := by decide +kernel
theorem i_38_25 : q_dec 38 25 = some (7, .ireturn, 1) := by decide +kernel
theorem i_39_0 : q_dec 39 0 = some (7, .iconst 0, 1) := by decide +kernel
theorem i_39_1 : q_dec 39 1 = some (7, .istore_n 2, 1) := by decide +kernel
theorem i_39_2 : q_dec 39 2 = some (7, .iconst 0, 1) := by decide +kernel
theorem i_39_3 : q_dec 39 3 = some (7, .istore_n 3, 1) := by decide +kernel
theorem i_39_4 : q_dec 39 4 = some (7, .iload_n 3, 1) := by decide +kernel
theorem i_39_5 : q_dec 39 5 = some (7, .aload_n 0, 1) := by decide +kernel
theorem i_39_6 : q_dec 39 6 = some (7, .invokevirtual 67, 3) := by decide +kernel
theorem i_39_9 : q_dec 39 9 = some (7, .if_icmp .ge (21), 3) := by decide +kernel
theorem i_39_12 : q_dec 39 12 = some (7, .aload_n 0, 1) := by decide +kernel
theorem i_39_13 : q_dec 39 13 = some (7, .iload_n 3, 1) := by decide +kernel
theorem i_39_14 : q_dec 39 14 = some (7, .invokevirtual 77, 3) := by decide +kernel
theorem i_39_17 : q_dec 39 17 = some (7, .iload_n 1, 1) := by decide +kernel
theorem i_39_18 : q_dec 39 18 = some (7, .if_icmp .ne (6), 3) := by decide +kernel
theorem i_39_21 : q_dec 39 21 = some (7, .iinc 2 1, 3) := by decide +kernel
theorem i_39_24 : q_dec 39 24 = some (7, .iinc 3 1, 3) := by decide +kernel
theorem i_39_27 : q_dec 39 27 = some (7, .goto (-23), 3) := by decide +kernel
theorem i_39_30 : q_dec 39 30 = some (7, .iload_n 2, 1) := by decide +kernel
theorem i_39_31 : q_dec 39 31 = some (7, .ireturn, 1) := by decide +kernel
theorem i_40_0 : q_dec 40 0 = some (8, .aload_n 0, 1) := by decide +kernel
theorem i_40_1 : q_dec 40 1 = some (8, .iconst (-1), 1) := by decide +kernel
theorem i_40_2 : q_dec 40 2 = some (8, .putfield 9, 3) := by decide +kernel
theorem i_40_5 : q_dec 40 5 = some (8, .aload_n 0, 1) := by decide +kernel
theorem i_40_6 : q_dec 40 6 = some (8, .iconst 0, 1) := by decide +kernel
theorem i_40_7 : q_dec 40 7 = some (8, .putfield 15, 3) := by decide +kernel
theorem i_40_10 : q_dec 40 10 = some (8, .aload_n 0, 1) := by decide +kernel
theorem i_40_11 : q_dec 40 11 = some (8, .iconst 0, 1) := by decide +kernel
theorem i_40_12 : q_dec 40 12 = some (8, .putfield 18, 3) := by decide +kernel
theorem i_40_15 : q_dec 40 15 = some (8, .return_, 1) := by decide +kernel
theorem i_41_0 : q_dec 41 0 = some (8, .aload_n 0, 1) := by decide +kernel
theorem i_41_1 : q_dec 41 1 = some (8, .getfield 18, 3) := by decide +kernel
theorem i_41_4 : q_dec 41 4 = some (8, .ifCond .le (26), 3) := by decide +kernel
theorem i_41_7 : q_dec 41 7 = some (8, .aload_n 0, 1) := by decide +kernel
theorem i_41_8 : q_dec 41 8 = some (8, .getfield 18, 3) := by decide +kernel
theorem i_41_11 : q_dec 41 11 = some (8, .bipush 60, 2) := by decide +kernel
theorem i_41_13 : q_dec 41 13 = some (8, .if_icmp .gt (17), 3) := by decide +kernel
theorem i_41_16 : q_dec 41 16 = some (8, .aload_n 0, 1) := by decide +kernel
theorem i_41_17 : q_dec 41 17 = some (8, .getfield 29, 3) := by decide +kernel
theorem i_41_20 : q_dec 41 20 = some (8, .aload_n 0, 1) := by decide +kernel
theorem i_41_21 : q_dec 41 21 = some (8, .getfield 18, 3) := by decide +kernel
theorem i_41_24 : q_dec 41 24 = some (8, .iconst 1, 1) := by decide +kernel
theorem i_41_25 : q_dec 41 25 = some (8, .isub, 1) := by decide +kernel
theorem i_41_26 : q_dec 41 26 = some (8, .iaload, 1) := by decide +kernel
theorem i_41_27 : q_dec 41 27 = some (8, .goto 4, 3) := by decide +kernel
theorem i_41_30 : q_dec 41 30 = some (8, .iconst (-1), 1) := by decide +kernel
theorem i_41_31 : q_dec 41 31 = some (8, .ireturn, 1) := by decide +kernel
theorem i_42_0 : q_dec 42 0 = some (8, .aload_n 0, 1) := by decide +kernel
theorem i_42_1 : q_dec 42 1 = some (8, .getfield 18, 3) := by decide +kernel
theorem i_42_4 : q_dec 42 4 = some (8, .ifCond .le (26), 3) := by decide +kernel
theorem i_42_7 : q_dec 42 7 = some (8, .aload_n 0, 1) := by decide +kernel
theorem i_42_8 : q_dec 42 8 = some (8, .getfield 18, 3) := by decide +kernel
theorem i_42_11 : q_dec 42 11 = some (8, .bipush 60, 2) := by decide +kernel
theorem i_42_13 : q_dec 42 13 = some (8, .if_icmp .gt (17), 3) := by decide +kernel
theorem i_42_16 : q_dec 42 16 = some (8, .aload_n 0, 1) := by decide +kernel
theorem i_42_17 : q_dec 42 17 = some (8, .getfield 32, 3) := by decide +kernel
theorem i_42_20 : q_dec 42 20 = some (8, .aload_n 0, 1) := by decide +kernel
theorem i_42_21 : q_dec 42 21 = some (8, .getfield 18, 3) := by decide +kernel
theorem i_42_24 : q_dec 42 24 = some (8, .iconst 1, 1) := by decide +kernel
theorem i_42_25 : q_dec 42 25 = some (8, .isub, 1) := by decide +kernel
theorem i_42_26 : q_dec 42 26 = some (8, .iaload, 1) := by decide +kernel
theorem i_42_27 : q_dec 42 27 = some (8, .goto 4, 3) := by decide +kernel
theorem i_42_30 : q_dec 42 30 = some (8, .iconst 0, 1) := by decide +kernel
theorem i_42_31 : q_dec 42 31 = some (8, .ireturn, 1) := by decide +kernel
theorem i_43_0 : q_dec 43 0 = some (8, .aload_n 0, 1) := by decide +kernel
theorem i_43_1 : q_dec 43 1 = some (8, .getfield 18, 3) := by decide +kernel
theorem i_43_4 : q_dec 43 4 = some (8, .ifCond .lt (81), 3) := by decide +kernel
theorem i_43_7 : q_dec 43 7 = some (8, .aload_n 0, 1) := by decide +kernel
theorem i_43_8 : q_dec 43 8 = some (8, .getfield 18, 3) := by decide +kernel
theorem i_43_11 : q_dec 43 11 = some (8, .bipush 60, 2) := by decide +kernel
theorem i_43_13 : q_dec 43 13 = some (8, .if_icmp .ge (72), 3) := by decide +kernel
theorem i_43_16 : q_dec 43 16 = some (8, .aload_n 0, 1) := by decide +kernel
theorem i_43_17 : q_dec 43 17 = some (8, .getfield 25, 3) := by decide +kernel
theorem i_43_20 : q_dec 43 20 = some (8, .aload_n 0, 1) := by decide +kernel
theorem i_43_21 : q_dec 43 21 = some (8, .getfield 18, 3) := by decide +kernel
theorem i_43_24 : q_dec 43 24 = some (8, .aload_n 0, 1) := by decide +kernel
theorem i_43_25 : q_dec 43 25 = some (8, .getfield 9, 3) := by decide +kernel
theorem i_43_28 : q_dec 43 28 = some (8, .iastore, 1) := by decide +kernel
theorem i_43_29 : q_dec 43 29 = some (8, .aload_n 0, 1) := by decide +kernel
theorem i_43_30 : q_dec 43 30 = some (8, .getfield 29, 3) := by decide +kernel
theorem i_43_33 : q_dec 43 33 = some (8, .aload_n 0, 1) := by decide +kernel
theorem i_43_34 : q_dec 43 34 = some (8, .getfield 18, 3) := by decide +kernel
theorem i_43_37 : q_dec 43 37 = some (8, .iload_n 1, 1) := by decide +kernel
theorem i_43_38 : q_dec 43 38 = some (8, .iastore, 1) := by decide +kernel
theorem i_43_39 : q_dec 43 39 = some (8, .aload_n 0, 1) := by decide +kernel
theorem i_43_40 : q_dec 43 40 = some (8, .getfield 32, 3) := by decide +kernel
theorem i_43_43 : q_dec 43 43 = some (8, .aload_n 0, 1) := by decide +kernel
theorem i_43_44 : q_dec 43 44 = some (8, .getfield 18, 3) := by decide +kernel
theorem i_43_47 : q_dec 43 47 = some (8, .iload_n 2, 1) := by decide +kernel
theorem i_43_48 : q_dec 43 48 = some (8, .iastore, 1) := by decide +kernel
theorem i_43_49 : q_dec 43 49 = some (8, .aload_n 0, 1) := by decide +kernel
theorem i_43_50 : q_dec 43 50 = some (8, .getfield 35, 3) := by decide +kernel
theorem i_43_53 : q_dec 43 53 = some (8, .aload_n 0, 1) := by decide +kernel
theorem i_43_54 : q_dec 43 54 = some (8, .getfield 18, 3) := by decide +kernel
theorem i_43_57 : q_dec 43 57 = some (8, .iload_n 3, 1) := by decide +kernel
theorem i_43_58 : q_dec 43 58 = some (8, .iastore, 1) := by decide +kernel
theorem i_43_59 : q_dec 43 59 = some (8, .aload_n 0, 1) := by decide +kernel
theorem i_43_60 : q_dec 43 60 = some (8, .dup, 1) := by decide +kernel
theorem i_43_61 : q_dec 43 61 = some (8, .getfield 18, 3) := by decide +kernel
theorem i_43_64 : q_dec 43 64 = some (8, .iconst 1, 1) := by decide +kernel
theorem i_43_65 : q_dec 43 65 = some (8, .iadd, 1) := by decide +kernel
theorem i_43_66 : q_dec 43 66 = some (8, .putfield 18, 3) := by decide +kernel
theorem i_43_69 : q_dec 43 69 = some (8, .aload_n 0, 1) := by decide +kernel
theorem i_43_70 : q_dec 43 70 = some (8, .dup, 1) := by decide +kernel
theorem i_43_71 : q_dec 43 71 = some (8, .getfield 15, 3) := by decide +kernel
theorem i_43_74 : q_dec 43 74 = some (8, .iload_n 3, 1) := by decide +kernel
theorem i_43_75 : q_dec 43 75 = some (8, .iadd, 1) := by decide +kernel
theorem i_43_76 : q_dec 43 76 = some (8, .putfield 15, 3) := by decide +kernel
theorem i_43_79 : q_dec 43 79 = some (8, .aload_n 0, 1) := by decide +kernel
theorem i_43_80 : q_dec 43 80 = some (8, .iload 4, 2) := by decide +kernel
theorem i_43_82 : q_dec 43 82 = some (8, .putfield 9, 3) := by decide +kernel
theorem i_43_85 : q_dec 43 85 = some (8, .return_, 1) := by decide +kernel
theorem i_44_0 : q_dec 44 0 = some (8, .aload_n 0, 1) := by decide +kernel
theorem i_44_1 : q_dec 44 1 = some (8, .getfield 18, 3) := by decide +kernel
theorem i_44_4 : q_dec 44 4 = some (8, .ifCond .le (12), 3) := by decide +kernel
theorem i_44_7 : q_dec 44 7 = some (8, .aload_n 0, 1) := by decide +kernel
theorem i_44_8 : q_dec 44 8 = some (8, .getfield 18, 3) := by decide +kernel
theorem i_44_11 : q_dec 44 11 = some (8, .bipush 60, 2) := by decide +kernel
theorem i_44_13 : q_dec 44 13 = some (8, .if_icmp .le (5), 3) := by decide +kernel
theorem i_44_16 : q_dec 44 16 = some (8, .iconst 0, 1) := by decide +kernel
theorem i_44_17 : q_dec 44 17 = some (8, .ireturn, 1) := by decide +kernel
theorem i_44_18 : q_dec 44 18 = some (8, .aload_n 0, 1) := by decide +kernel
theorem i_44_19 : q_dec 44 19 = some (8, .dup, 1) := by decide +kernel
theorem i_44_20 : q_dec 44 20 = some (8, .getfield 18, 3) := by decide +kernel
theorem i_44_23 : q_dec 44 23 = some (8, .iconst 1, 1) := by decide +kernel
theorem i_44_24 : q_dec 44 24 = some (8, .isub, 1) := by decide +kernel
theorem i_44_25 : q_dec 44 25 = some (8, .putfield 18, 3) := by decide +kernel
theorem i_44_28 : q_dec 44 28 = some (8, .aload_n 0, 1) := by decide +kernel
theorem i_44_29 : q_dec 44 29 = some (8, .aload_n 0, 1) := by decide +kernel
theorem i_44_30 : q_dec 44 30 = some (8, .getfield 25, 3) := by decide +kernel
theorem i_44_33 : q_dec 44 33 = some (8, .aload_n 0, 1) := by decide +kernel
theorem i_44_34 : q_dec 44 34 = some (8, .getfield 18, 3) := by decide +kernel
theorem i_44_37 : q_dec 44 37 = some (8, .iaload, 1) := by decide +kernel
theorem i_44_38 : q_dec 44 38 = some (8, .putfield 9, 3) := by decide +kernel
theorem i_44_41 : q_dec 44 41 = some (8, .aload_n 0, 1) := by decide +kernel
theorem i_44_42 : q_dec 44 42 = some (8, .dup, 1) := by decide +kernel
theorem i_44_43 : q_dec 44 43 = some (8, .getfield 15, 3) := by decide +kernel
theorem i_44_46 : q_dec 44 46 = some (8, .aload_n 0, 1) := by decide +kernel
theorem i_44_47 : q_dec 44 47 = some (8, .getfield 35, 3) := by decide +kernel
theorem i_44_50 : q_dec 44 50 = some (8, .aload_n 0, 1) := by decide +kernel
theorem i_44_51 : q_dec 44 51 = some (8, .getfield 18, 3) := by decide +kernel
theorem i_44_54 : q_dec 44 54 = some (8, .iaload, 1) := by decide +kernel
theorem i_44_55 : q_dec 44 55 = some (8, .isub, 1) := by decide +kernel
theorem i_44_56 : q_dec 44 56 = some (8, .putfield 15, 3) := by decide +kernel
theorem i_44_59 : q_dec 44 59 = some (8, .aload_n 0, 1) := by decide +kernel
theorem i_44_60 : q_dec 44 60 = some (8, .getfield 35, 3) := by decide +kernel
theorem i_44_63 : q_dec 44 63 = some (8, .aload_n 0, 1) := by decide +kernel
theorem i_44_64 : q_dec 44 64 = some (8, .getfield 18, 3) := by decide +kernel
theorem i_44_67 : q_dec 44 67 = some (8, .iaload, 1) := by decide +kernel
theorem i_44_68 : q_dec 44 68 = some (8, .ireturn, 1) := by decide +kernel
theorem i_45_0 : q_dec 45 0 = some (8, .aload_n 0, 1) := by decide +kernel
theorem i_45_1 : q_dec 45 1 = some (8, .aload_n 1, 1) := by decide +kernel
theorem i_45_2 : q_dec 45 2 = some (8, .getfield 9, 3) := by decide +kernel
theorem i_45_5 : q_dec 45 5 = some (8, .putfield 9, 3) := by decide +kernel
theorem i_45_8 : q_dec 45 8 = some (8, .aload_n 0, 1) := by decide +kernel
theorem i_45_9 : q_dec 45 9 = some (8, .aload_n 1, 1) := by decide +kernel
theorem i_45_10 : q_dec 45 10 = some (8, .getfield 15, 3) := by decide +kernel
theorem i_45_13 : q_dec 45 13 = some (8, .putfield 15, 3) := by decide +kernel
theorem i_45_16 : q_dec 45 16 = some (8, .aload_n 0, 1) := by decide +kernel
theorem i_45_17 : q_dec 45 17 = some (8, .aload_n 1, 1) := by decide +kernel
theorem i_45_18 : q_dec 45 18 = some (8, .getfield 18, 3) := by decide +kernel
theorem i_45_21 : q_dec 45 21 = some (8, .putfield 18, 3) := by decide +kernel
theorem i_45_24 : q_dec 45 24 = some (8, .aload_n 0, 1) := by decide +kernel
theorem i_45_25 : q_dec 45 25 = some (8, .aload_n 1, 1) := by decide +kernel
theorem i_45_26 : q_dec 45 26 = some (8, .getfield 21, 3) := by decide +kernel
theorem i_45_29 : q_dec 45 29 = some (8, .putfield 21, 3) := by decide +kernel
theorem i_45_32 : q_dec 45 32 = some (8, .aload_n 1, 1) := by decide +kernel
theorem i_45_33 : q_dec 45 33 = some (8, .getfield 25, 3) := by decide +kernel
theorem i_45_36 : q_dec 45 36 = some (8, .iconst 0, 1) := by decide +kernel
theorem i_45_37 : q_dec 45 37 = some (8, .aload_n 0, 1) := by decide +kernel
theorem i_45_38 : q_dec 45 38 = some (8, .getfield 25, 3) := by decide +kernel
theorem i_45_41 : q_dec 45 41 = some (8, .iconst 0, 1) := by decide +kernel
theorem i_45_42 : q_dec 45 42 = some (8, .bipush 60, 2) := by decide +kernel
theorem i_45_44 : q_dec 45 44 = some (8, .invokestatic 38, 3) := by decide +kernel
theorem i_45_47 : q_dec 45 47 = some (8, .aload_n 1, 1) := by decide +kernel
theorem i_45_48 : q_dec 45 48 = some (8, .getfield 29, 3) := by decide +kernel
theorem i_45_51 : q_dec 45 51 = some (8, .iconst 0, 1) := by decide +kernel
theorem i_45_52 : q_dec 45 52 = some (8, .aload_n 0, 1) := by decide +kernel
theorem i_45_53 : q_dec 45 53 = some (8, .getfield 29, 3) := by decide +kernel
theorem i_45_56 : q_dec 45 56 = some (8, .iconst 0, 1) := by decide +kernel
theorem i_45_57 : q_dec 45 57 = some (8, .bipush 60, 2) := by decide +kernel
theorem i_45_59 : q_dec 45 59 = some (8, .invokestatic 38, 3) := by decide +kernel
theorem i_45_62 : q_dec 45 62 = some (8, .aload_n 1, 1) := by decide +kernel
theorem i_45_63 : q_dec 45 63 = some (8, .getfield 32, 3) := by decide +kernel
theorem i_45_66 : q_dec 45 66 = some (8, .iconst 0, 1) := by decide +kernel
theorem i_45_67 : q_dec 45 67 = some (8, .aload_n 0, 1) := by decide +kernel
theorem i_45_68 : q_dec 45 68 = some (8, .getfield 32, 3) := by decide +kernel
theorem i_45_71 : q_dec 45 71 = some (8, .iconst 0, 1) := by decide +kernel
theorem i_45_72 : q_dec 45 72 = some (8, .bipush 60, 2) := by decide +kernel
theorem i_45_74 : q_dec 45 74 = some (8, .invokestatic 38, 3) := by decide +kernel
theorem i_45_77 : q_dec 45 77 = some (8, .aload_n 1, 1) := by decide +kernel
theorem i_45_78 : q_dec 45 78 = some (8, .getfield 35, 3) := by decide +kernel
theorem i_45_81 : q_dec 45 81 = some (8, .iconst 0, 1) := by decide +kernel
theorem i_45_82 : q_dec 45 82 = some (8, .aload_n 0, 1) := by decide +kernel
theorem i_45_83 : q_dec 45 83 = some (8, .getfield 35, 3) := by decide +kernel
theorem i_45_86 : q_dec 45 86 = some (8, .iconst 0, 1) := by decide +kernel
theorem i_45_87 : q_dec 45 87 = some (8, .bipush 60, 2) := by decide +kernel
theorem i_45_89 : q_dec 45 89 = some (8, .invokestatic 38, 3) := by decide +kernel
theorem i_45_92 : q_dec 45 92 = some (8, .return_, 1) := by decide +kernel
theorem i_46_0 : q_dec 46 0 = some (9, .aload_n 1, 1) := by decide +kernel
theorem i_46_1 : q_dec 46 1 = some (9, .dup, 1) := by decide +kernel
theorem i_46_2 : q_dec 46 2 = some (9, .getfield 7, 3) := by decide +kernel
theorem i_46_5 : q_dec 46 5 = some (9, .lconst 1, 1) := by decide +kernel
theorem i_46_6 : q_dec 46 6 = some (9, .ladd, 1) := by decide +kernel
theorem i_46_7 : q_dec 46 7 = some (9, .putfield 7, 3) := by decide +kernel
theorem i_46_10 : q_dec 46 10 = some (9, .aload_n 1, 1) := by decide +kernel
theorem i_46_11 : q_dec 46 11 = some (9, .getfield 13, 3) := by decide +kernel
theorem i_46_14 : q_dec 46 14 = some (9, .getfield 17, 3) := by decide +kernel
theorem i_46_17 : q_dec 46 17 = some (9, .ireturn, 1) := by decide +kernel
theorem i_47_0 : q_dec 47 0 = some (10, .aload_n 0, 1) := by decide +kernel
theorem i_47_1 : q_dec 47 1 = some (10, .aload_n 1, 1) := by decide +kernel
theorem i_47_2 : q_dec 47 2 = some (10, .putfield 44, 3) := by decide +kernel
theorem i_47_5 : q_dec 47 5 = some (10, .aload_n 0, 1) := by decide +kernel
theorem i_47_6 : q_dec 47 6 = some (10, .iload_n 2, 1) := by decide +kernel
theorem i_47_7 : q_dec 47 7 = some (10, .putfield 9, 3) := by decide +kernel
theorem i_47_10 : q_dec 47 10 = some (10, .iconst 1, 1) := by decide +kernel
theorem i_47_11 : q_dec 47 11 = some (10, .istore_n 3, 1) := by decide +kernel
theorem i_47_12 : q_dec 47 12 = some (10, .iload_n 3, 1) := by decide +kernel
theorem i_47_13 : q_dec 47 13 = some (10, .iconst 4, 1) := by decide +kernel
theorem i_47_14 : q_dec 47 14 = some (10, .if_icmp .gt (54), 3) := by decide +kernel
theorem i_47_17 : q_dec 47 17 = some (10, .aload_n 0, 1) := by decide +kernel
theorem i_47_18 : q_dec 47 18 = some (10, .getfield 19, 3) := by decide +kernel
theorem i_47_21 : q_dec 47 21 = some (10, .iload_n 3, 1) := by decide +kernel
theorem i_47_22 : q_dec 47 22 = some (10, .aload_n 0, 1) := by decide +kernel
theorem i_47_23 : q_dec 47 23 = some (10, .getfield 19, 3) := by decide +kernel
theorem i_47_26 : q_dec 47 26 = some (10, .iload_n 3, 1) := by decide +kernel
theorem i_47_27 : q_dec 47 27 = some (10, .iconst 1, 1) := by decide +kernel
theorem i_47_28 : q_dec 47 28 = some (10, .isub, 1) := by decide +kernel
theorem i_47_29 : q_dec 47 29 = some (10, .iaload, 1) := by decide +kernel
theorem i_47_30 : q_dec 47 30 = some (10, .aload_n 0, 1) := by decide +kernel
theorem i_47_31 : q_dec 47 31 = some (10, .getfield 44, 3) := by decide +kernel
theorem i_47_34 : q_dec 47 34 = some (10, .iload_n 3, 1) := by decide +kernel
theorem i_47_35 : q_dec 47 35 = some (10, .aload_n 0, 1) := by decide +kernel
theorem i_47_36 : q_dec 47 36 = some (10, .getfield 9, 3) := by decide +kernel
theorem i_47_39 : q_dec 47 39 = some (10, .invokevirtual 48, 3) := by decide +kernel
theorem i_47_42 : q_dec 47 42 = some (10, .iadd, 1) := by decide +kernel
theorem i_47_43 : q_dec 47 43 = some (10, .iastore, 1) := by decide +kernel
theorem i_47_44 : q_dec 47 44 = some (10, .aload_n 0, 1) := by decide +kernel
theorem i_47_45 : q_dec 47 45 = some (10, .getfield 23, 3) := by decide +kernel
theorem i_47_48 : q_dec 47 48 = some (10, .iload_n 3, 1) := by decide +kernel
theorem i_47_49 : q_dec 47 49 = some (10, .aload_n 0, 1) := by decide +kernel
theorem i_47_50 : q_dec 47 50 = some (10, .getfield 19, 3) := by decide +kernel
theorem i_47_53 : q_dec 47 53 = some (10, .iload_n 3, 1) := by decide +kernel
theorem i_47_54 : q_dec 47 54 = some (10, .iaload, 1) := by decide +kernel
theorem i_47_55 : q_dec 47 55 = some (10, .sipush 1024, 3) := by decide +kernel
theorem i_47_58 : q_dec 47 58 = some (10, .imul, 1) := by decide +kernel
theorem i_47_59 : q_dec 47 59 = some (10, .iload_n 3, 1) := by decide +kernel
theorem i_47_60 : q_dec 47 60 = some (10, .iadd, 1) := by decide +kernel
theorem i_47_61 : q_dec 47 61 = some (10, .iastore, 1) := by decide +kernel
theorem i_47_62 : q_dec 47 62 = some (10, .iinc 3 1, 3) := by decide +kernel
theorem i_47_65 : q_dec 47 65 = some (10, .goto (-53), 3) := by decide +kernel
theorem i_47_68 : q_dec 47 68 = some (10, .return_, 1) := by decide +kernel
theorem i_48_0 : q_dec 48 0 = some (10, .iconst 1, 1) := by decide +kernel
theorem i_48_1 : q_dec 48 1 = some (10, .istore_n 3, 1) := by decide +kernel
theorem i_48_2 : q_dec 48 2 = some (10, .iload_n 3, 1) := by decide +kernel
theorem i_48_3 : q_dec 48 3 = some (10, .iload_n 2, 1) := by decide +kernel
theorem i_48_4 : q_dec 48 4 = some (10, .bipush 10, 2) := by decide +kernel
theorem i_48_6 : q_dec 48 6 = some (10, .idiv, 1) := by decide +kernel
theorem i_48_7 : q_dec 48 7 = some (10, .if_icmp .gt (17), 3) := by decide +kernel
theorem i_48_10 : q_dec 48 10 = some (10, .iload_n 3, 1) := by decide +kernel
theorem i_48_11 : q_dec 48 11 = some (10, .ldc 54, 2) := by decide +kernel
theorem i_48_13 : q_dec 48 13 = some (10, .if_icmp .gt (11), 3) := by decide +kernel
theorem i_48_16 : q_dec 48 16 = some (10, .iload_n 3, 1) := by decide +kernel
theorem i_48_17 : q_dec 48 17 = some (10, .bipush 10, 2) := by decide +kernel
theorem i_48_19 : q_dec 48 19 = some (10, .imul, 1) := by decide +kernel
theorem i_48_20 : q_dec 48 20 = some (10, .istore_n 3, 1) := by decide +kernel
theorem i_48_21 : q_dec 48 21 = some (10, .goto (-19), 3) := by decide +kernel
theorem i_48_24 : q_dec 48 24 = some (10, .iload_n 1, 1) := by decide +kernel
theorem i_48_25 : q_dec 48 25 = some (10, .istore 4, 2) := by decide +kernel
theorem i_48_27 : q_dec 48 27 = some (10, .iconst (-1), 1) := by decide +kernel
theorem i_48_28 : q_dec 48 28 = some (10, .istore 5, 2) := by decide +kernel
theorem i_48_30 : q_dec 48 30 = some (10, .iconst 0, 1) := by decide +kernel
theorem i_48_31 : q_dec 48 31 = some (10, .istore 6, 2) := by decide +kernel
theorem i_48_33 : q_dec 48 33 = some (10, .iconst 0, 1) := by decide +kernel
theorem i_48_34 : q_dec 48 34 = some (10, .istore 7, 2) := by decide +kernel
theorem i_48_36 : q_dec 48 36 = some (10, .iload_n 2, 1) := by decide +kernel
theorem i_48_37 : q_dec 48 37 = some (10, .istore 8, 2) := by decide +kernel
theorem i_48_39 : q_dec 48 39 = some (10, .iconst 0, 1) := by decide +kernel
theorem i_48_40 : q_dec 48 40 = some (10, .istore 9, 2) := by decide +kernel
theorem i_48_42 : q_dec 48 42 = some (10, .iload 8, 2) := by decide +kernel
theorem i_48_44 : q_dec 48 44 = some (10, .ifCond .le (100), 3) := by decide +kernel
theorem i_48_47 : q_dec 48 47 = some (10, .iload_n 3, 1) := by decide +kernel
theorem i_48_48 : q_dec 48 48 = some (10, .ifCond .le (96), 3) := by decide +kernel
theorem i_48_51 : q_dec 48 51 = some (10, .iload 8, 2) := by decide +kernel
theorem i_48_53 : q_dec 48 53 = some (10, .iload_n 3, 1) := by decide +kernel
theorem i_48_54 : q_dec 48 54 = some (10, .idiv, 1) := by decide +kernel
theorem i_48_55 : q_dec 48 55 = some (10, .iconst 1, 1) := by decide +kernel
theorem i_48_56 : q_dec 48 56 = some (10, .isub, 1) := by decide +kernel
theorem i_48_57 : q_dec 48 57 = some (10, .istore 10, 2) := by decide +kernel
theorem i_48_59 : q_dec 48 59 = some (10, .aload_n 0, 1) := by decide +kernel
theorem i_48_60 : q_dec 48 60 = some (10, .getfield 44, 3) := by decide +kernel
theorem i_48_63 : q_dec 48 63 = some (10, .iload 4, 2) := by decide +kernel
theorem i_48_65 : q_dec 48 65 = some (10, .iload 10, 2) := by decide +kernel
theorem i_48_67 : q_dec 48 67 = some (10, .invokevirtual 55, 3) := by decide +kernel
theorem i_48_70 : q_dec 48 70 = some (10, .istore 11, 2) := by decide +kernel
theorem i_48_72 : q_dec 48 72 = some (10, .iload 11, 2) := by decide +kernel
theorem i_48_74 : q_dec 48 74 = some (10, .iconst (-1), 1) := by decide +kernel
theorem i_48_75 : q_dec 48 75 = some (10, .if_icmp .ne (9), 3) := by decide +kernel
theorem i_48_78 : q_dec 48 78 = some (10, .bipush (-10), 2) := by decide +kernel
theorem i_48_80 : q_dec 48 80 = some (10, .iload 9, 2) := by decide +kernel
theorem i_48_82 : q_dec 48 82 = some (10, .isub, 1) := by decide +kernel
theorem i_48_83 : q_dec 48 83 = some (10, .ireturn, 1) := by decide +kernel
theorem i_48_84 : q_dec 48 84 = some (10, .aload_n 0, 1) := by decide +kernel
theorem i_48_85 : q_dec 48 85 = some (10, .getfield 44, 3) := by decide +kernel
theorem i_48_88 : q_dec 48 88 = some (10, .iload 4, 2) := by decide +kernel
theorem i_48_90 : q_dec 48 90 = some (10, .iload 5, 2) := by decide +kernel
theorem i_48_92 : q_dec 48 92 = some (10, .iload 6, 2) := by decide +kernel
theorem i_48_94 : q_dec 48 94 = some (10, .iload 10, 2) := by decide +kernel
theorem i_48_96 : q_dec 48 96 = some (10, .invokevirtual 59, 3) := by decide +kernel
theorem i_48_99 : q_dec 48 99 = some (10, .istore 6, 2) := by decide +kernel
theorem i_48_101 : q_dec 48 101 = some (10, .iload 7, 2) := by decide +kernel
theorem i_48_103 : q_dec 48 103 = some (10, .aload_n 0, 1) := by decide +kernel
theorem i_48_104 : q_dec 48 104 = some (10, .getfield 44, 3) := by decide +kernel
theorem i_48_107 : q_dec 48 107 = some (10, .iload 6, 2) := by decide +kernel
theorem i_48_109 : q_dec 48 109 = some (10, .aload_n 0, 1) := by decide +kernel
theorem i_48_110 : q_dec 48 110 = some (10, .getfield 9, 3) := by decide +kernel
theorem i_48_113 : q_dec 48 113 = some (10, .invokevirtual 48, 3) := by decide +kernel
theorem i_48_116 : q_dec 48 116 = some (10, .iadd, 1) := by decide +kernel
theorem i_48_117 : q_dec 48 117 = some (10, .istore 7, 2) := by decide +kernel
theorem i_48_119 : q_dec 48 119 = some (10, .iload 10, 2) := by decide +kernel
theorem i_48_121 : q_dec 48 121 = some (10, .istore 5, 2) := by decide +kernel
theorem i_48_123 : q_dec 48 123 = some (10, .iload 11, 2) := by decide +kernel
theorem i_48_125 : q_dec 48 125 = some (10, .istore 4, 2) := by decide +kernel
theorem i_48_127 : q_dec 48 127 = some (10, .iload 8, 2) := by decide +kernel
theorem i_48_129 : q_dec 48 129 = some (10, .iload_n 3, 1) := by decide +kernel
theorem i_48_130 : q_dec 48 130 = some (10, .irem, 1) := by decide +kernel
theorem i_48_131 : q_dec 48 131 = some (10, .istore 8, 2) := by decide +kernel
theorem i_48_133 : q_dec 48 133 = some (10, .iload_n 3, 1) := by decide +kernel
theorem i_48_134 : q_dec 48 134 = some (10, .bipush 10, 2) := by decide +kernel
theorem i_48_136 : q_dec 48 136 = some (10, .idiv, 1) := by decide +kernel
theorem i_48_137 : q_dec 48 137 = some (10, .istore_n 3, 1) := by decide +kernel
theorem i_48_138 : q_dec 48 138 = some (10, .iinc 9 1, 3) := by decide +kernel
theorem i_48_141 : q_dec 48 141 = some (10, .goto (-99), 3) := by decide +kernel
theorem i_48_144 : q_dec 48 144 = some (10, .iload 7, 2) := by decide +kernel
theorem i_48_146 : q_dec 48 146 = some (10, .ireturn, 1) := by decide +kernel
theorem i_49_0 : q_dec 49 0 = some (10, .aload_n 0, 1) := by decide +kernel
theorem i_49_1 : q_dec 49 1 = some (10, .iload_n 1, 1) := by decide +kernel
theorem i_49_2 : q_dec 49 2 = some (10, .putfield 15, 3) := by decide +kernel
theorem i_49_5 : q_dec 49 5 = some (10, .aload_n 0, 1) := by decide +kernel
theorem i_49_6 : q_dec 49 6 = some (10, .getfield 26, 3) := by decide +kernel
theorem i_49_9 : q_dec 49 9 = some (10, .ldc 63, 2) := by decide +kernel
theorem i_49_11 : q_dec 49 11 = some (10, .invokestatic 64, 3) := by decide +kernel
theorem i_49_14 : q_dec 49 14 = some (10, .aload_n 0, 1) := by decide +kernel
theorem i_49_15 : q_dec 49 15 = some (10, .getfield 29, 3) := by decide +kernel
theorem i_49_18 : q_dec 49 18 = some (10, .ldc 63, 2) := by decide +kernel
theorem i_49_20 : q_dec 49 20 = some (10, .invokestatic 64, 3) := by decide +kernel
theorem i_49_23 : q_dec 49 23 = some (10, .iconst 0, 1) := by decide +kernel
theorem i_49_24 : q_dec 49 24 = some (10, .istore_n 2, 1) := by decide +kernel
theorem i_49_25 : q_dec 49 25 = some (10, .iload_n 2, 1) := by decide +kernel
theorem i_49_26 : q_dec 49 26 = some (10, .iconst 4, 1) := by decide +kernel
theorem i_49_27 : q_dec 49 27 = some (10, .if_icmp .ge (23), 3) := by decide +kernel
theorem i_49_30 : q_dec 49 30 = some (10, .aload_n 0, 1) := by decide +kernel
theorem i_49_31 : q_dec 49 31 = some (10, .getfield 29, 3) := by decide +kernel
theorem i_49_34 : q_dec 49 34 = some (10, .aload_n 0, 1) := by decide +kernel
theorem i_49_35 : q_dec 49 35 = some (10, .getfield 15, 3) := by decide +kernel
theorem i_49_38 : q_dec 49 38 = some (10, .iconst 4, 1) := by decide +kernel
theorem i_49_39 : q_dec 49 39 = some (10, .imul, 1) := by decide +kernel
theorem i_49_40 : q_dec 49 40 = some (10, .iload_n 2, 1) := by decide +kernel
theorem i_49_41 : q_dec 49 41 = some (10, .iadd, 1) := by decide +kernel
theorem i_49_42 : q_dec 49 42 = some (10, .iconst 0, 1) := by decide +kernel
theorem i_49_43 : q_dec 49 43 = some (10, .iastore, 1) := by decide +kernel
theorem i_49_44 : q_dec 49 44 = some (10, .iinc 2 1, 3) := by decide +kernel
theorem i_49_47 : q_dec 49 47 = some (10, .goto (-22), 3) := by decide +kernel
theorem i_49_50 : q_dec 49 50 = some (10, .iconst 1, 1) := by decide +kernel
theorem i_49_51 : q_dec 49 51 = some (10, .istore_n 2, 1) := by decide +kernel
theorem i_49_52 : q_dec 49 52 = some (10, .iconst 0, 1) := by decide +kernel
theorem i_49_53 : q_dec 49 53 = some (10, .istore_n 3, 1) := by decide +kernel
theorem i_49_54 : q_dec 49 54 = some (10, .iload_n 2, 1) := by decide +kernel
theorem i_49_55 : q_dec 49 55 = some (10, .ifCond .eq (74), 3) := by decide +kernel
theorem i_49_58 : q_dec 49 58 = some (10, .iload_n 3, 1) := by decide +kernel
theorem i_49_59 : q_dec 49 59 = some (10, .bipush 80, 2) := by decide +kernel
theorem i_49_61 : q_dec 49 61 = some (10, .if_icmp .gt (68), 3) := by decide +kernel
theorem i_49_64 : q_dec 49 64 = some (10, .iconst 0, 1) := by decide +kernel
theorem i_49_65 : q_dec 49 65 = some (10, .istore_n 2, 1) := by decide +kernel
theorem i_49_66 : q_dec 49 66 = some (10, .iconst 0, 1) := by decide +kernel
theorem i_49_67 : q_dec 49 67 = some (10, .istore 4, 2) := by decide +kernel
theorem i_49_69 : q_dec 49 69 = some (10, .iload 4, 2) := by decide +kernel
theorem i_49_71 : q_dec 49 71 = some (10, .aload_n 0, 1) := by decide +kernel
theorem i_49_72 : q_dec 49 72 = some (10, .getfield 44, 3) := by decide +kernel
theorem i_49_75 : q_dec 49 75 = some (10, .invokevirtual 70, 3) := by decide +kernel
theorem i_49_78 : q_dec 49 78 = some (10, .if_icmp .ge (45), 3) := by decide +kernel
theorem i_49_81 : q_dec 49 81 = some (10, .iload_n 3, 1) := by decide +kernel
theorem i_49_82 : q_dec 49 82 = some (10, .iconst 2, 1) := by decide +kernel
theorem i_49_83 : q_dec 49 83 = some (10, .irem, 1) := by decide +kernel
theorem i_49_84 : q_dec 49 84 = some (10, .ifCond .ne (8), 3) := by decide +kernel
theorem i_49_87 : q_dec 49 87 = some (10, .iload 4, 2) := by decide +kernel
theorem i_49_89 : q_dec 49 89 = some (10, .goto 15, 3) := by decide +kernel
theorem i_49_92 : q_dec 49 92 = some (10, .aload_n 0, 1) := by decide +kernel
theorem i_49_93 : q_dec 49 93 = some (10, .getfield 44, 3) := by decide +kernel
theorem i_49_96 : q_dec 49 96 = some (10, .invokevirtual 70, 3) := by decide +kernel
theorem i_49_99 : q_dec 49 99 = some (10, .iconst 1, 1) := by decide +kernel
theorem i_49_100 : q_dec 49 100 = some (10, .isub, 1) := by decide +kernel
theorem i_49_101 : q_dec 49 101 = some (10, .iload 4, 2) := by decide +kernel
theorem i_49_103 : q_dec 49 103 = some (10, .isub, 1) := by decide +kernel
theorem i_49_104 : q_dec 49 104 = some (10, .istore 5, 2) := by decide +kernel
theorem i_49_106 : q_dec 49 106 = some (10, .aload_n 0, 1) := by decide +kernel
theorem i_49_107 : q_dec 49 107 = some (10, .iload 5, 2) := by decide +kernel
theorem i_49_109 : q_dec 49 109 = some (10, .invokevirtual 74, 3) := by decide +kernel
theorem i_49_112 : q_dec 49 112 = some (10, .ifCond .eq (5), 3) := by decide +kernel
theorem i_49_115 : q_dec 49 115 = some (10, .iconst 1, 1) := by decide +kernel
theorem i_49_116 : q_dec 49 116 = some (10, .istore_n 2, 1) := by decide +kernel
theorem i_49_117 : q_dec 49 117 = some (10, .iinc 4 1, 3) := by decide +kernel
theorem i_49_120 : q_dec 49 120 = some (10, .goto (-51), 3) := by decide +kernel
theorem i_49_123 : q_dec 49 123 = some (10, .iinc 3 1, 3) := by decide +kernel
theorem i_49_126 : q_dec 49 126 = some (10, .goto (-72), 3) := by decide +kernel
theorem i_49_129 : q_dec 49 129 = some (10, .return_, 1) := by decide +kernel
theorem i_50_0 : q_dec 50 0 = some (10, .iload_n 1, 1) := by decide +kernel
theorem i_50_1 : q_dec 50 1 = some (10, .aload_n 0, 1) := by decide +kernel
theorem i_50_2 : q_dec 50 2 = some (10, .getfield 15, 3) := by decide +kernel
theorem i_50_5 : q_dec 50 5 = some (10, .if_icmp .eq (14), 3) := by decide +kernel
theorem i_50_8 : q_dec 50 8 = some (10, .aload_n 0, 1) := by decide +kernel
theorem i_50_9 : q_dec 50 9 = some (10, .getfield 44, 3) := by decide +kernel
end
section
theorem i_50_12 : q_dec 50 12 = some (10, .iload_n 1, 1) := by decide +kernel
theorem i_50_13 : q_dec 50 13 = some (10, .invokevirtual 78, 3) := by decide +kernel
theorem i_50_16 : q_dec 50 16 = some (10, .ifCond .ne (5), 3) := by decide +kernel
theorem i_50_19 : q_dec 50 19 = some (10, .iconst 0, 1) := by decide +kernel
theorem i_50_20 : q_dec 50 20 = some (10, .ireturn, 1) := by decide +kernel
theorem i_50_21 : q_dec 50 21 = some (10, .iconst 0, 1) := by decide +kernel
theorem i_50_22 : q_dec 50 22 = some (10, .istore_n 2, 1) := by decide +kernel
theorem i_50_23 : q_dec 50 23 = some (10, .iconst 0, 1) := by decide +kernel
theorem i_50_24 : q_dec 50 24 = some (10, .istore_n 3, 1) := by decide +kernel
theorem i_50_25 : q_dec 50 25 = some (10, .iload_n 3, 1) := by decide +kernel
theorem i_50_26 : q_dec 50 26 = some (10, .iconst 4, 1) := by decide +kernel
theorem i_50_27 : q_dec 50 27 = some (10, .if_icmp .ge (47), 3) := by decide +kernel
theorem i_50_30 : q_dec 50 30 = some (10, .aload_n 0, 1) := by decide +kernel
theorem i_50_31 : q_dec 50 31 = some (10, .iload_n 1, 1) := by decide +kernel
theorem i_50_32 : q_dec 50 32 = some (10, .iload_n 3, 1) := by decide +kernel
theorem i_50_33 : q_dec 50 33 = some (10, .iconst 0, 1) := by decide +kernel
theorem i_50_34 : q_dec 50 34 = some (10, .invokevirtual 81, 3) := by decide +kernel
theorem i_50_37 : q_dec 50 37 = some (10, .istore 4, 2) := by decide +kernel
theorem i_50_39 : q_dec 50 39 = some (10, .iload 4, 2) := by decide +kernel
theorem i_50_41 : q_dec 50 41 = some (10, .aload_n 0, 1) := by decide +kernel
theorem i_50_42 : q_dec 50 42 = some (10, .getfield 26, 3) := by decide +kernel
theorem i_50_45 : q_dec 50 45 = some (10, .iload_n 1, 1) := by decide +kernel
theorem i_50_46 : q_dec 50 46 = some (10, .iconst 4, 1) := by decide +kernel
theorem i_50_47 : q_dec 50 47 = some (10, .imul, 1) := by decide +kernel
theorem i_50_48 : q_dec 50 48 = some (10, .iload_n 3, 1) := by decide +kernel
theorem i_50_49 : q_dec 50 49 = some (10, .iadd, 1) := by decide +kernel
theorem i_50_50 : q_dec 50 50 = some (10, .iaload, 1) := by decide +kernel
theorem i_50_51 : q_dec 50 51 = some (10, .if_icmp .ge (17), 3) := by decide +kernel
theorem i_50_54 : q_dec 50 54 = some (10, .aload_n 0, 1) := by decide +kernel
theorem i_50_55 : q_dec 50 55 = some (10, .getfield 26, 3) := by decide +kernel
theorem i_50_58 : q_dec 50 58 = some (10, .iload_n 1, 1) := by decide +kernel
theorem i_50_59 : q_dec 50 59 = some (10, .iconst 4, 1) := by decide +kernel
theorem i_50_60 : q_dec 50 60 = some (10, .imul, 1) := by decide +kernel
theorem i_50_61 : q_dec 50 61 = some (10, .iload_n 3, 1) := by decide +kernel
theorem i_50_62 : q_dec 50 62 = some (10, .iadd, 1) := by decide +kernel
theorem i_50_63 : q_dec 50 63 = some (10, .iload 4, 2) := by decide +kernel
theorem i_50_65 : q_dec 50 65 = some (10, .iastore, 1) := by decide +kernel
theorem i_50_66 : q_dec 50 66 = some (10, .iconst 1, 1) := by decide +kernel
theorem i_50_67 : q_dec 50 67 = some (10, .istore_n 2, 1) := by decide +kernel
theorem i_50_68 : q_dec 50 68 = some (10, .iinc 3 1, 3) := by decide +kernel
theorem i_50_71 : q_dec 50 71 = some (10, .goto (-46), 3) := by decide +kernel
theorem i_50_74 : q_dec 50 74 = some (10, .iconst 0, 1) := by decide +kernel
theorem i_50_75 : q_dec 50 75 = some (10, .istore_n 3, 1) := by decide +kernel
theorem i_50_76 : q_dec 50 76 = some (10, .iload_n 2, 1) := by decide +kernel
theorem i_50_77 : q_dec 50 77 = some (10, .ifCond .eq (45), 3) := by decide +kernel
theorem i_50_80 : q_dec 50 80 = some (10, .iload_n 3, 1) := by decide +kernel
theorem i_50_81 : q_dec 50 81 = some (10, .iconst 4, 1) := by decide +kernel
theorem i_50_82 : q_dec 50 82 = some (10, .if_icmp .ge (40), 3) := by decide +kernel
theorem i_50_85 : q_dec 50 85 = some (10, .aload_n 0, 1) := by decide +kernel
theorem i_50_86 : q_dec 50 86 = some (10, .getfield 29, 3) := by decide +kernel
theorem i_50_89 : q_dec 50 89 = some (10, .iload_n 1, 1) := by decide +kernel
theorem i_50_90 : q_dec 50 90 = some (10, .iconst 4, 1) := by decide +kernel
theorem i_50_91 : q_dec 50 91 = some (10, .imul, 1) := by decide +kernel
theorem i_50_92 : q_dec 50 92 = some (10, .iload_n 3, 1) := by decide +kernel
theorem i_50_93 : q_dec 50 93 = some (10, .iadd, 1) := by decide +kernel
theorem i_50_94 : q_dec 50 94 = some (10, .aload_n 0, 1) := by decide +kernel
theorem i_50_95 : q_dec 50 95 = some (10, .iload_n 1, 1) := by decide +kernel
theorem i_50_96 : q_dec 50 96 = some (10, .aload_n 0, 1) := by decide +kernel
theorem i_50_97 : q_dec 50 97 = some (10, .getfield 44, 3) := by decide +kernel
theorem i_50_100 : q_dec 50 100 = some (10, .iload_n 1, 1) := by decide +kernel
theorem i_50_101 : q_dec 50 101 = some (10, .invokevirtual 85, 3) := by decide +kernel
theorem i_50_104 : q_dec 50 104 = some (10, .ifCond .eq (7), 3) := by decide +kernel
theorem i_50_107 : q_dec 50 107 = some (10, .iconst (-1), 1) := by decide +kernel
theorem i_50_108 : q_dec 50 108 = some (10, .goto 4, 3) := by decide +kernel
theorem i_50_111 : q_dec 50 111 = some (10, .iload_n 3, 1) := by decide +kernel
theorem i_50_112 : q_dec 50 112 = some (10, .invokevirtual 88, 3) := by decide +kernel
theorem i_50_115 : q_dec 50 115 = some (10, .iastore, 1) := by decide +kernel
theorem i_50_116 : q_dec 50 116 = some (10, .iinc 3 1, 3) := by decide +kernel
theorem i_50_119 : q_dec 50 119 = some (10, .goto (-43), 3) := by decide +kernel
theorem i_50_122 : q_dec 50 122 = some (10, .iload_n 2, 1) := by decide +kernel
theorem i_50_123 : q_dec 50 123 = some (10, .ireturn, 1) := by decide +kernel
theorem i_51_0 : q_dec 51 0 = some (10, .ldc 63, 2) := by decide +kernel
theorem i_51_2 : q_dec 51 2 = some (10, .istore 4, 2) := by decide +kernel
theorem i_51_4 : q_dec 51 4 = some (10, .iload_n 1, 1) := by decide +kernel
theorem i_51_5 : q_dec 51 5 = some (10, .istore 5, 2) := by decide +kernel
theorem i_51_7 : q_dec 51 7 = some (10, .iload_n 3, 1) := by decide +kernel
theorem i_51_8 : q_dec 51 8 = some (10, .iconst 1, 1) := by decide +kernel
theorem i_51_9 : q_dec 51 9 = some (10, .iadd, 1) := by decide +kernel
theorem i_51_10 : q_dec 51 10 = some (10, .istore 6, 2) := by decide +kernel
theorem i_51_12 : q_dec 51 12 = some (10, .iload 6, 2) := by decide +kernel
theorem i_51_14 : q_dec 51 14 = some (10, .iconst 4, 1) := by decide +kernel
theorem i_51_15 : q_dec 51 15 = some (10, .if_icmp .gt (78), 3) := by decide +kernel
theorem i_51_18 : q_dec 51 18 = some (10, .aload_n 0, 1) := by decide +kernel
theorem i_51_19 : q_dec 51 19 = some (10, .getfield 44, 3) := by decide +kernel
theorem i_51_22 : q_dec 51 22 = some (10, .iload 5, 2) := by decide +kernel
theorem i_51_24 : q_dec 51 24 = some (10, .iload_n 2, 1) := by decide +kernel
theorem i_51_25 : q_dec 51 25 = some (10, .invokevirtual 55, 3) := by decide +kernel
theorem i_51_28 : q_dec 51 28 = some (10, .istore 5, 2) := by decide +kernel
theorem i_51_30 : q_dec 51 30 = some (10, .iload 5, 2) := by decide +kernel
theorem i_51_32 : q_dec 51 32 = some (10, .iconst (-1), 1) := by decide +kernel
theorem i_51_33 : q_dec 51 33 = some (10, .if_icmp .ne (6), 3) := by decide +kernel
theorem i_51_36 : q_dec 51 36 = some (10, .goto 57, 3) := by decide +kernel
theorem i_51_39 : q_dec 51 39 = some (10, .iload 4, 2) := by decide +kernel
theorem i_51_41 : q_dec 51 41 = some (10, .aload_n 0, 1) := by decide +kernel
theorem i_51_42 : q_dec 51 42 = some (10, .getfield 23, 3) := by decide +kernel
theorem i_51_45 : q_dec 51 45 = some (10, .iload 6, 2) := by decide +kernel
theorem i_51_47 : q_dec 51 47 = some (10, .iaload, 1) := by decide +kernel
theorem i_51_48 : q_dec 51 48 = some (10, .aload_n 0, 1) := by decide +kernel
theorem i_51_49 : q_dec 51 49 = some (10, .getfield 23, 3) := by decide +kernel
theorem i_51_52 : q_dec 51 52 = some (10, .iload_n 3, 1) := by decide +kernel
theorem i_51_53 : q_dec 51 53 = some (10, .iaload, 1) := by decide +kernel
theorem i_51_54 : q_dec 51 54 = some (10, .isub, 1) := by decide +kernel
theorem i_51_55 : q_dec 51 55 = some (10, .aload_n 0, 1) := by decide +kernel
theorem i_51_56 : q_dec 51 56 = some (10, .getfield 29, 3) := by decide +kernel
theorem i_51_59 : q_dec 51 59 = some (10, .iload 5, 2) := by decide +kernel
theorem i_51_61 : q_dec 51 61 = some (10, .iconst 4, 1) := by decide +kernel
theorem i_51_62 : q_dec 51 62 = some (10, .imul, 1) := by decide +kernel
theorem i_51_63 : q_dec 51 63 = some (10, .iload_n 2, 1) := by decide +kernel
theorem i_51_64 : q_dec 51 64 = some (10, .iadd, 1) := by decide +kernel
theorem i_51_65 : q_dec 51 65 = some (10, .iaload, 1) := by decide +kernel
theorem i_51_66 : q_dec 51 66 = some (10, .iadd, 1) := by decide +kernel
theorem i_51_67 : q_dec 51 67 = some (10, .invokestatic 91, 3) := by decide +kernel
theorem i_51_70 : q_dec 51 70 = some (10, .istore 4, 2) := by decide +kernel
theorem i_51_72 : q_dec 51 72 = some (10, .aload_n 0, 1) := by decide +kernel
theorem i_51_73 : q_dec 51 73 = some (10, .getfield 44, 3) := by decide +kernel
theorem i_51_76 : q_dec 51 76 = some (10, .iload 5, 2) := by decide +kernel
theorem i_51_78 : q_dec 51 78 = some (10, .invokevirtual 85, 3) := by decide +kernel
theorem i_51_81 : q_dec 51 81 = some (10, .ifCond .eq (6), 3) := by decide +kernel
theorem i_51_84 : q_dec 51 84 = some (10, .goto 9, 3) := by decide +kernel
theorem i_51_87 : q_dec 51 87 = some (10, .iinc 6 1, 3) := by decide +kernel
theorem i_51_90 : q_dec 51 90 = some (10, .goto (-78), 3) := by decide +kernel
theorem i_51_93 : q_dec 51 93 = some (10, .iload 4, 2) := by decide +kernel
theorem i_51_95 : q_dec 51 95 = some (10, .ireturn, 1) := by decide +kernel
theorem i_52_0 : q_dec 52 0 = some (10, .ldc 63, 2) := by decide +kernel
theorem i_52_2 : q_dec 52 2 = some (10, .istore_n 3, 1) := by decide +kernel
theorem i_52_3 : q_dec 52 3 = some (10, .iconst 0, 1) := by decide +kernel
theorem i_52_4 : q_dec 52 4 = some (10, .istore 4, 2) := by decide +kernel
theorem i_52_6 : q_dec 52 6 = some (10, .iload 4, 2) := by decide +kernel
theorem i_52_8 : q_dec 52 8 = some (10, .iconst 4, 1) := by decide +kernel
theorem i_52_9 : q_dec 52 9 = some (10, .if_icmp .ge (31), 3) := by decide +kernel
theorem i_52_12 : q_dec 52 12 = some (10, .iload 4, 2) := by decide +kernel
theorem i_52_14 : q_dec 52 14 = some (10, .iload_n 2, 1) := by decide +kernel
theorem i_52_15 : q_dec 52 15 = some (10, .if_icmp .eq (19), 3) := by decide +kernel
theorem i_52_18 : q_dec 52 18 = some (10, .iload_n 3, 1) := by decide +kernel
theorem i_52_19 : q_dec 52 19 = some (10, .aload_n 0, 1) := by decide +kernel
theorem i_52_20 : q_dec 52 20 = some (10, .getfield 26, 3) := by decide +kernel
theorem i_52_23 : q_dec 52 23 = some (10, .iload_n 1, 1) := by decide +kernel
theorem i_52_24 : q_dec 52 24 = some (10, .iconst 4, 1) := by decide +kernel
theorem i_52_25 : q_dec 52 25 = some (10, .imul, 1) := by decide +kernel
theorem i_52_26 : q_dec 52 26 = some (10, .iload 4, 2) := by decide +kernel
theorem i_52_28 : q_dec 52 28 = some (10, .iadd, 1) := by decide +kernel
theorem i_52_29 : q_dec 52 29 = some (10, .iaload, 1) := by decide +kernel
theorem i_52_30 : q_dec 52 30 = some (10, .invokestatic 91, 3) := by decide +kernel
theorem i_52_33 : q_dec 52 33 = some (10, .istore_n 3, 1) := by decide +kernel
theorem i_52_34 : q_dec 52 34 = some (10, .iinc 4 1, 3) := by decide +kernel
theorem i_52_37 : q_dec 52 37 = some (10, .goto (-31), 3) := by decide +kernel
theorem i_52_40 : q_dec 52 40 = some (10, .iload_n 3, 1) := by decide +kernel
theorem i_52_41 : q_dec 52 41 = some (10, .ireturn, 1) := by decide +kernel
theorem i_53_0 : q_dec 53 0 = some (10, .iload_n 1, 1) := by decide +kernel
theorem i_53_1 : q_dec 53 1 = some (10, .aload_n 0, 1) := by decide +kernel
theorem i_53_2 : q_dec 53 2 = some (10, .getfield 15, 3) := by decide +kernel
theorem i_53_5 : q_dec 53 5 = some (10, .if_icmp .ne (7), 3) := by decide +kernel
theorem i_53_8 : q_dec 53 8 = some (10, .iconst 0, 1) := by decide +kernel
theorem i_53_9 : q_dec 53 9 = some (10, .goto 9, 3) := by decide +kernel
theorem i_53_12 : q_dec 53 12 = some (10, .aload_n 0, 1) := by decide +kernel
theorem i_53_13 : q_dec 53 13 = some (10, .iload_n 1, 1) := by decide +kernel
theorem i_53_14 : q_dec 53 14 = some (10, .iconst (-1), 1) := by decide +kernel
theorem i_53_15 : q_dec 53 15 = some (10, .invokevirtual 88, 3) := by decide +kernel
theorem i_53_18 : q_dec 53 18 = some (10, .ireturn, 1) := by decide +kernel
theorem i_54_0 : q_dec 54 0 = some (10, .iload_n 0, 1) := by decide +kernel
theorem i_54_1 : q_dec 54 1 = some (10, .sipush 1024, 3) := by decide +kernel
theorem i_54_4 : q_dec 54 4 = some (10, .idiv, 1) := by decide +kernel
theorem i_54_5 : q_dec 54 5 = some (10, .ireturn, 1) := by decide +kernel
theorem i_55_0 : q_dec 55 0 = some (10, .iload_n 0, 1) := by decide +kernel
theorem i_55_1 : q_dec 55 1 = some (10, .sipush 1024, 3) := by decide +kernel
theorem i_55_4 : q_dec 55 4 = some (10, .irem, 1) := by decide +kernel
theorem i_55_5 : q_dec 55 5 = some (10, .ireturn, 1) := by decide +kernel
theorem i_56_0 : q_dec 56 0 = some (10, .iload_n 1, 1) := by decide +kernel
theorem i_56_1 : q_dec 56 1 = some (10, .istore_n 3, 1) := by decide +kernel
theorem i_56_2 : q_dec 56 2 = some (10, .iconst (-1), 1) := by decide +kernel
theorem i_56_3 : q_dec 56 3 = some (10, .istore 4, 2) := by decide +kernel
theorem i_56_5 : q_dec 56 5 = some (10, .iconst 0, 1) := by decide +kernel
theorem i_56_6 : q_dec 56 6 = some (10, .istore 5, 2) := by decide +kernel
theorem i_56_8 : q_dec 56 8 = some (10, .aload_n 0, 1) := by decide +kernel
theorem i_56_9 : q_dec 56 9 = some (10, .iload_n 1, 1) := by decide +kernel
theorem i_56_10 : q_dec 56 10 = some (10, .invokevirtual 96, 3) := by decide +kernel
theorem i_56_13 : q_dec 56 13 = some (10, .istore 6, 2) := by decide +kernel
theorem i_56_15 : q_dec 56 15 = some (10, .iconst 0, 1) := by decide +kernel
theorem i_56_16 : q_dec 56 16 = some (10, .istore 7, 2) := by decide +kernel
theorem i_56_18 : q_dec 56 18 = some (10, .iload 7, 2) := by decide +kernel
theorem i_56_20 : q_dec 56 20 = some (10, .iload_n 2, 1) := by decide +kernel
theorem i_56_21 : q_dec 56 21 = some (10, .if_icmp .gt (85), 3) := by decide +kernel
theorem i_56_24 : q_dec 56 24 = some (10, .iload 7, 2) := by decide +kernel
theorem i_56_26 : q_dec 56 26 = some (10, .sipush 1024, 3) := by decide +kernel
theorem i_56_29 : q_dec 56 29 = some (10, .if_icmp .ge (77), 3) := by decide +kernel
theorem i_56_32 : q_dec 56 32 = some (10, .aload_n 0, 1) := by decide +kernel
theorem i_56_33 : q_dec 56 33 = some (10, .iload_n 3, 1) := by decide +kernel
theorem i_56_34 : q_dec 56 34 = some (10, .iload 4, 2) := by decide +kernel
theorem i_56_36 : q_dec 56 36 = some (10, .iload 5, 2) := by decide +kernel
theorem i_56_38 : q_dec 56 38 = some (10, .iload 6, 2) := by decide +kernel
theorem i_56_40 : q_dec 56 40 = some (10, .invokevirtual 110, 3) := by decide +kernel
theorem i_56_43 : q_dec 56 43 = some (10, .istore 8, 2) := by decide +kernel
theorem i_56_45 : q_dec 56 45 = some (10, .aload_n 0, 1) := by decide +kernel
theorem i_56_46 : q_dec 56 46 = some (10, .getfield 44, 3) := by decide +kernel
theorem i_56_49 : q_dec 56 49 = some (10, .iload_n 3, 1) := by decide +kernel
theorem i_56_50 : q_dec 56 50 = some (10, .iload 4, 2) := by decide +kernel
theorem i_56_52 : q_dec 56 52 = some (10, .iload 5, 2) := by decide +kernel
theorem i_56_54 : q_dec 56 54 = some (10, .iload 8, 2) := by decide +kernel
theorem i_56_56 : q_dec 56 56 = some (10, .invokevirtual 59, 3) := by decide +kernel
theorem i_56_59 : q_dec 56 59 = some (10, .istore 5, 2) := by decide +kernel
theorem i_56_61 : q_dec 56 61 = some (10, .iload 6, 2) := by decide +kernel
theorem i_56_63 : q_dec 56 63 = some (10, .aload_n 0, 1) := by decide +kernel
theorem i_56_64 : q_dec 56 64 = some (10, .getfield 44, 3) := by decide +kernel
theorem i_56_67 : q_dec 56 67 = some (10, .iload 5, 2) := by decide +kernel
theorem i_56_69 : q_dec 56 69 = some (10, .aload_n 0, 1) := by decide +kernel
theorem i_56_70 : q_dec 56 70 = some (10, .getfield 9, 3) := by decide +kernel
theorem i_56_73 : q_dec 56 73 = some (10, .invokevirtual 48, 3) := by decide +kernel
theorem i_56_76 : q_dec 56 76 = some (10, .sipush 1024, 3) := by decide +kernel
theorem i_56_79 : q_dec 56 79 = some (10, .imul, 1) := by decide +kernel
theorem i_56_80 : q_dec 56 80 = some (10, .iconst 1, 1) := by decide +kernel
theorem i_56_81 : q_dec 56 81 = some (10, .iadd, 1) := by decide +kernel
theorem i_56_82 : q_dec 56 82 = some (10, .isub, 1) := by decide +kernel
theorem i_56_83 : q_dec 56 83 = some (10, .istore 6, 2) := by decide +kernel
theorem i_56_85 : q_dec 56 85 = some (10, .iload 8, 2) := by decide +kernel
theorem i_56_87 : q_dec 56 87 = some (10, .istore 4, 2) := by decide +kernel
theorem i_56_89 : q_dec 56 89 = some (10, .aload_n 0, 1) := by decide +kernel
theorem i_56_90 : q_dec 56 90 = some (10, .getfield 44, 3) := by decide +kernel
theorem i_56_93 : q_dec 56 93 = some (10, .iload_n 3, 1) := by decide +kernel
theorem i_56_94 : q_dec 56 94 = some (10, .iload 8, 2) := by decide +kernel
theorem i_56_96 : q_dec 56 96 = some (10, .invokevirtual 55, 3) := by decide +kernel
theorem i_56_99 : q_dec 56 99 = some (10, .istore_n 3, 1) := by decide +kernel
theorem i_56_100 : q_dec 56 100 = some (10, .iinc 7 1, 3) := by decide +kernel
theorem i_56_103 : q_dec 56 103 = some (10, .goto (-85), 3) := by decide +kernel
theorem i_56_106 : q_dec 56 106 = some (10, .iload 4, 2) := by decide +kernel
theorem i_56_108 : q_dec 56 108 = some (10, .ireturn, 1) := by decide +kernel
theorem i_57_0 : q_dec 57 0 = some (10, .iconst 0, 1) := by decide +kernel
theorem i_57_1 : q_dec 57 1 = some (10, .istore 5, 2) := by decide +kernel
theorem i_57_3 : q_dec 57 3 = some (10, .iload 5, 2) := by decide +kernel
theorem i_57_5 : q_dec 57 5 = some (10, .iconst 4, 1) := by decide +kernel
theorem i_57_6 : q_dec 57 6 = some (10, .if_icmp .ge (38), 3) := by decide +kernel
theorem i_57_9 : q_dec 57 9 = some (10, .aload_n 0, 1) := by decide +kernel
theorem i_57_10 : q_dec 57 10 = some (10, .iload_n 1, 1) := by decide +kernel
theorem i_57_11 : q_dec 57 11 = some (10, .iload 5, 2) := by decide +kernel
theorem i_57_13 : q_dec 57 13 = some (10, .aload_n 0, 1) := by decide +kernel
theorem i_57_14 : q_dec 57 14 = some (10, .getfield 44, 3) := by decide +kernel
theorem i_57_17 : q_dec 57 17 = some (10, .iload_n 1, 1) := by decide +kernel
theorem i_57_18 : q_dec 57 18 = some (10, .iload_n 2, 1) := by decide +kernel
theorem i_57_19 : q_dec 57 19 = some (10, .iload_n 3, 1) := by decide +kernel
theorem i_57_20 : q_dec 57 20 = some (10, .iload 5, 2) := by decide +kernel
theorem i_57_22 : q_dec 57 22 = some (10, .invokevirtual 59, 3) := by decide +kernel
theorem i_57_25 : q_dec 57 25 = some (10, .iconst 1, 1) := by decide +kernel
theorem i_57_26 : q_dec 57 26 = some (10, .isub, 1) := by decide +kernel
theorem i_57_27 : q_dec 57 27 = some (10, .invokevirtual 81, 3) := by decide +kernel
theorem i_57_30 : q_dec 57 30 = some (10, .iload 4, 2) := by decide +kernel
theorem i_57_32 : q_dec 57 32 = some (10, .if_icmp .ne (6), 3) := by decide +kernel
theorem i_57_35 : q_dec 57 35 = some (10, .iload 5, 2) := by decide +kernel
theorem i_57_37 : q_dec 57 37 = some (10, .ireturn, 1) := by decide +kernel
theorem i_57_38 : q_dec 57 38 = some (10, .iinc 5 1, 3) := by decide +kernel
theorem i_57_41 : q_dec 57 41 = some (10, .goto (-38), 3) := by decide +kernel
theorem i_57_44 : q_dec 57 44 = some (10, .bipush (-9), 2) := by decide +kernel
theorem i_57_46 : q_dec 57 46 = some (10, .ireturn, 1) := by decide +kernel
theorem i_58_0 : q_dec 58 0 = some (10, .aload_n 0, 1) := by decide +kernel
theorem i_58_1 : q_dec 58 1 = some (10, .iload_n 2, 1) := by decide +kernel
theorem i_58_2 : q_dec 58 2 = some (10, .invokevirtual 103, 3) := by decide +kernel
theorem i_58_5 : q_dec 58 5 = some (10, .aload_n 0, 1) := by decide +kernel
theorem i_58_6 : q_dec 58 6 = some (10, .iload_n 1, 1) := by decide +kernel
theorem i_58_7 : q_dec 58 7 = some (10, .invokevirtual 107, 3) := by decide +kernel
theorem i_58_10 : q_dec 58 10 = some (10, .ireturn, 1) := by decide +kernel
theorem i_59_0 : q_dec 59 0 = some (10, .aload_n 0, 1) := by decide +kernel
theorem i_59_1 : q_dec 59 1 = some (10, .iload_n 1, 1) := by decide +kernel
theorem i_59_2 : q_dec 59 2 = some (10, .invokevirtual 96, 3) := by decide +kernel
theorem i_59_5 : q_dec 59 5 = some (10, .istore_n 2, 1) := by decide +kernel
theorem i_59_6 : q_dec 59 6 = some (10, .iload_n 2, 1) := by decide +kernel
theorem i_59_7 : q_dec 59 7 = some (10, .ldc 63, 2) := by decide +kernel
theorem i_59_9 : q_dec 59 9 = some (10, .if_icmp .ge (10), 3) := by decide +kernel
theorem i_59_12 : q_dec 59 12 = some (10, .iload_n 2, 1) := by decide +kernel
theorem i_59_13 : q_dec 59 13 = some (10, .invokestatic 100, 3) := by decide +kernel
theorem i_59_16 : q_dec 59 16 = some (10, .goto 5, 3) := by decide +kernel
theorem i_59_19 : q_dec 59 19 = some (10, .ldc 63, 2) := by decide +kernel
theorem i_59_21 : q_dec 59 21 = some (10, .ireturn, 1) := by decide +kernel
theorem i_60_0 : q_dec 60 0 = some (10, .iload_n 1, 1) := by decide +kernel
theorem i_60_1 : q_dec 60 1 = some (10, .iconst 5, 1) := by decide +kernel
theorem i_60_2 : q_dec 60 2 = some (10, .irem, 1) := by decide +kernel
theorem i_60_3 : q_dec 60 3 = some (10, .bipush 80, 2) := by decide +kernel
theorem i_60_5 : q_dec 60 5 = some (10, .imul, 1) := by decide +kernel
theorem i_60_6 : q_dec 60 6 = some (10, .istore 4, 2) := by decide +kernel
theorem i_60_8 : q_dec 60 8 = some (10, .iload_n 1, 1) := by decide +kernel
theorem i_60_9 : q_dec 60 9 = some (10, .ifCond .ne (42), 3) := by decide +kernel
theorem i_60_12 : q_dec 60 12 = some (10, .aload_n 0, 1) := by decide +kernel
theorem i_60_13 : q_dec 60 13 = some (10, .getfield 32, 3) := by decide +kernel
theorem i_60_16 : q_dec 60 16 = some (10, .ldc 63, 2) := by decide +kernel
theorem i_60_18 : q_dec 60 18 = some (10, .invokestatic 64, 3) := by decide +kernel
theorem i_60_21 : q_dec 60 21 = some (10, .iconst 0, 1) := by decide +kernel
theorem i_60_22 : q_dec 60 22 = some (10, .istore 5, 2) := by decide +kernel
theorem i_60_24 : q_dec 60 24 = some (10, .iload 5, 2) := by decide +kernel
theorem i_60_26 : q_dec 60 26 = some (10, .iconst 4, 1) := by decide +kernel
theorem i_60_27 : q_dec 60 27 = some (10, .if_icmp .ge (21), 3) := by decide +kernel
theorem i_60_30 : q_dec 60 30 = some (10, .aload_n 0, 1) := by decide +kernel
theorem i_60_31 : q_dec 60 31 = some (10, .getfield 32, 3) := by decide +kernel
theorem i_60_34 : q_dec 60 34 = some (10, .iload_n 2, 1) := by decide +kernel
theorem i_60_35 : q_dec 60 35 = some (10, .iconst 4, 1) := by decide +kernel
theorem i_60_36 : q_dec 60 36 = some (10, .imul, 1) := by decide +kernel
theorem i_60_37 : q_dec 60 37 = some (10, .iload 5, 2) := by decide +kernel
theorem i_60_39 : q_dec 60 39 = some (10, .iadd, 1) := by decide +kernel
theorem i_60_40 : q_dec 60 40 = some (10, .iconst 0, 1) := by decide +kernel
theorem i_60_41 : q_dec 60 41 = some (10, .iastore, 1) := by decide +kernel
theorem i_60_42 : q_dec 60 42 = some (10, .iinc 5 1, 3) := by decide +kernel
theorem i_60_45 : q_dec 60 45 = some (10, .goto (-21), 3) := by decide +kernel
theorem i_60_48 : q_dec 60 48 = some (10, .goto 49, 3) := by decide +kernel
theorem i_60_51 : q_dec 60 51 = some (10, .iconst 0, 1) := by decide +kernel
theorem i_60_52 : q_dec 60 52 = some (10, .istore 5, 2) := by decide +kernel
theorem i_60_54 : q_dec 60 54 = some (10, .iload 5, 2) := by decide +kernel
theorem i_60_56 : q_dec 60 56 = some (10, .aload_n 0, 1) := by decide +kernel
theorem i_60_57 : q_dec 60 57 = some (10, .getfield 44, 3) := by decide +kernel
theorem i_60_60 : q_dec 60 60 = some (10, .invokevirtual 70, 3) := by decide +kernel
theorem i_60_63 : q_dec 60 63 = some (10, .iconst 4, 1) := by decide +kernel
theorem i_60_64 : q_dec 60 64 = some (10, .imul, 1) := by decide +kernel
theorem i_60_65 : q_dec 60 65 = some (10, .if_icmp .ge (32), 3) := by decide +kernel
theorem i_60_68 : q_dec 60 68 = some (10, .aload_n 0, 1) := by decide +kernel
theorem i_60_69 : q_dec 60 69 = some (10, .getfield 32, 3) := by decide +kernel
theorem i_60_72 : q_dec 60 72 = some (10, .iload 4, 2) := by decide +kernel
theorem i_60_74 : q_dec 60 74 = some (10, .iload 5, 2) := by decide +kernel
theorem i_60_76 : q_dec 60 76 = some (10, .iadd, 1) := by decide +kernel
theorem i_60_77 : q_dec 60 77 = some (10, .aload_n 0, 1) := by decide +kernel
theorem i_60_78 : q_dec 60 78 = some (10, .iload_n 1, 1) := by decide +kernel
theorem i_60_79 : q_dec 60 79 = some (10, .iload 5, 2) := by decide +kernel
theorem i_60_81 : q_dec 60 81 = some (10, .iconst 4, 1) := by decide +kernel
theorem i_60_82 : q_dec 60 82 = some (10, .idiv, 1) := by decide +kernel
theorem i_60_83 : q_dec 60 83 = some (10, .iload 5, 2) := by decide +kernel
theorem i_60_85 : q_dec 60 85 = some (10, .iconst 4, 1) := by decide +kernel
theorem i_60_86 : q_dec 60 86 = some (10, .irem, 1) := by decide +kernel
theorem i_60_87 : q_dec 60 87 = some (10, .invokevirtual 113, 3) := by decide +kernel
theorem i_60_90 : q_dec 60 90 = some (10, .iastore, 1) := by decide +kernel
theorem i_60_91 : q_dec 60 91 = some (10, .iinc 5 1, 3) := by decide +kernel
theorem i_60_94 : q_dec 60 94 = some (10, .goto (-40), 3) := by decide +kernel
theorem i_60_97 : q_dec 60 97 = some (10, .aload_n 0, 1) := by decide +kernel
theorem i_60_98 : q_dec 60 98 = some (10, .iload_n 1, 1) := by decide +kernel
theorem i_60_99 : q_dec 60 99 = some (10, .iload_n 3, 1) := by decide +kernel
theorem i_60_100 : q_dec 60 100 = some (10, .iconst (-1), 1) := by decide +kernel
theorem i_60_101 : q_dec 60 101 = some (10, .invokevirtual 116, 3) := by decide +kernel
theorem i_60_104 : q_dec 60 104 = some (10, .ireturn, 1) := by decide +kernel
theorem i_61_0 : q_dec 61 0 = some (10, .ldc 63, 2) := by decide +kernel
theorem i_61_2 : q_dec 61 2 = some (10, .istore 4, 2) := by decide +kernel
theorem i_61_4 : q_dec 61 4 = some (10, .iload_n 2, 1) := by decide +kernel
theorem i_61_5 : q_dec 61 5 = some (10, .istore 5, 2) := by decide +kernel
theorem i_61_7 : q_dec 61 7 = some (10, .iconst 1, 1) := by decide +kernel
theorem i_61_8 : q_dec 61 8 = some (10, .istore 6, 2) := by decide +kernel
theorem i_61_10 : q_dec 61 10 = some (10, .iload 6, 2) := by decide +kernel
theorem i_61_12 : q_dec 61 12 = some (10, .iconst 4, 1) := by decide +kernel
theorem i_61_13 : q_dec 61 13 = some (10, .if_icmp .gt (81), 3) := by decide +kernel
theorem i_61_16 : q_dec 61 16 = some (10, .iload 6, 2) := by decide +kernel
theorem i_61_18 : q_dec 61 18 = some (10, .iload_n 1, 1) := by decide +kernel
theorem i_61_19 : q_dec 61 19 = some (10, .if_icmp .gt (75), 3) := by decide +kernel
theorem i_61_22 : q_dec 61 22 = some (10, .aload_n 0, 1) := by decide +kernel
theorem i_61_23 : q_dec 61 23 = some (10, .getfield 44, 3) := by decide +kernel
theorem i_61_26 : q_dec 61 26 = some (10, .iload 5, 2) := by decide +kernel
theorem i_61_28 : q_dec 61 28 = some (10, .iload_n 3, 1) := by decide +kernel
theorem i_61_29 : q_dec 61 29 = some (10, .iconst 2, 1) := by decide +kernel
theorem i_61_30 : q_dec 61 30 = some (10, .iadd, 1) := by decide +kernel
theorem i_61_31 : q_dec 61 31 = some (10, .iconst 4, 1) := by decide +kernel
theorem i_61_32 : q_dec 61 32 = some (10, .irem, 1) := by decide +kernel
theorem i_61_33 : q_dec 61 33 = some (10, .invokevirtual 55, 3) := by decide +kernel
theorem i_61_36 : q_dec 61 36 = some (10, .istore 5, 2) := by decide +kernel
theorem i_61_38 : q_dec 61 38 = some (10, .iload 5, 2) := by decide +kernel
theorem i_61_40 : q_dec 61 40 = some (10, .iconst (-1), 1) := by decide +kernel
theorem i_61_41 : q_dec 61 41 = some (10, .if_icmp .ne (6), 3) := by decide +kernel
theorem i_61_44 : q_dec 61 44 = some (10, .goto 50, 3) := by decide +kernel
theorem i_61_47 : q_dec 61 47 = some (10, .iload 4, 2) := by decide +kernel
theorem i_61_49 : q_dec 61 49 = some (10, .aload_n 0, 1) := by decide +kernel
theorem i_61_50 : q_dec 61 50 = some (10, .iload_n 1, 1) := by decide +kernel
theorem i_61_51 : q_dec 61 51 = some (10, .iload 6, 2) := by decide +kernel
theorem i_61_53 : q_dec 61 53 = some (10, .isub, 1) := by decide +kernel
theorem i_61_54 : q_dec 61 54 = some (10, .iload 5, 2) := by decide +kernel
theorem i_61_56 : q_dec 61 56 = some (10, .iload_n 3, 1) := by decide +kernel
theorem i_61_57 : q_dec 61 57 = some (10, .invokevirtual 116, 3) := by decide +kernel
theorem i_61_60 : q_dec 61 60 = some (10, .aload_n 0, 1) := by decide +kernel
theorem i_61_61 : q_dec 61 61 = some (10, .getfield 19, 3) := by decide +kernel
theorem i_61_64 : q_dec 61 64 = some (10, .iload 6, 2) := by decide +kernel
theorem i_61_66 : q_dec 61 66 = some (10, .iaload, 1) := by decide +kernel
theorem i_61_67 : q_dec 61 67 = some (10, .iadd, 1) := by decide +kernel
theorem i_61_68 : q_dec 61 68 = some (10, .invokestatic 91, 3) := by decide +kernel
theorem i_61_71 : q_dec 61 71 = some (10, .istore 4, 2) := by decide +kernel
theorem i_61_73 : q_dec 61 73 = some (10, .aload_n 0, 1) := by decide +kernel
theorem i_61_74 : q_dec 61 74 = some (10, .getfield 44, 3) := by decide +kernel
theorem i_61_77 : q_dec 61 77 = some (10, .iload 5, 2) := by decide +kernel
theorem i_61_79 : q_dec 61 79 = some (10, .invokevirtual 85, 3) := by decide +kernel
theorem i_61_82 : q_dec 61 82 = some (10, .ifCond .eq (6), 3) := by decide +kernel
theorem i_61_85 : q_dec 61 85 = some (10, .goto 9, 3) := by decide +kernel
theorem i_61_88 : q_dec 61 88 = some (10, .iinc 6 1, 3) := by decide +kernel
theorem i_61_91 : q_dec 61 91 = some (10, .goto (-81), 3) := by decide +kernel
theorem i_61_94 : q_dec 61 94 = some (10, .iload 4, 2) := by decide +kernel
theorem i_61_96 : q_dec 61 96 = some (10, .ireturn, 1) := by decide +kernel
theorem i_62_0 : q_dec 62 0 = some (10, .iload_n 1, 1) := by decide +kernel
theorem i_62_1 : q_dec 62 1 = some (10, .iconst 5, 1) := by decide +kernel
theorem i_62_2 : q_dec 62 2 = some (10, .irem, 1) := by decide +kernel
theorem i_62_3 : q_dec 62 3 = some (10, .bipush 80, 2) := by decide +kernel
theorem i_62_5 : q_dec 62 5 = some (10, .imul, 1) := by decide +kernel
theorem i_62_6 : q_dec 62 6 = some (10, .iload_n 2, 1) := by decide +kernel
theorem i_62_7 : q_dec 62 7 = some (10, .iconst 4, 1) := by decide +kernel
theorem i_62_8 : q_dec 62 8 = some (10, .imul, 1) := by decide +kernel
theorem i_62_9 : q_dec 62 9 = some (10, .iadd, 1) := by decide +kernel
theorem i_62_10 : q_dec 62 10 = some (10, .istore 4, 2) := by decide +kernel
theorem i_62_12 : q_dec 62 12 = some (10, .ldc 63, 2) := by decide +kernel
theorem i_62_14 : q_dec 62 14 = some (10, .istore 5, 2) := by decide +kernel
theorem i_62_16 : q_dec 62 16 = some (10, .iconst 0, 1) := by decide +kernel
theorem i_62_17 : q_dec 62 17 = some (10, .istore 6, 2) := by decide +kernel
theorem i_62_19 : q_dec 62 19 = some (10, .iload 6, 2) := by decide +kernel
theorem i_62_21 : q_dec 62 21 = some (10, .iconst 4, 1) := by decide +kernel
theorem i_62_22 : q_dec 62 22 = some (10, .if_icmp .ge (43), 3) := by decide +kernel
theorem i_62_25 : q_dec 62 25 = some (10, .iload 6, 2) := by decide +kernel
theorem i_62_27 : q_dec 62 27 = some (10, .iload_n 3, 1) := by decide +kernel
theorem i_62_28 : q_dec 62 28 = some (10, .if_icmp .ne (14), 3) := by decide +kernel
theorem i_62_31 : q_dec 62 31 = some (10, .aload_n 0, 1) := by decide +kernel
theorem i_62_32 : q_dec 62 32 = some (10, .getfield 44, 3) := by decide +kernel
theorem i_62_35 : q_dec 62 35 = some (10, .iload_n 2, 1) := by decide +kernel
theorem i_62_36 : q_dec 62 36 = some (10, .invokevirtual 85, 3) := by decide +kernel
theorem i_62_39 : q_dec 62 39 = some (10, .ifCond .eq (20), 3) := by decide +kernel
theorem i_62_42 : q_dec 62 42 = some (10, .iload 5, 2) := by decide +kernel
theorem i_62_44 : q_dec 62 44 = some (10, .aload_n 0, 1) := by decide +kernel
theorem i_62_45 : q_dec 62 45 = some (10, .getfield 32, 3) := by decide +kernel
theorem i_62_48 : q_dec 62 48 = some (10, .iload 4, 2) := by decide +kernel
theorem i_62_50 : q_dec 62 50 = some (10, .iload 6, 2) := by decide +kernel
theorem i_62_52 : q_dec 62 52 = some (10, .iadd, 1) := by decide +kernel
theorem i_62_53 : q_dec 62 53 = some (10, .iaload, 1) := by decide +kernel
theorem i_62_54 : q_dec 62 54 = some (10, .invokestatic 91, 3) := by decide +kernel
theorem i_62_57 : q_dec 62 57 = some (10, .istore 5, 2) := by decide +kernel
theorem i_62_59 : q_dec 62 59 = some (10, .iinc 6 1, 3) := by decide +kernel
theorem i_62_62 : q_dec 62 62 = some (10, .goto (-43), 3) := by decide +kernel
theorem i_62_65 : q_dec 62 65 = some (10, .iload 5, 2) := by decide +kernel
theorem i_62_67 : q_dec 62 67 = some (10, .ireturn, 1) := by decide +kernel
theorem i_63_0 : q_dec 63 0 = some (10, .iconst 0, 1) := by decide +kernel
theorem i_63_1 : q_dec 63 1 = some (10, .istore_n 3, 1) := by decide +kernel
theorem i_63_2 : q_dec 63 2 = some (10, .aload_n 0, 1) := by decide +kernel
theorem i_63_3 : q_dec 63 3 = some (10, .getfield 38, 3) := by decide +kernel
theorem i_63_6 : q_dec 63 6 = some (10, .iconst 0, 1) := by decide +kernel
theorem i_63_7 : q_dec 63 7 = some (10, .iload_n 1, 1) := by decide +kernel
theorem i_63_8 : q_dec 63 8 = some (10, .iastore, 1) := by decide +kernel
theorem i_63_9 : q_dec 63 9 = some (10, .iconst 0, 1) := by decide +kernel
theorem i_63_10 : q_dec 63 10 = some (10, .istore 4, 2) := by decide +kernel
theorem i_63_12 : q_dec 63 12 = some (10, .iload 4, 2) := by decide +kernel
theorem i_63_14 : q_dec 63 14 = some (10, .aload_n 0, 1) := by decide +kernel
theorem i_63_15 : q_dec 63 15 = some (10, .getfield 44, 3) := by decide +kernel
theorem i_63_18 : q_dec 63 18 = some (10, .invokevirtual 70, 3) := by decide +kernel
theorem i_63_21 : q_dec 63 21 = some (10, .if_icmp .ge (34), 3) := by decide +kernel
theorem i_63_24 : q_dec 63 24 = some (10, .iload_n 3, 1) := by decide +kernel
theorem i_63_25 : q_dec 63 25 = some (10, .iconst 4, 1) := by decide +kernel
theorem i_63_26 : q_dec 63 26 = some (10, .if_icmp .ge (29), 3) := by decide +kernel
theorem i_63_29 : q_dec 63 29 = some (10, .iload_n 2, 1) := by decide +kernel
theorem i_63_30 : q_dec 63 30 = some (10, .iload 4, 2) := by decide +kernel
theorem i_63_32 : q_dec 63 32 = some (10, .invokestatic 119, 3) := by decide +kernel
theorem i_63_35 : q_dec 63 35 = some (10, .ifCond .eq (14), 3) := by decide +kernel
theorem i_63_38 : q_dec 63 38 = some (10, .iinc 3 1, 3) := by decide +kernel
theorem i_63_41 : q_dec 63 41 = some (10, .aload_n 0, 1) := by decide +kernel
theorem i_63_42 : q_dec 63 42 = some (10, .getfield 38, 3) := by decide +kernel
theorem i_63_45 : q_dec 63 45 = some (10, .iload_n 3, 1) := by decide +kernel
theorem i_63_46 : q_dec 63 46 = some (10, .iload 4, 2) := by decide +kernel
theorem i_63_48 : q_dec 63 48 = some (10, .iastore, 1) := by decide +kernel
theorem i_63_49 : q_dec 63 49 = some (10, .iinc 4 1, 3) := by decide +kernel
theorem i_63_52 : q_dec 63 52 = some (10, .goto (-40), 3) := by decide +kernel
theorem i_63_55 : q_dec 63 55 = some (10, .iconst 0, 1) := by decide +kernel
theorem i_63_56 : q_dec 63 56 = some (10, .istore 4, 2) := by decide +kernel
theorem i_63_58 : q_dec 63 58 = some (10, .iload 4, 2) := by decide +kernel
theorem i_63_60 : q_dec 63 60 = some (10, .iload_n 3, 1) := by decide +kernel
theorem i_63_61 : q_dec 63 61 = some (10, .if_icmp .gt (72), 3) := by decide +kernel
theorem i_63_64 : q_dec 63 64 = some (10, .aload_n 0, 1) := by decide +kernel
theorem i_63_65 : q_dec 63 65 = some (10, .aload_n 0, 1) := by decide +kernel
theorem i_63_66 : q_dec 63 66 = some (10, .getfield 38, 3) := by decide +kernel
theorem i_63_69 : q_dec 63 69 = some (10, .iload 4, 2) := by decide +kernel
theorem i_63_71 : q_dec 63 71 = some (10, .iaload, 1) := by decide +kernel
theorem i_63_72 : q_dec 63 72 = some (10, .invokevirtual 103, 3) := by decide +kernel
theorem i_63_75 : q_dec 63 75 = some (10, .iconst 0, 1) := by decide +kernel
theorem i_63_76 : q_dec 63 76 = some (10, .istore 5, 2) := by decide +kernel
theorem i_63_78 : q_dec 63 78 = some (10, .iload 5, 2) := by decide +kernel
theorem i_63_80 : q_dec 63 80 = some (10, .iload_n 3, 1) := by decide +kernel
theorem i_63_81 : q_dec 63 81 = some (10, .if_icmp .gt (46), 3) := by decide +kernel
theorem i_63_84 : q_dec 63 84 = some (10, .aload_n 0, 1) := by decide +kernel
theorem i_63_85 : q_dec 63 85 = some (10, .aload_n 0, 1) := by decide +kernel
theorem i_63_86 : q_dec 63 86 = some (10, .getfield 38, 3) := by decide +kernel
theorem i_63_89 : q_dec 63 89 = some (10, .iload 5, 2) := by decide +kernel
theorem i_63_91 : q_dec 63 91 = some (10, .iaload, 1) := by decide +kernel
theorem i_63_92 : q_dec 63 92 = some (10, .invokevirtual 107, 3) := by decide +kernel
theorem i_63_95 : q_dec 63 95 = some (10, .istore 6, 2) := by decide +kernel
theorem i_63_97 : q_dec 63 97 = some (10, .iload 6, 2) := by decide +kernel
theorem i_63_99 : q_dec 63 99 = some (10, .ldc 63, 2) := by decide +kernel
theorem i_63_101 : q_dec 63 101 = some (10, .if_icmp .lt (6), 3) := by decide +kernel
theorem i_63_104 : q_dec 63 104 = some (10, .bipush (-9), 2) := by decide +kernel
theorem i_63_106 : q_dec 63 106 = some (10, .ireturn, 1) := by decide +kernel
theorem i_63_107 : q_dec 63 107 = some (10, .aload_n 0, 1) := by decide +kernel
theorem i_63_108 : q_dec 63 108 = some (10, .getfield 41, 3) := by decide +kernel
theorem i_63_111 : q_dec 63 111 = some (10, .iload 5, 2) := by decide +kernel
theorem i_63_113 : q_dec 63 113 = some (10, .iconst 5, 1) := by decide +kernel
theorem i_63_114 : q_dec 63 114 = some (10, .imul, 1) := by decide +kernel
theorem i_63_115 : q_dec 63 115 = some (10, .iload 4, 2) := by decide +kernel
theorem i_63_117 : q_dec 63 117 = some (10, .iadd, 1) := by decide +kernel
theorem i_63_118 : q_dec 63 118 = some (10, .iload 6, 2) := by decide +kernel
theorem i_63_120 : q_dec 63 120 = some (10, .iastore, 1) := by decide +kernel
theorem i_63_121 : q_dec 63 121 = some (10, .iinc 5 1, 3) := by decide +kernel
theorem i_63_124 : q_dec 63 124 = some (10, .goto (-46), 3) := by decide +kernel
theorem i_63_127 : q_dec 63 127 = some (10, .iinc 4 1, 3) := by decide +kernel
theorem i_63_130 : q_dec 63 130 = some (10, .goto (-72), 3) := by decide +kernel
theorem i_63_133 : q_dec 63 133 = some (10, .aload_n 0, 1) := by decide +kernel
theorem i_63_134 : q_dec 63 134 = some (10, .iconst 0, 1) := by decide +kernel
theorem i_63_135 : q_dec 63 135 = some (10, .iconst 1, 1) := by decide +kernel
theorem i_63_136 : q_dec 63 136 = some (10, .iload_n 3, 1) := by decide +kernel
theorem i_63_137 : q_dec 63 137 = some (10, .ishl, 1) := by decide +kernel
theorem i_63_138 : q_dec 63 138 = some (10, .iconst 1, 1) := by decide +kernel
theorem i_63_139 : q_dec 63 139 = some (10, .isub, 1) := by decide +kernel
theorem i_63_140 : q_dec 63 140 = some (10, .invokevirtual 123, 3) := by decide +kernel
theorem i_63_143 : q_dec 63 143 = some (10, .ireturn, 1) := by decide +kernel
theorem i_64_0 : q_dec 64 0 = some (10, .iload_n 2, 1) := by decide +kernel
theorem i_64_1 : q_dec 64 1 = some (10, .ifCond .ne (12), 3) := by decide +kernel
theorem i_64_4 : q_dec 64 4 = some (10, .aload_n 0, 1) := by decide +kernel
theorem i_64_5 : q_dec 64 5 = some (10, .getfield 41, 3) := by decide +kernel
theorem i_64_8 : q_dec 64 8 = some (10, .iload_n 1, 1) := by decide +kernel
theorem i_64_9 : q_dec 64 9 = some (10, .iconst 5, 1) := by decide +kernel
theorem i_64_10 : q_dec 64 10 = some (10, .imul, 1) := by decide +kernel
theorem i_64_11 : q_dec 64 11 = some (10, .iaload, 1) := by decide +kernel
theorem i_64_12 : q_dec 64 12 = some (10, .ireturn, 1) := by decide +kernel
theorem i_64_13 : q_dec 64 13 = some (10, .ldc 63, 2) := by decide +kernel
theorem i_64_15 : q_dec 64 15 = some (10, .istore_n 3, 1) := by decide +kernel
theorem i_64_16 : q_dec 64 16 = some (10, .iconst 1, 1) := by decide +kernel
theorem i_64_17 : q_dec 64 17 = some (10, .istore 4, 2) := by decide +kernel
theorem i_64_19 : q_dec 64 19 = some (10, .iload 4, 2) := by decide +kernel
theorem i_64_21 : q_dec 64 21 = some (10, .iconst 5, 1) := by decide +kernel
theorem i_64_22 : q_dec 64 22 = some (10, .if_icmp .ge (51), 3) := by decide +kernel
theorem i_64_25 : q_dec 64 25 = some (10, .iconst 1, 1) := by decide +kernel
theorem i_64_26 : q_dec 64 26 = some (10, .iload 4, 2) := by decide +kernel
theorem i_64_28 : q_dec 64 28 = some (10, .iconst 1, 1) := by decide +kernel
theorem i_64_29 : q_dec 64 29 = some (10, .isub, 1) := by decide +kernel
theorem i_64_30 : q_dec 64 30 = some (10, .ishl, 1) := by decide +kernel
theorem i_64_31 : q_dec 64 31 = some (10, .istore 5, 2) := by decide +kernel
theorem i_64_33 : q_dec 64 33 = some (10, .iload_n 2, 1) := by decide +kernel
theorem i_64_34 : q_dec 64 34 = some (10, .iload 5, 2) := by decide +kernel
theorem i_64_36 : q_dec 64 36 = some (10, .iand, 1) := by decide +kernel
theorem i_64_37 : q_dec 64 37 = some (10, .ifCond .eq (30), 3) := by decide +kernel
theorem i_64_40 : q_dec 64 40 = some (10, .iload_n 3, 1) := by decide +kernel
theorem i_64_41 : q_dec 64 41 = some (10, .aload_n 0, 1) := by decide +kernel
theorem i_64_42 : q_dec 64 42 = some (10, .getfield 41, 3) := by decide +kernel
theorem i_64_45 : q_dec 64 45 = some (10, .iload_n 1, 1) := by decide +kernel
theorem i_64_46 : q_dec 64 46 = some (10, .iconst 5, 1) := by decide +kernel
theorem i_64_47 : q_dec 64 47 = some (10, .imul, 1) := by decide +kernel
theorem i_64_48 : q_dec 64 48 = some (10, .iload 4, 2) := by decide +kernel
theorem i_64_50 : q_dec 64 50 = some (10, .iadd, 1) := by decide +kernel
theorem i_64_51 : q_dec 64 51 = some (10, .iaload, 1) := by decide +kernel
theorem i_64_52 : q_dec 64 52 = some (10, .aload_n 0, 1) := by decide +kernel
theorem i_64_53 : q_dec 64 53 = some (10, .iload 4, 2) := by decide +kernel
theorem i_64_55 : q_dec 64 55 = some (10, .iload_n 2, 1) := by decide +kernel
theorem i_64_56 : q_dec 64 56 = some (10, .iload 5, 2) := by decide +kernel
theorem i_64_58 : q_dec 64 58 = some (10, .isub, 1) := by decide +kernel
theorem i_64_59 : q_dec 64 59 = some (10, .invokevirtual 123, 3) := by decide +kernel
theorem i_64_62 : q_dec 64 62 = some (10, .iadd, 1) := by decide +kernel
theorem i_64_63 : q_dec 64 63 = some (10, .invokestatic 91, 3) := by decide +kernel
theorem i_64_66 : q_dec 64 66 = some (10, .istore_n 3, 1) := by decide +kernel
theorem i_64_67 : q_dec 64 67 = some (10, .iinc 4 1, 3) := by decide +kernel
theorem i_64_70 : q_dec 64 70 = some (10, .goto (-51), 3) := by decide +kernel
theorem i_64_73 : q_dec 64 73 = some (10, .iload_n 3, 1) := by decide +kernel
theorem i_64_74 : q_dec 64 74 = some (10, .ireturn, 1) := by decide +kernel
theorem i_65_0 : q_dec 65 0 = some (10, .aload_n 0, 1) := by decide +kernel
theorem i_65_1 : q_dec 65 1 = some (10, .getfield 35, 3) := by decide +kernel
theorem i_65_4 : q_dec 65 4 = some (10, .iconst 0, 1) := by decide +kernel
theorem i_65_5 : q_dec 65 5 = some (10, .iconst 1, 1) := by decide +kernel
theorem i_65_6 : q_dec 65 6 = some (10, .iload_n 2, 1) := by decide +kernel
theorem i_65_7 : q_dec 65 7 = some (10, .ishl, 1) := by decide +kernel
theorem i_65_8 : q_dec 65 8 = some (10, .iastore, 1) := by decide +kernel
theorem i_65_9 : q_dec 65 9 = some (10, .iconst 1, 1) := by decide +kernel
theorem i_65_10 : q_dec 65 10 = some (10, .istore 5, 2) := by decide +kernel
theorem i_65_12 : q_dec 65 12 = some (10, .iload 5, 2) := by decide +kernel
theorem i_65_14 : q_dec 65 14 = some (10, .iload_n 3, 1) := by decide +kernel
theorem i_65_15 : q_dec 65 15 = some (10, .if_icmp .gt (39), 3) := by decide +kernel
theorem i_65_18 : q_dec 65 18 = some (10, .iload 5, 2) := by decide +kernel
theorem i_65_20 : q_dec 65 20 = some (10, .bipush 8, 2) := by decide +kernel
theorem i_65_22 : q_dec 65 22 = some (10, .if_icmp .gt (32), 3) := by decide +kernel
theorem i_65_25 : q_dec 65 25 = some (10, .aload_n 0, 1) := by decide +kernel
theorem i_65_26 : q_dec 65 26 = some (10, .getfield 35, 3) := by decide +kernel
theorem i_65_29 : q_dec 65 29 = some (10, .iload 5, 2) := by decide +kernel
theorem i_65_31 : q_dec 65 31 = some (10, .aload_n 0, 1) := by decide +kernel
theorem i_65_32 : q_dec 65 32 = some (10, .getfield 44, 3) := by decide +kernel
theorem i_65_35 : q_dec 65 35 = some (10, .aload_n 0, 1) := by decide +kernel
theorem i_65_36 : q_dec 65 36 = some (10, .getfield 35, 3) := by decide +kernel
theorem i_65_39 : q_dec 65 39 = some (10, .iload 5, 2) := by decide +kernel
theorem i_65_41 : q_dec 65 41 = some (10, .iconst 1, 1) := by decide +kernel
theorem i_65_42 : q_dec 65 42 = some (10, .isub, 1) := by decide +kernel
theorem i_65_43 : q_dec 65 43 = some (10, .iaload, 1) := by decide +kernel
theorem i_65_44 : q_dec 65 44 = some (10, .invokevirtual 126, 3) := by decide +kernel
theorem i_65_47 : q_dec 65 47 = some (10, .iastore, 1) := by decide +kernel
theorem i_65_48 : q_dec 65 48 = some (10, .iinc 5 1, 3) := by decide +kernel
theorem i_65_51 : q_dec 65 51 = some (10, .goto (-39), 3) := by decide +kernel
theorem i_65_54 : q_dec 65 54 = some (10, .aload_n 0, 1) := by decide +kernel
theorem i_65_55 : q_dec 65 55 = some (10, .iload_n 1, 1) := by decide +kernel
theorem i_65_56 : q_dec 65 56 = some (10, .iconst (-1), 1) := by decide +kernel
theorem i_65_57 : q_dec 65 57 = some (10, .iconst 0, 1) := by decide +kernel
theorem i_65_58 : q_dec 65 58 = some (10, .iload_n 3, 1) := by decide +kernel
theorem i_65_59 : q_dec 65 59 = some (10, .iload 4, 2) := by decide +kernel
theorem i_65_61 : q_dec 65 61 = some (10, .invokevirtual 129, 3) := by decide +kernel
theorem i_65_64 : q_dec 65 64 = some (10, .ireturn, 1) := by decide +kernel
theorem i_66_0 : q_dec 66 0 = some (10, .iload 4, 2) := by decide +kernel
theorem i_66_2 : q_dec 66 2 = some (10, .ifCond .lt (29), 3) := by decide +kernel
theorem i_66_5 : q_dec 66 5 = some (10, .iload 4, 2) := by decide +kernel
theorem i_66_7 : q_dec 66 7 = some (10, .bipush 8, 2) := by decide +kernel
theorem i_66_9 : q_dec 66 9 = some (10, .if_icmp .gt (22), 3) := by decide +kernel
theorem i_66_12 : q_dec 66 12 = some (10, .iload 5, 2) := by decide +kernel
theorem i_66_14 : q_dec 66 14 = some (10, .ifCond .lt (17), 3) := by decide +kernel
theorem i_66_17 : q_dec 66 17 = some (10, .aload_n 0, 1) := by decide +kernel
theorem i_66_18 : q_dec 66 18 = some (10, .getfield 35, 3) := by decide +kernel
theorem i_66_21 : q_dec 66 21 = some (10, .iload 4, 2) := by decide +kernel
theorem i_66_23 : q_dec 66 23 = some (10, .iaload, 1) := by decide +kernel
theorem i_66_24 : q_dec 66 24 = some (10, .iload_n 1, 1) := by decide +kernel
theorem i_66_25 : q_dec 66 25 = some (10, .invokestatic 119, 3) := by decide +kernel
theorem i_66_28 : q_dec 66 28 = some (10, .ifCond .ne (5), 3) := by decide +kernel
theorem i_66_31 : q_dec 66 31 = some (10, .iconst 0, 1) := by decide +kernel
theorem i_66_32 : q_dec 66 32 = some (10, .ireturn, 1) := by decide +kernel
theorem i_66_33 : q_dec 66 33 = some (10, .iload 4, 2) := by decide +kernel
theorem i_66_35 : q_dec 66 35 = some (10, .ifCond .ne (14), 3) := by decide +kernel
theorem i_66_38 : q_dec 66 38 = some (10, .iload 5, 2) := by decide +kernel
theorem i_66_40 : q_dec 66 40 = some (10, .ifCond .ne (7), 3) := by decide +kernel
theorem i_66_43 : q_dec 66 43 = some (10, .iconst 1, 1) := by decide +kernel
theorem i_66_44 : q_dec 66 44 = some (10, .goto 4, 3) := by decide +kernel
theorem i_66_47 : q_dec 66 47 = some (10, .iconst 0, 1) := by decide +kernel
theorem i_66_48 : q_dec 66 48 = some (10, .ireturn, 1) := by decide +kernel
theorem i_66_49 : q_dec 66 49 = some (10, .iconst 0, 1) := by decide +kernel
theorem i_66_50 : q_dec 66 50 = some (10, .istore 6, 2) := by decide +kernel
theorem i_66_52 : q_dec 66 52 = some (10, .iconst 0, 1) := by decide +kernel
theorem i_66_53 : q_dec 66 53 = some (10, .istore 7, 2) := by decide +kernel
theorem i_66_55 : q_dec 66 55 = some (10, .iload 7, 2) := by decide +kernel
theorem i_66_57 : q_dec 66 57 = some (10, .iconst 4, 1) := by decide +kernel
theorem i_66_58 : q_dec 66 58 = some (10, .if_icmp .ge (76), 3) := by decide +kernel
theorem i_66_61 : q_dec 66 61 = some (10, .aload_n 0, 1) := by decide +kernel
theorem i_66_62 : q_dec 66 62 = some (10, .getfield 44, 3) := by decide +kernel
theorem i_66_65 : q_dec 66 65 = some (10, .iload_n 1, 1) := by decide +kernel
theorem i_66_66 : q_dec 66 66 = some (10, .iload 7, 2) := by decide +kernel
theorem i_66_68 : q_dec 66 68 = some (10, .invokevirtual 55, 3) := by decide +kernel
theorem i_66_71 : q_dec 66 71 = some (10, .istore 8, 2) := by decide +kernel
theorem i_66_73 : q_dec 66 73 = some (10, .iload 8, 2) := by decide +kernel
theorem i_66_75 : q_dec 66 75 = some (10, .iconst (-1), 1) := by decide +kernel
theorem i_66_76 : q_dec 66 76 = some (10, .if_icmp .eq (52), 3) := by decide +kernel
theorem i_66_79 : q_dec 66 79 = some (10, .aload_n 0, 1) := by decide +kernel
theorem i_66_80 : q_dec 66 80 = some (10, .getfield 44, 3) := by decide +kernel
theorem i_66_83 : q_dec 66 83 = some (10, .iload_n 1, 1) := by decide +kernel
theorem i_66_84 : q_dec 66 84 = some (10, .iload_n 2, 1) := by decide +kernel
theorem i_66_85 : q_dec 66 85 = some (10, .iload_n 3, 1) := by decide +kernel
theorem i_66_86 : q_dec 66 86 = some (10, .iload 7, 2) := by decide +kernel
theorem i_66_88 : q_dec 66 88 = some (10, .invokevirtual 59, 3) := by decide +kernel
theorem i_66_91 : q_dec 66 91 = some (10, .istore 9, 2) := by decide +kernel
theorem i_66_93 : q_dec 66 93 = some (10, .iload 6, 2) := by decide +kernel
theorem i_66_95 : q_dec 66 95 = some (10, .aload_n 0, 1) := by decide +kernel
theorem i_66_96 : q_dec 66 96 = some (10, .iload 8, 2) := by decide +kernel
theorem i_66_98 : q_dec 66 98 = some (10, .iload 7, 2) := by decide +kernel
theorem i_66_100 : q_dec 66 100 = some (10, .iload 9, 2) := by decide +kernel
theorem i_66_102 : q_dec 66 102 = some (10, .iload 4, 2) := by decide +kernel
theorem i_66_104 : q_dec 66 104 = some (10, .iconst 1, 1) := by decide +kernel
theorem i_66_105 : q_dec 66 105 = some (10, .isub, 1) := by decide +kernel
theorem i_66_106 : q_dec 66 106 = some (10, .iload 5, 2) := by decide +kernel
theorem i_66_108 : q_dec 66 108 = some (10, .aload_n 0, 1) := by decide +kernel
theorem i_66_109 : q_dec 66 109 = some (10, .getfield 44, 3) := by decide +kernel
theorem i_66_112 : q_dec 66 112 = some (10, .iload 9, 2) := by decide +kernel
theorem i_66_114 : q_dec 66 114 = some (10, .aload_n 0, 1) := by decide +kernel
theorem i_66_115 : q_dec 66 115 = some (10, .getfield 9, 3) := by decide +kernel
theorem i_66_118 : q_dec 66 118 = some (10, .invokevirtual 48, 3) := by decide +kernel
theorem i_66_121 : q_dec 66 121 = some (10, .isub, 1) := by decide +kernel
theorem i_66_122 : q_dec 66 122 = some (10, .invokevirtual 129, 3) := by decide +kernel
theorem i_66_125 : q_dec 66 125 = some (10, .iadd, 1) := by decide +kernel
theorem i_66_126 : q_dec 66 126 = some (10, .istore 6, 2) := by decide +kernel
theorem i_66_128 : q_dec 66 128 = some (10, .iinc 7 1, 3) := by decide +kernel
theorem i_66_131 : q_dec 66 131 = some (10, .goto (-76), 3) := by decide +kernel
theorem i_66_134 : q_dec 66 134 = some (10, .iload 6, 2) := by decide +kernel
theorem i_66_136 : q_dec 66 136 = some (10, .ireturn, 1) := by decide +kernel
theorem i_67_0 : q_dec 67 0 = some (11, .iload_n 3, 1) := by decide +kernel
theorem i_67_1 : q_dec 67 1 = some (11, .iconst 1, 1) := by decide +kernel
theorem i_67_2 : q_dec 67 2 = some (11, .if_icmp .lt (9), 3) := by decide +kernel
theorem i_67_5 : q_dec 67 5 = some (11, .iload_n 3, 1) := by decide +kernel
theorem i_67_6 : q_dec 67 6 = some (11, .bipush 8, 2) := by decide +kernel
theorem i_67_8 : q_dec 67 8 = some (11, .if_icmp .le (5), 3) := by decide +kernel
theorem i_67_11 : q_dec 67 11 = some (11, .iconst (-1), 1) := by decide +kernel
theorem i_67_12 : q_dec 67 12 = some (11, .ireturn, 1) := by decide +kernel
theorem i_67_13 : q_dec 67 13 = some (11, .aload_n 0, 1) := by decide +kernel
theorem i_67_14 : q_dec 67 14 = some (11, .getfield 12, 3) := by decide +kernel
theorem i_67_17 : q_dec 67 17 = some (11, .lload_n 1, 1) := by decide +kernel
theorem i_67_18 : q_dec 67 18 = some (11, .iload_n 3, 1) := by decide +kernel
theorem i_67_19 : q_dec 67 19 = some (11, .invokevirtual 83, 3) := by decide +kernel
theorem i_67_22 : q_dec 67 22 = some (11, .ireturn, 1) := by decide +kernel
theorem i_68_0 : q_dec 68 0 = some (11, .aload_n 0, 1) := by decide +kernel
theorem i_68_1 : q_dec 68 1 = some (11, .getfield 12, 3) := by decide +kernel
theorem i_68_4 : q_dec 68 4 = some (11, .getfield 87, 3) := by decide +kernel
theorem i_68_7 : q_dec 68 7 = some (11, .istore_n 1, 1) := by decide +kernel
theorem i_68_8 : q_dec 68 8 = some (11, .aload_n 0, 1) := by decide +kernel
theorem i_68_9 : q_dec 68 9 = some (11, .getfield 12, 3) := by decide +kernel
theorem i_68_12 : q_dec 68 12 = some (11, .iconst 0, 1) := by decide +kernel
theorem i_68_13 : q_dec 68 13 = some (11, .putfield 87, 3) := by decide +kernel
theorem i_68_16 : q_dec 68 16 = some (11, .iload_n 1, 1) := by decide +kernel
theorem i_68_17 : q_dec 68 17 = some (11, .ireturn, 1) := by decide +kernel
theorem i_69_0 : q_dec 69 0 = some (11, .aload_n 0, 1) := by decide +kernel
theorem i_69_1 : q_dec 69 1 = some (11, .getfield 12, 3) := by decide +kernel
theorem i_69_4 : q_dec 69 4 = some (11, .aload_n 0, 1) := by decide +kernel
theorem i_69_5 : q_dec 69 5 = some (11, .getfield 51, 3) := by decide +kernel
theorem i_69_8 : q_dec 69 8 = some (11, .invokevirtual 91, 3) := by decide +kernel
theorem i_69_11 : q_dec 69 11 = some (11, .istore_n 1, 1) := by decide +kernel
theorem i_69_12 : q_dec 69 12 = some (11, .iload_n 1, 1) := by decide +kernel
theorem i_69_13 : q_dec 69 13 = some (11, .ifCond .ge (5), 3) := by decide +kernel
theorem i_69_16 : q_dec 69 16 = some (11, .iload_n 1, 1) := by decide +kernel
theorem i_69_17 : q_dec 69 17 = some (11, .ireturn, 1) := by decide +kernel
theorem i_69_18 : q_dec 69 18 = some (11, .aload_n 0, 1) := by decide +kernel
theorem i_69_19 : q_dec 69 19 = some (11, .getfield 47, 3) := by decide +kernel
theorem i_69_22 : q_dec 69 22 = some (11, .astore_n 2, 1) := by decide +kernel
theorem i_69_23 : q_dec 69 23 = some (11, .aload_n 0, 1) := by decide +kernel
theorem i_69_24 : q_dec 69 24 = some (11, .aload_n 0, 1) := by decide +kernel
theorem i_69_25 : q_dec 69 25 = some (11, .getfield 51, 3) := by decide +kernel
theorem i_69_28 : q_dec 69 28 = some (11, .putfield 47, 3) := by decide +kernel
theorem i_69_31 : q_dec 69 31 = some (11, .aload_n 0, 1) := by decide +kernel
theorem i_69_32 : q_dec 69 32 = some (11, .aload_n 2, 1) := by decide +kernel
theorem i_69_33 : q_dec 69 33 = some (11, .putfield 51, 3) := by decide +kernel
theorem i_69_36 : q_dec 69 36 = some (11, .aload_n 0, 1) := by decide +kernel
theorem i_69_37 : q_dec 69 37 = some (11, .getfield 47, 3) := by decide +kernel
theorem i_69_40 : q_dec 69 40 = some (11, .invokevirtual 95, 3) := by decide +kernel
theorem i_69_43 : q_dec 69 43 = some (11, .aload_n 0, 1) := by decide +kernel
theorem i_69_44 : q_dec 69 44 = some (11, .getfield 12, 3) := by decide +kernel
theorem i_69_47 : q_dec 69 47 = some (11, .iconst 0, 1) := by decide +kernel
theorem i_69_48 : q_dec 69 48 = some (11, .putfield 87, 3) := by decide +kernel
theorem i_69_51 : q_dec 69 51 = some (11, .aload_n 0, 1) := by decide +kernel
theorem i_69_52 : q_dec 69 52 = some (11, .getfield 19, 3) := by decide +kernel
theorem i_69_55 : q_dec 69 55 = some (11, .invokevirtual 98, 3) := by decide +kernel
theorem i_69_58 : q_dec 69 58 = some (11, .aload_n 0, 1) := by decide +kernel
theorem i_69_59 : q_dec 69 59 = some (11, .getfield 19, 3) := by decide +kernel
theorem i_69_62 : q_dec 69 62 = some (11, .iconst 0, 1) := by decide +kernel
theorem i_69_63 : q_dec 69 63 = some (11, .putfield 101, 3) := by decide +kernel
theorem i_69_66 : q_dec 69 66 = some (11, .aload_n 0, 1) := by decide +kernel
theorem i_69_67 : q_dec 69 67 = some (11, .getfield 34, 3) := by decide +kernel
theorem i_69_70 : q_dec 69 70 = some (11, .iconst 0, 1) := by decide +kernel
theorem i_69_71 : q_dec 69 71 = some (11, .putfield 105, 3) := by decide +kernel
theorem i_69_74 : q_dec 69 74 = some (11, .iconst 0, 1) := by decide +kernel
theorem i_69_75 : q_dec 69 75 = some (11, .istore_n 3, 1) := by decide +kernel
theorem i_69_76 : q_dec 69 76 = some (11, .iload_n 3, 1) := by decide +kernel
theorem i_69_77 : q_dec 69 77 = some (11, .iconst 2, 1) := by decide +kernel
theorem i_69_78 : q_dec 69 78 = some (11, .if_icmp .ge (16), 3) := by decide +kernel
theorem i_69_81 : q_dec 69 81 = some (11, .aload_n 0, 1) := by decide +kernel
theorem i_69_82 : q_dec 69 82 = some (11, .getfield 27, 3) := by decide +kernel
theorem i_69_85 : q_dec 69 85 = some (11, .iload_n 3, 1) := by decide +kernel
theorem i_69_86 : q_dec 69 86 = some (11, .iconst 0, 1) := by decide +kernel
theorem i_69_87 : q_dec 69 87 = some (11, .bastore, 1) := by decide +kernel
theorem i_69_88 : q_dec 69 88 = some (11, .iinc 3 1, 3) := by decide +kernel
theorem i_69_91 : q_dec 69 91 = some (11, .goto (-15), 3) := by decide +kernel
theorem i_69_94 : q_dec 69 94 = some (11, .iload_n 1, 1) := by decide +kernel
theorem i_69_95 : q_dec 69 95 = some (11, .ireturn, 1) := by decide +kernel
theorem i_70_0 : q_dec 70 0 = some (11, .aload_n 0, 1) := by decide +kernel
theorem i_70_1 : q_dec 70 1 = some (11, .getfield 47, 3) := by decide +kernel
theorem i_70_4 : q_dec 70 4 = some (11, .iload_n 1, 1) := by decide +kernel
theorem i_70_5 : q_dec 70 5 = some (11, .invokevirtual 108, 3) := by decide +kernel
theorem i_70_8 : q_dec 70 8 = some (11, .ifCond .eq (14), 3) := by decide +kernel
theorem i_70_11 : q_dec 70 11 = some (11, .aload_n 0, 1) := by decide +kernel
theorem i_70_12 : q_dec 70 12 = some (11, .getfield 47, 3) := by decide +kernel
theorem i_70_15 : q_dec 70 15 = some (11, .iload_n 1, 1) := by decide +kernel
theorem i_70_16 : q_dec 70 16 = some (11, .invokevirtual 112, 3) := by decide +kernel
theorem i_70_19 : q_dec 70 19 = some (11, .goto 4, 3) := by decide +kernel
theorem i_70_22 : q_dec 70 22 = some (11, .iconst (-1), 1) := by decide +kernel
theorem i_70_23 : q_dec 70 23 = some (11, .ireturn, 1) := by decide +kernel
theorem i_71_0 : q_dec 71 0 = some (11, .iload_n 1, 1) := by decide +kernel
theorem i_71_1 : q_dec 71 1 = some (11, .tableswitch (103) (0) (5) #[39, 47, 55, 63, 79, 87], 39) := by decide +kernel
theorem i_71_40 : q_dec 71 40 = some (11, .aload_n 0, 1) := by decide +kernel
theorem i_71_41 : q_dec 71 41 = some (11, .getfield 47, 3) := by decide +kernel
theorem i_71_44 : q_dec 71 44 = some (11, .getfield 116, 3) := by decide +kernel
theorem i_71_47 : q_dec 71 47 = some (11, .ireturn, 1) := by decide +kernel
theorem i_71_48 : q_dec 71 48 = some (11, .aload_n 0, 1) := by decide +kernel
theorem i_71_49 : q_dec 71 49 = some (11, .getfield 47, 3) := by decide +kernel
theorem i_71_52 : q_dec 71 52 = some (11, .getfield 119, 3) := by decide +kernel
theorem i_71_55 : q_dec 71 55 = some (11, .ireturn, 1) := by decide +kernel
theorem i_71_56 : q_dec 71 56 = some (11, .aload_n 0, 1) := by decide +kernel
theorem i_71_57 : q_dec 71 57 = some (11, .getfield 47, 3) := by decide +kernel
theorem i_71_60 : q_dec 71 60 = some (11, .getfield 122, 3) := by decide +kernel
theorem i_71_63 : q_dec 71 63 = some (11, .ireturn, 1) := by decide +kernel
theorem i_71_64 : q_dec 71 64 = some (11, .aload_n 0, 1) := by decide +kernel
theorem i_71_65 : q_dec 71 65 = some (11, .getfield 47, 3) := by decide +kernel
theorem i_71_68 : q_dec 71 68 = some (11, .getfield 125, 3) := by decide +kernel
theorem i_71_71 : q_dec 71 71 = some (11, .ifCond .eq (7), 3) := by decide +kernel
theorem i_71_74 : q_dec 71 74 = some (11, .iconst 1, 1) := by decide +kernel
theorem i_71_75 : q_dec 71 75 = some (11, .goto 4, 3) := by decide +kernel
theorem i_71_78 : q_dec 71 78 = some (11, .iconst 0, 1) := by decide +kernel
theorem i_71_79 : q_dec 71 79 = some (11, .ireturn, 1) := by decide +kernel
theorem i_71_80 : q_dec 71 80 = some (11, .aload_n 0, 1) := by decide +kernel
theorem i_71_81 : q_dec 71 81 = some (11, .getfield 47, 3) := by decide +kernel
theorem i_71_84 : q_dec 71 84 = some (11, .getfield 128, 3) := by decide +kernel
theorem i_71_87 : q_dec 71 87 = some (11, .ireturn, 1) := by decide +kernel
theorem i_71_88 : q_dec 71 88 = some (11, .aload_n 0, 1) := by decide +kernel
theorem i_71_89 : q_dec 71 89 = some (11, .getfield 19, 3) := by decide +kernel
theorem i_71_92 : q_dec 71 92 = some (11, .getfield 101, 3) := by decide +kernel
theorem i_71_95 : q_dec 71 95 = some (11, .ifCond .eq (7), 3) := by decide +kernel
theorem i_71_98 : q_dec 71 98 = some (11, .iconst 1, 1) := by decide +kernel
theorem i_71_99 : q_dec 71 99 = some (11, .goto 4, 3) := by decide +kernel
theorem i_71_102 : q_dec 71 102 = some (11, .iconst 0, 1) := by decide +kernel
theorem i_71_103 : q_dec 71 103 = some (11, .ireturn, 1) := by decide +kernel
theorem i_71_104 : q_dec 71 104 = some (11, .iconst (-1), 1) := by decide +kernel
theorem i_71_105 : q_dec 71 105 = some (11, .ireturn, 1) := by decide +kernel
theorem i_72_0 : q_dec 72 0 = some (11, .aload_n 0, 1) := by decide +kernel
theorem i_72_1 : q_dec 72 1 = some (11, .getfield 47, 3) := by decide +kernel
theorem i_72_4 : q_dec 72 4 = some (11, .iload_n 1, 1) := by decide +kernel
theorem i_72_5 : q_dec 72 5 = some (11, .invokevirtual 131, 3) := by decide +kernel
theorem i_72_8 : q_dec 72 8 = some (11, .ifCond .ne (5), 3) := by decide +kernel
theorem i_72_11 : q_dec 72 11 = some (11, .iconst (-1), 1) := by decide +kernel
theorem i_72_12 : q_dec 72 12 = some (11, .ireturn, 1) := by decide +kernel
theorem i_72_13 : q_dec 72 13 = some (11, .aload_n 0, 1) := by decide +kernel
theorem i_72_14 : q_dec 72 14 = some (11, .getfield 19, 3) := by decide +kernel
theorem i_72_17 : q_dec 72 17 = some (11, .invokevirtual 98, 3) := by decide +kernel
theorem i_72_20 : q_dec 72 20 = some (11, .aload_n 0, 1) := by decide +kernel
theorem i_72_21 : q_dec 72 21 = some (11, .getfield 19, 3) := by decide +kernel
theorem i_72_24 : q_dec 72 24 = some (11, .iload_n 1, 1) := by decide +kernel
theorem i_72_25 : q_dec 72 25 = some (11, .putfield 134, 3) := by decide +kernel
theorem i_72_28 : q_dec 72 28 = some (11, .iconst 1, 1) := by decide +kernel
theorem i_72_29 : q_dec 72 29 = some (11, .ireturn, 1) := by decide +kernel
theorem i_73_0 : q_dec 73 0 = some (11, .iload_n 1, 1) := by decide +kernel
theorem i_73_1 : q_dec 73 1 = some (11, .invokestatic 137, 3) := by decide +kernel
theorem i_73_4 : q_dec 73 4 = some (11, .ifCond .ne (5), 3) := by decide +kernel
theorem i_73_7 : q_dec 73 7 = some (11, .iconst (-1), 1) := by decide +kernel
theorem i_73_8 : q_dec 73 8 = some (11, .ireturn, 1) := by decide +kernel
theorem i_73_9 : q_dec 73 9 = some (11, .aload_n 0, 1) := by decide +kernel
theorem i_73_10 : q_dec 73 10 = some (11, .getfield 47, 3) := by decide +kernel
theorem i_73_13 : q_dec 73 13 = some (11, .aload_n 0, 1) := by decide +kernel
theorem i_73_14 : q_dec 73 14 = some (11, .getfield 19, 3) := by decide +kernel
theorem i_73_17 : q_dec 73 17 = some (11, .getfield 134, 3) := by decide +kernel
theorem i_73_20 : q_dec 73 20 = some (11, .iload_n 1, 1) := by decide +kernel
theorem i_73_21 : q_dec 73 21 = some (11, .invokevirtual 140, 3) := by decide +kernel
theorem i_73_24 : q_dec 73 24 = some (11, .istore_n 2, 1) := by decide +kernel
theorem i_73_25 : q_dec 73 25 = some (11, .iload_n 2, 1) := by decide +kernel
theorem i_73_26 : q_dec 73 26 = some (11, .iconst (-1), 1) := by decide +kernel
theorem i_73_27 : q_dec 73 27 = some (11, .if_icmp .ne (6), 3) := by decide +kernel
theorem i_73_30 : q_dec 73 30 = some (11, .bipush (-2), 2) := by decide +kernel
theorem i_73_32 : q_dec 73 32 = some (11, .ireturn, 1) := by decide +kernel
theorem i_73_33 : q_dec 73 33 = some (11, .aload_n 0, 1) := by decide +kernel
theorem i_73_34 : q_dec 73 34 = some (11, .getfield 19, 3) := by decide +kernel
theorem i_73_37 : q_dec 73 37 = some (11, .getfield 144, 3) := by decide +kernel
theorem i_73_40 : q_dec 73 40 = some (11, .bipush 60, 2) := by decide +kernel
theorem i_73_42 : q_dec 73 42 = some (11, .if_icmp .lt (6), 3) := by decide +kernel
theorem i_73_45 : q_dec 73 45 = some (11, .bipush (-3), 2) := by decide +kernel
theorem i_73_47 : q_dec 73 47 = some (11, .ireturn, 1) := by decide +kernel
theorem i_73_48 : q_dec 73 48 = some (11, .aload_n 0, 1) := by decide +kernel
theorem i_73_49 : q_dec 73 49 = some (11, .getfield 47, 3) := by decide +kernel
theorem i_73_52 : q_dec 73 52 = some (11, .aload_n 0, 1) := by decide +kernel
theorem i_73_53 : q_dec 73 53 = some (11, .getfield 19, 3) := by decide +kernel
theorem i_73_56 : q_dec 73 56 = some (11, .getfield 134, 3) := by decide +kernel
theorem i_73_59 : q_dec 73 59 = some (11, .aload_n 0, 1) := by decide +kernel
theorem i_73_60 : q_dec 73 60 = some (11, .getfield 19, 3) := by decide +kernel
theorem i_73_63 : q_dec 73 63 = some (11, .invokevirtual 147, 3) := by decide +kernel
theorem i_73_66 : q_dec 73 66 = some (11, .aload_n 0, 1) := by decide +kernel
theorem i_73_67 : q_dec 73 67 = some (11, .getfield 19, 3) := by decide +kernel
theorem i_73_70 : q_dec 73 70 = some (11, .invokevirtual 151, 3) := by decide +kernel
theorem i_73_73 : q_dec 73 73 = some (11, .iload_n 1, 1) := by decide +kernel
theorem i_73_74 : q_dec 73 74 = some (11, .invokevirtual 154, 3) := by decide +kernel
theorem i_73_77 : q_dec 73 77 = some (11, .istore_n 3, 1) := by decide +kernel
theorem i_73_78 : q_dec 73 78 = some (11, .aload_n 0, 1) := by decide +kernel
theorem i_73_79 : q_dec 73 79 = some (11, .getfield 47, 3) := by decide +kernel
theorem i_73_82 : q_dec 73 82 = some (11, .iload_n 3, 1) := by decide +kernel
theorem i_73_83 : q_dec 73 83 = some (11, .aload_n 0, 1) := by decide +kernel
theorem i_73_84 : q_dec 73 84 = some (11, .getfield 19, 3) := by decide +kernel
theorem i_73_87 : q_dec 73 87 = some (11, .getfield 101, 3) := by decide +kernel
theorem i_73_90 : q_dec 73 90 = some (11, .invokevirtual 158, 3) := by decide +kernel
theorem i_73_93 : q_dec 73 93 = some (11, .istore 4, 2) := by decide +kernel
theorem i_73_95 : q_dec 73 95 = some (11, .aload_n 0, 1) := by decide +kernel
theorem i_73_96 : q_dec 73 96 = some (11, .getfield 19, 3) := by decide +kernel
theorem i_73_99 : q_dec 73 99 = some (11, .iload_n 1, 1) := by decide +kernel
theorem i_73_100 : q_dec 73 100 = some (11, .iload_n 3, 1) := by decide +kernel
theorem i_73_101 : q_dec 73 101 = some (11, .iload 4, 2) := by decide +kernel
theorem i_73_103 : q_dec 73 103 = some (11, .iload_n 2, 1) := by decide +kernel
theorem i_73_104 : q_dec 73 104 = some (11, .invokevirtual 162, 3) := by decide +kernel
theorem i_73_107 : q_dec 73 107 = some (11, .iload 4, 2) := by decide +kernel
theorem i_73_109 : q_dec 73 109 = some (11, .ireturn, 1) := by decide +kernel
theorem i_74_0 : q_dec 74 0 = some (11, .iload_n 0, 1) := by decide +kernel
theorem i_74_1 : q_dec 74 1 = some (11, .ifCond .lt (12), 3) := by decide +kernel
theorem i_74_4 : q_dec 74 4 = some (11, .iload_n 0, 1) := by decide +kernel
theorem i_74_5 : q_dec 74 5 = some (11, .iconst 4, 1) := by decide +kernel
theorem i_74_6 : q_dec 74 6 = some (11, .if_icmp .ge (7), 3) := by decide +kernel
theorem i_74_9 : q_dec 74 9 = some (11, .iconst 1, 1) := by decide +kernel
theorem i_74_10 : q_dec 74 10 = some (11, .goto 4, 3) := by decide +kernel
theorem i_74_13 : q_dec 74 13 = some (11, .iconst 0, 1) := by decide +kernel
theorem i_74_14 : q_dec 74 14 = some (11, .ireturn, 1) := by decide +kernel
theorem i_75_0 : q_dec 75 0 = some (11, .aload_n 0, 1) := by decide +kernel
theorem i_75_1 : q_dec 75 1 = some (11, .getfield 19, 3) := by decide +kernel
theorem i_75_4 : q_dec 75 4 = some (11, .getfield 144, 3) := by decide +kernel
theorem i_75_7 : q_dec 75 7 = some (11, .ifCond .le (13), 3) := by decide +kernel
theorem i_75_10 : q_dec 75 10 = some (11, .aload_n 0, 1) := by decide +kernel
theorem i_75_11 : q_dec 75 11 = some (11, .getfield 19, 3) := by decide +kernel
theorem i_75_14 : q_dec 75 14 = some (11, .invokevirtual 166, 3) := by decide +kernel
theorem i_75_17 : q_dec 75 17 = some (11, .goto 5, 3) := by decide +kernel
theorem i_75_20 : q_dec 75 20 = some (11, .bipush (-2), 2) := by decide +kernel
theorem i_75_22 : q_dec 75 22 = some (11, .ireturn, 1) := by decide +kernel
theorem i_76_0 : q_dec 76 0 = some (11, .iload_n 1, 1) := by decide +kernel
theorem i_76_1 : q_dec 76 1 = some (11, .tableswitch (106) (0) (4) #[35, 59, 67, 75, 98], 35) := by decide +kernel
theorem i_76_36 : q_dec 76 36 = some (11, .aload_n 0, 1) := by decide +kernel
theorem i_76_37 : q_dec 76 37 = some (11, .getfield 19, 3) := by decide +kernel
theorem i_76_40 : q_dec 76 40 = some (11, .getfield 134, 3) := by decide +kernel
theorem i_76_43 : q_dec 76 43 = some (11, .iconst (-1), 1) := by decide +kernel
theorem i_76_44 : q_dec 76 44 = some (11, .if_icmp .ne (8), 3) := by decide +kernel
theorem i_76_47 : q_dec 76 47 = some (11, .bipush (-9), 2) := by decide +kernel
theorem i_76_49 : q_dec 76 49 = some (11, .goto 10, 3) := by decide +kernel
theorem i_76_52 : q_dec 76 52 = some (11, .aload_n 0, 1) := by decide +kernel
theorem i_76_53 : q_dec 76 53 = some (11, .getfield 19, 3) := by decide +kernel
theorem i_76_56 : q_dec 76 56 = some (11, .getfield 134, 3) := by decide +kernel
theorem i_76_59 : q_dec 76 59 = some (11, .ireturn, 1) := by decide +kernel
theorem i_76_60 : q_dec 76 60 = some (11, .aload_n 0, 1) := by decide +kernel
theorem i_76_61 : q_dec 76 61 = some (11, .getfield 19, 3) := by decide +kernel
theorem i_76_64 : q_dec 76 64 = some (11, .getfield 169, 3) := by decide +kernel
theorem i_76_67 : q_dec 76 67 = some (11, .ireturn, 1) := by decide +kernel
theorem i_76_68 : q_dec 76 68 = some (11, .aload_n 0, 1) := by decide +kernel
theorem i_76_69 : q_dec 76 69 = some (11, .getfield 19, 3) := by decide +kernel
theorem i_76_72 : q_dec 76 72 = some (11, .invokevirtual 151, 3) := by decide +kernel
theorem i_76_75 : q_dec 76 75 = some (11, .ireturn, 1) := by decide +kernel
theorem i_76_76 : q_dec 76 76 = some (11, .aload_n 0, 1) := by decide +kernel
theorem i_76_77 : q_dec 76 77 = some (11, .getfield 19, 3) := by decide +kernel
theorem i_76_80 : q_dec 76 80 = some (11, .getfield 144, 3) := by decide +kernel
theorem i_76_83 : q_dec 76 83 = some (11, .ifCond .le (13), 3) := by decide +kernel
theorem i_76_86 : q_dec 76 86 = some (11, .aload_n 0, 1) := by decide +kernel
theorem i_76_87 : q_dec 76 87 = some (11, .getfield 19, 3) := by decide +kernel
theorem i_76_90 : q_dec 76 90 = some (11, .invokevirtual 147, 3) := by decide +kernel
theorem i_76_93 : q_dec 76 93 = some (11, .goto 5, 3) := by decide +kernel
theorem i_76_96 : q_dec 76 96 = some (11, .bipush (-9), 2) := by decide +kernel
theorem i_76_98 : q_dec 76 98 = some (11, .ireturn, 1) := by decide +kernel
theorem i_76_99 : q_dec 76 99 = some (11, .aload_n 0, 1) := by decide +kernel
theorem i_76_100 : q_dec 76 100 = some (11, .getfield 19, 3) := by decide +kernel
theorem i_76_103 : q_dec 76 103 = some (11, .getfield 144, 3) := by decide +kernel
theorem i_76_106 : q_dec 76 106 = some (11, .ireturn, 1) := by decide +kernel
theorem i_76_107 : q_dec 76 107 = some (11, .iconst (-1), 1) := by decide +kernel
theorem i_76_108 : q_dec 76 108 = some (11, .ireturn, 1) := by decide +kernel
theorem i_77_0 : q_dec 77 0 = some (11, .iload_n 1, 1) := by decide +kernel
theorem i_77_1 : q_dec 77 1 = some (11, .invokestatic 172, 3) := by decide +kernel
theorem i_77_4 : q_dec 77 4 = some (11, .ifCond .ne (5), 3) := by decide +kernel
theorem i_77_7 : q_dec 77 7 = some (11, .iconst (-1), 1) := by decide +kernel
theorem i_77_8 : q_dec 77 8 = some (11, .ireturn, 1) := by decide +kernel
theorem i_77_9 : q_dec 77 9 = some (11, .aload_n 0, 1) := by decide +kernel
theorem i_77_10 : q_dec 77 10 = some (11, .getfield 19, 3) := by decide +kernel
theorem i_77_13 : q_dec 77 13 = some (11, .getfield 101, 3) := by decide +kernel
theorem i_77_16 : q_dec 77 16 = some (11, .ifCond .eq (7), 3) := by decide +kernel
theorem i_77_19 : q_dec 77 19 = some (11, .iconst 1, 1) := by decide +kernel
theorem i_77_20 : q_dec 77 20 = some (11, .goto 4, 3) := by decide +kernel
theorem i_77_23 : q_dec 77 23 = some (11, .iconst 0, 1) := by decide +kernel
theorem i_77_24 : q_dec 77 24 = some (11, .istore_n 2, 1) := by decide +kernel
theorem i_77_25 : q_dec 77 25 = some (11, .aload_n 0, 1) := by decide +kernel
theorem i_77_26 : q_dec 77 26 = some (11, .getfield 19, 3) := by decide +kernel
theorem i_77_29 : q_dec 77 29 = some (11, .iload_n 1, 1) := by decide +kernel
theorem i_77_30 : q_dec 77 30 = some (11, .iconst 1, 1) := by decide +kernel
theorem i_77_31 : q_dec 77 31 = some (11, .if_icmp .ne (7), 3) := by decide +kernel
theorem i_77_34 : q_dec 77 34 = some (11, .iconst 1, 1) := by decide +kernel
theorem i_77_35 : q_dec 77 35 = some (11, .goto 4, 3) := by decide +kernel
theorem i_77_38 : q_dec 77 38 = some (11, .iconst 0, 1) := by decide +kernel
theorem i_77_39 : q_dec 77 39 = some (11, .putfield 101, 3) := by decide +kernel
theorem i_77_42 : q_dec 77 42 = some (11, .iload_n 2, 1) := by decide +kernel
theorem i_77_43 : q_dec 77 43 = some (11, .ireturn, 1) := by decide +kernel
theorem i_78_0 : q_dec 78 0 = some (11, .iload_n 0, 1) := by decide +kernel
theorem i_78_1 : q_dec 78 1 = some (11, .ifCond .eq (8), 3) := by decide +kernel
theorem i_78_4 : q_dec 78 4 = some (11, .iload_n 0, 1) := by decide +kernel
theorem i_78_5 : q_dec 78 5 = some (11, .iconst 1, 1) := by decide +kernel
theorem i_78_6 : q_dec 78 6 = some (11, .if_icmp .ne (7), 3) := by decide +kernel
theorem i_78_9 : q_dec 78 9 = some (11, .iconst 1, 1) := by decide +kernel
theorem i_78_10 : q_dec 78 10 = some (11, .goto 4, 3) := by decide +kernel
theorem i_78_13 : q_dec 78 13 = some (11, .iconst 0, 1) := by decide +kernel
theorem i_78_14 : q_dec 78 14 = some (11, .ireturn, 1) := by decide +kernel
theorem i_79_0 : q_dec 79 0 = some (11, .aload_n 0, 1) := by decide +kernel
theorem i_79_1 : q_dec 79 1 = some (11, .getfield 47, 3) := by decide +kernel
theorem i_79_4 : q_dec 79 4 = some (11, .iload_n 1, 1) := by decide +kernel
theorem i_79_5 : q_dec 79 5 = some (11, .invokevirtual 131, 3) := by decide +kernel
theorem i_79_8 : q_dec 79 8 = some (11, .ifCond .eq (10), 3) := by decide +kernel
theorem i_79_11 : q_dec 79 11 = some (11, .iload_n 2, 1) := by decide +kernel
theorem i_79_12 : q_dec 79 12 = some (11, .invokestatic 175, 3) := by decide +kernel
theorem i_79_15 : q_dec 79 15 = some (11, .ifCond .ne (5), 3) := by decide +kernel
theorem i_79_18 : q_dec 79 18 = some (11, .iconst (-1), 1) := by decide +kernel
theorem i_79_19 : q_dec 79 19 = some (11, .ireturn, 1) := by decide +kernel
theorem i_79_20 : q_dec 79 20 = some (11, .aload_n 0, 1) := by decide +kernel
theorem i_79_21 : q_dec 79 21 = some (11, .getfield 79, 3) := by decide +kernel
theorem i_79_24 : q_dec 79 24 = some (11, .aload_n 0, 1) := by decide +kernel
theorem i_79_25 : q_dec 79 25 = some (11, .getfield 47, 3) := by decide +kernel
theorem i_79_28 : q_dec 79 28 = some (11, .aload_n 0, 1) := by decide +kernel
theorem i_79_29 : q_dec 79 29 = some (11, .getfield 19, 3) := by decide +kernel
theorem i_79_32 : q_dec 79 32 = some (11, .getfield 101, 3) := by decide +kernel
theorem i_79_35 : q_dec 79 35 = some (11, .invokevirtual 178, 3) := by decide +kernel
theorem i_79_38 : q_dec 79 38 = some (11, .aload_n 0, 1) := by decide +kernel
theorem i_79_39 : q_dec 79 39 = some (11, .getfield 79, 3) := by decide +kernel
theorem i_79_42 : q_dec 79 42 = some (11, .iload_n 1, 1) := by decide +kernel
theorem i_79_43 : q_dec 79 43 = some (11, .iload_n 2, 1) := by decide +kernel
theorem i_79_44 : q_dec 79 44 = some (11, .invokevirtual 182, 3) := by decide +kernel
theorem i_79_47 : q_dec 79 47 = some (11, .ireturn, 1) := by decide +kernel
theorem i_80_0 : q_dec 80 0 = some (11, .iload_n 0, 1) := by decide +kernel
theorem i_80_1 : q_dec 80 1 = some (11, .ifCond .lt (10), 3) := by decide +kernel
theorem i_80_4 : q_dec 80 4 = some (11, .iload_n 0, 1) := by decide +kernel
theorem i_80_5 : q_dec 80 5 = some (11, .ldc_w 267, 3) := by decide +kernel
theorem i_80_8 : q_dec 80 8 = some (11, .if_icmp .le (5), 3) := by decide +kernel
theorem i_80_11 : q_dec 80 11 = some (11, .iconst 0, 1) := by decide +kernel
theorem i_80_12 : q_dec 80 12 = some (11, .ireturn, 1) := by decide +kernel
theorem i_80_13 : q_dec 80 13 = some (11, .iload_n 0, 1) := by decide +kernel
theorem i_80_14 : q_dec 80 14 = some (11, .istore_n 1, 1) := by decide +kernel
theorem i_80_15 : q_dec 80 15 = some (11, .iload_n 1, 1) := by decide +kernel
theorem i_80_16 : q_dec 80 16 = some (11, .ifCond .le (28), 3) := by decide +kernel
theorem i_80_19 : q_dec 80 19 = some (11, .iload_n 1, 1) := by decide +kernel
theorem i_80_20 : q_dec 80 20 = some (11, .bipush 10, 2) := by decide +kernel
theorem i_80_22 : q_dec 80 22 = some (11, .irem, 1) := by decide +kernel
theorem i_80_23 : q_dec 80 23 = some (11, .istore_n 2, 1) := by decide +kernel
theorem i_80_24 : q_dec 80 24 = some (11, .iload_n 2, 1) := by decide +kernel
theorem i_80_25 : q_dec 80 25 = some (11, .iconst 1, 1) := by decide +kernel
theorem i_80_26 : q_dec 80 26 = some (11, .if_icmp .lt (8), 3) := by decide +kernel
theorem i_80_29 : q_dec 80 29 = some (11, .iload_n 2, 1) := by decide +kernel
theorem i_80_30 : q_dec 80 30 = some (11, .iconst 4, 1) := by decide +kernel
theorem i_80_31 : q_dec 80 31 = some (11, .if_icmp .le (5), 3) := by decide +kernel
theorem i_80_34 : q_dec 80 34 = some (11, .iconst 0, 1) := by decide +kernel
theorem i_80_35 : q_dec 80 35 = some (11, .ireturn, 1) := by decide +kernel
theorem i_80_36 : q_dec 80 36 = some (11, .iload_n 1, 1) := by decide +kernel
theorem i_80_37 : q_dec 80 37 = some (11, .bipush 10, 2) := by decide +kernel
theorem i_80_39 : q_dec 80 39 = some (11, .idiv, 1) := by decide +kernel
theorem i_80_40 : q_dec 80 40 = some (11, .istore_n 1, 1) := by decide +kernel
theorem i_80_41 : q_dec 80 41 = some (11, .goto (-26), 3) := by decide +kernel
theorem i_80_44 : q_dec 80 44 = some (11, .iconst 1, 1) := by decide +kernel
theorem i_80_45 : q_dec 80 45 = some (11, .ireturn, 1) := by decide +kernel
theorem i_81_0 : q_dec 81 0 = some (11, .aload_n 0, 1) := by decide +kernel
theorem i_81_1 : q_dec 81 1 = some (11, .iload_n 1, 1) := by decide +kernel
theorem i_81_2 : q_dec 81 2 = some (11, .iload_n 2, 1) := by decide +kernel
theorem i_81_3 : q_dec 81 3 = some (11, .invokevirtual 185, 3) := by decide +kernel
theorem i_81_6 : q_dec 81 6 = some (11, .ifCond .eq (9), 3) := by decide +kernel
theorem i_81_9 : q_dec 81 9 = some (11, .iload_n 3, 1) := by decide +kernel
theorem i_81_10 : q_dec 81 10 = some (11, .bipush (-2), 2) := by decide +kernel
theorem i_81_12 : q_dec 81 12 = some (11, .if_icmp .ge (5), 3) := by decide +kernel
theorem i_81_15 : q_dec 81 15 = some (11, .iconst (-1), 1) := by decide +kernel
theorem i_81_16 : q_dec 81 16 = some (11, .ireturn, 1) := by decide +kernel
theorem i_81_17 : q_dec 81 17 = some (11, .aload_n 0, 1) := by decide +kernel
theorem i_81_18 : q_dec 81 18 = some (11, .getfield 79, 3) := by decide +kernel
theorem i_81_21 : q_dec 81 21 = some (11, .aload_n 0, 1) := by decide +kernel
theorem i_81_22 : q_dec 81 22 = some (11, .getfield 47, 3) := by decide +kernel
theorem i_81_25 : q_dec 81 25 = some (11, .aload_n 0, 1) := by decide +kernel
theorem i_81_26 : q_dec 81 26 = some (11, .getfield 19, 3) := by decide +kernel
theorem i_81_29 : q_dec 81 29 = some (11, .getfield 101, 3) := by decide +kernel
theorem i_81_32 : q_dec 81 32 = some (11, .invokevirtual 178, 3) := by decide +kernel
theorem i_81_35 : q_dec 81 35 = some (11, .aload_n 0, 1) := by decide +kernel
theorem i_81_36 : q_dec 81 36 = some (11, .getfield 79, 3) := by decide +kernel
theorem i_81_39 : q_dec 81 39 = some (11, .iload_n 2, 1) := by decide +kernel
theorem i_81_40 : q_dec 81 40 = some (11, .invokevirtual 189, 3) := by decide +kernel
theorem i_81_43 : q_dec 81 43 = some (11, .aload_n 0, 1) := by decide +kernel
theorem i_81_44 : q_dec 81 44 = some (11, .getfield 79, 3) := by decide +kernel
theorem i_81_47 : q_dec 81 47 = some (11, .iload_n 1, 1) := by decide +kernel
theorem i_81_48 : q_dec 81 48 = some (11, .invokevirtual 193, 3) := by decide +kernel
theorem i_81_51 : q_dec 81 51 = some (11, .istore 4, 2) := by decide +kernel
theorem i_81_53 : q_dec 81 53 = some (11, .iload 4, 2) := by decide +kernel
theorem i_81_55 : q_dec 81 55 = some (11, .ldc 196, 2) := by decide +kernel
theorem i_81_57 : q_dec 81 57 = some (11, .if_icmp .lt (6), 3) := by decide +kernel
theorem i_81_60 : q_dec 81 60 = some (11, .bipush (-9), 2) := by decide +kernel
theorem i_81_62 : q_dec 81 62 = some (11, .ireturn, 1) := by decide +kernel
theorem i_81_63 : q_dec 81 63 = some (11, .iload_n 3, 1) := by decide +kernel
theorem i_81_64 : q_dec 81 64 = some (11, .bipush (-2), 2) := by decide +kernel
theorem i_81_66 : q_dec 81 66 = some (11, .if_icmp .ne (9), 3) := by decide +kernel
theorem i_81_69 : q_dec 81 69 = some (11, .iload 4, 2) := by decide +kernel
theorem i_81_71 : q_dec 81 71 = some (11, .invokestatic 197, 3) := by decide +kernel
theorem i_81_74 : q_dec 81 74 = some (11, .ireturn, 1) := by decide +kernel
theorem i_81_75 : q_dec 81 75 = some (11, .iload_n 3, 1) := by decide +kernel
theorem i_81_76 : q_dec 81 76 = some (11, .iconst (-1), 1) := by decide +kernel
theorem i_81_77 : q_dec 81 77 = some (11, .if_icmp .ne (9), 3) := by decide +kernel
theorem i_81_80 : q_dec 81 80 = some (11, .iload 4, 2) := by decide +kernel
theorem i_81_82 : q_dec 81 82 = some (11, .invokestatic 200, 3) := by decide +kernel
theorem i_81_85 : q_dec 81 85 = some (11, .ireturn, 1) := by decide +kernel
theorem i_81_86 : q_dec 81 86 = some (11, .iload_n 3, 1) := by decide +kernel
theorem i_81_87 : q_dec 81 87 = some (11, .iload 4, 2) := by decide +kernel
theorem i_81_89 : q_dec 81 89 = some (11, .invokestatic 200, 3) := by decide +kernel
theorem i_81_92 : q_dec 81 92 = some (11, .if_icmp .ge (15), 3) := by decide +kernel
theorem i_81_95 : q_dec 81 95 = some (11, .aload_n 0, 1) := by decide +kernel
theorem i_81_96 : q_dec 81 96 = some (11, .getfield 79, 3) := by decide +kernel
theorem i_81_99 : q_dec 81 99 = some (11, .iload_n 1, 1) := by decide +kernel
theorem i_81_100 : q_dec 81 100 = some (11, .iload_n 3, 1) := by decide +kernel
theorem i_81_101 : q_dec 81 101 = some (11, .invokevirtual 203, 3) := by decide +kernel
theorem i_81_104 : q_dec 81 104 = some (11, .goto 5, 3) := by decide +kernel
theorem i_81_107 : q_dec 81 107 = some (11, .bipush (-5), 2) := by decide +kernel
theorem i_81_109 : q_dec 81 109 = some (11, .ireturn, 1) := by decide +kernel
theorem i_82_0 : q_dec 82 0 = some (11, .aload_n 0, 1) := by decide +kernel
theorem i_82_1 : q_dec 82 1 = some (11, .getfield 47, 3) := by decide +kernel
theorem i_82_4 : q_dec 82 4 = some (11, .iload_n 1, 1) := by decide +kernel
theorem i_82_5 : q_dec 82 5 = some (11, .invokevirtual 131, 3) := by decide +kernel
theorem i_82_8 : q_dec 82 8 = some (11, .ifCond .eq (18), 3) := by decide +kernel
theorem i_82_11 : q_dec 82 11 = some (11, .aload_n 0, 1) := by decide +kernel
theorem i_82_12 : q_dec 82 12 = some (11, .getfield 47, 3) := by decide +kernel
theorem i_82_15 : q_dec 82 15 = some (11, .iload_n 2, 1) := by decide +kernel
theorem i_82_16 : q_dec 82 16 = some (11, .invokevirtual 131, 3) := by decide +kernel
theorem i_82_19 : q_dec 82 19 = some (11, .ifCond .eq (7), 3) := by decide +kernel
theorem i_82_22 : q_dec 82 22 = some (11, .iconst 1, 1) := by decide +kernel
theorem i_82_23 : q_dec 82 23 = some (11, .goto 4, 3) := by decide +kernel
theorem i_82_26 : q_dec 82 26 = some (11, .iconst 0, 1) := by decide +kernel
theorem i_82_27 : q_dec 82 27 = some (11, .ireturn, 1) := by decide +kernel
theorem i_83_0 : q_dec 83 0 = some (11, .aload_n 0, 1) := by decide +kernel
theorem i_83_1 : q_dec 83 1 = some (11, .iload_n 1, 1) := by decide +kernel
theorem i_83_2 : q_dec 83 2 = some (11, .iload_n 2, 1) := by decide +kernel
theorem i_83_3 : q_dec 83 3 = some (11, .invokevirtual 185, 3) := by decide +kernel
theorem i_83_6 : q_dec 83 6 = some (11, .ifCond .eq (7), 3) := by decide +kernel
theorem i_83_9 : q_dec 83 9 = some (11, .iload_n 3, 1) := by decide +kernel
theorem i_83_10 : q_dec 83 10 = some (11, .ifCond .ge (5), 3) := by decide +kernel
theorem i_83_13 : q_dec 83 13 = some (11, .iconst (-1), 1) := by decide +kernel
theorem i_83_14 : q_dec 83 14 = some (11, .ireturn, 1) := by decide +kernel
theorem i_83_15 : q_dec 83 15 = some (11, .aload_n 0, 1) := by decide +kernel
theorem i_83_16 : q_dec 83 16 = some (11, .getfield 79, 3) := by decide +kernel
theorem i_83_19 : q_dec 83 19 = some (11, .aload_n 0, 1) := by decide +kernel
theorem i_83_20 : q_dec 83 20 = some (11, .getfield 47, 3) := by decide +kernel
theorem i_83_23 : q_dec 83 23 = some (11, .aload_n 0, 1) := by decide +kernel
theorem i_83_24 : q_dec 83 24 = some (11, .getfield 19, 3) := by decide +kernel
theorem i_83_27 : q_dec 83 27 = some (11, .getfield 101, 3) := by decide +kernel
theorem i_83_30 : q_dec 83 30 = some (11, .invokevirtual 178, 3) := by decide +kernel
theorem i_83_33 : q_dec 83 33 = some (11, .iload_n 3, 1) := by decide +kernel
theorem i_83_34 : q_dec 83 34 = some (11, .ldc 206, 2) := by decide +kernel
theorem i_83_36 : q_dec 83 36 = some (11, .invokestatic 207, 3) := by decide +kernel
theorem i_83_39 : q_dec 83 39 = some (11, .istore 4, 2) := by decide +kernel
theorem i_83_41 : q_dec 83 41 = some (11, .aload_n 0, 1) := by decide +kernel
theorem i_83_42 : q_dec 83 42 = some (11, .getfield 79, 3) := by decide +kernel
theorem i_83_45 : q_dec 83 45 = some (11, .iload_n 1, 1) := by decide +kernel
theorem i_83_46 : q_dec 83 46 = some (11, .iload_n 2, 1) := by decide +kernel
theorem i_83_47 : q_dec 83 47 = some (11, .invokevirtual 212, 3) := by decide +kernel
theorem i_83_50 : q_dec 83 50 = some (11, .iload 4, 2) := by decide +kernel
theorem i_83_52 : q_dec 83 52 = some (11, .if_icmp .le (6), 3) := by decide +kernel
theorem i_83_55 : q_dec 83 55 = some (11, .bipush (-9), 2) := by decide +kernel
theorem i_83_57 : q_dec 83 57 = some (11, .ireturn, 1) := by decide +kernel
theorem i_83_58 : q_dec 83 58 = some (11, .iconst 0, 1) := by decide +kernel
theorem i_83_59 : q_dec 83 59 = some (11, .istore 5, 2) := by decide +kernel
theorem i_83_61 : q_dec 83 61 = some (11, .iload 5, 2) := by decide +kernel
theorem i_83_63 : q_dec 83 63 = some (11, .bipush 60, 2) := by decide +kernel
theorem i_83_65 : q_dec 83 65 = some (11, .if_icmp .gt (28), 3) := by decide +kernel
theorem i_83_68 : q_dec 83 68 = some (11, .aload_n 0, 1) := by decide +kernel
theorem i_83_69 : q_dec 83 69 = some (11, .getfield 79, 3) := by decide +kernel
theorem i_83_72 : q_dec 83 72 = some (11, .iload 5, 2) := by decide +kernel
theorem i_83_74 : q_dec 83 74 = some (11, .iload_n 1, 1) := by decide +kernel
theorem i_83_75 : q_dec 83 75 = some (11, .iload_n 2, 1) := by decide +kernel
theorem i_83_76 : q_dec 83 76 = some (11, .invokevirtual 215, 3) := by decide +kernel
theorem i_83_79 : q_dec 83 79 = some (11, .iload 4, 2) := by decide +kernel
theorem i_83_81 : q_dec 83 81 = some (11, .if_icmp .gt (6), 3) := by decide +kernel
theorem i_83_84 : q_dec 83 84 = some (11, .iload 5, 2) := by decide +kernel
theorem i_83_86 : q_dec 83 86 = some (11, .ireturn, 1) := by decide +kernel
theorem i_83_87 : q_dec 83 87 = some (11, .iinc 5 1, 3) := by decide +kernel
theorem i_83_90 : q_dec 83 90 = some (11, .goto (-29), 3) := by decide +kernel
theorem i_83_93 : q_dec 83 93 = some (11, .bipush (-9), 2) := by decide +kernel
theorem i_83_95 : q_dec 83 95 = some (11, .ireturn, 1) := by decide +kernel
theorem i_84_0 : q_dec 84 0 = some (11, .aload_n 0, 1) := by decide +kernel
theorem i_84_1 : q_dec 84 1 = some (11, .iload_n 1, 1) := by decide +kernel
theorem i_84_2 : q_dec 84 2 = some (11, .iload_n 2, 1) := by decide +kernel
theorem i_84_3 : q_dec 84 3 = some (11, .invokevirtual 185, 3) := by decide +kernel
theorem i_84_6 : q_dec 84 6 = some (11, .ifCond .eq (16), 3) := by decide +kernel
theorem i_84_9 : q_dec 84 9 = some (11, .iload_n 3, 1) := by decide +kernel
theorem i_84_10 : q_dec 84 10 = some (11, .iconst (-1), 1) := by decide +kernel
theorem i_84_11 : q_dec 84 11 = some (11, .if_icmp .lt (11), 3) := by decide +kernel
theorem i_84_14 : q_dec 84 14 = some (11, .iload 4, 2) := by decide +kernel
theorem i_84_16 : q_dec 84 16 = some (11, .invokestatic 172, 3) := by decide +kernel
theorem i_84_19 : q_dec 84 19 = some (11, .ifCond .ne (5), 3) := by decide +kernel
theorem i_84_22 : q_dec 84 22 = some (11, .iconst (-1), 1) := by decide +kernel
theorem i_84_23 : q_dec 84 23 = some (11, .ireturn, 1) := by decide +kernel
theorem i_84_24 : q_dec 84 24 = some (11, .aload_n 0, 1) := by decide +kernel
theorem i_84_25 : q_dec 84 25 = some (11, .getfield 79, 3) := by decide +kernel
theorem i_84_28 : q_dec 84 28 = some (11, .aload_n 0, 1) := by decide +kernel
theorem i_84_29 : q_dec 84 29 = some (11, .getfield 47, 3) := by decide +kernel
theorem i_84_32 : q_dec 84 32 = some (11, .aload_n 0, 1) := by decide +kernel
theorem i_84_33 : q_dec 84 33 = some (11, .getfield 19, 3) := by decide +kernel
theorem i_84_36 : q_dec 84 36 = some (11, .getfield 101, 3) := by decide +kernel
theorem i_84_39 : q_dec 84 39 = some (11, .invokevirtual 178, 3) := by decide +kernel
theorem i_84_42 : q_dec 84 42 = some (11, .aload_n 0, 1) := by decide +kernel
theorem i_84_43 : q_dec 84 43 = some (11, .getfield 79, 3) := by decide +kernel
theorem i_84_46 : q_dec 84 46 = some (11, .iload_n 1, 1) := by decide +kernel
theorem i_84_47 : q_dec 84 47 = some (11, .iload_n 2, 1) := by decide +kernel
theorem i_84_48 : q_dec 84 48 = some (11, .invokevirtual 212, 3) := by decide +kernel
theorem i_84_51 : q_dec 84 51 = some (11, .istore 5, 2) := by decide +kernel
theorem i_84_53 : q_dec 84 53 = some (11, .ldc 196, 2) := by decide +kernel
theorem i_84_55 : q_dec 84 55 = some (11, .istore 6, 2) := by decide +kernel
theorem i_84_57 : q_dec 84 57 = some (11, .iconst 0, 1) := by decide +kernel
theorem i_84_58 : q_dec 84 58 = some (11, .istore 7, 2) := by decide +kernel
theorem i_84_60 : q_dec 84 60 = some (11, .iconst 0, 1) := by decide +kernel
theorem i_84_61 : q_dec 84 61 = some (11, .istore 8, 2) := by decide +kernel
theorem i_84_63 : q_dec 84 63 = some (11, .iload 8, 2) := by decide +kernel
theorem i_84_65 : q_dec 84 65 = some (11, .bipush 60, 2) := by decide +kernel
theorem i_84_67 : q_dec 84 67 = some (11, .if_icmp .gt (62), 3) := by decide +kernel
theorem i_84_70 : q_dec 84 70 = some (11, .iload 6, 2) := by decide +kernel
theorem i_84_72 : q_dec 84 72 = some (11, .iload 5, 2) := by decide +kernel
theorem i_84_74 : q_dec 84 74 = some (11, .if_icmp .le (55), 3) := by decide +kernel
theorem i_84_77 : q_dec 84 77 = some (11, .aload_n 0, 1) := by decide +kernel
theorem i_84_78 : q_dec 84 78 = some (11, .getfield 79, 3) := by decide +kernel
theorem i_84_81 : q_dec 84 81 = some (11, .iload 8, 2) := by decide +kernel
theorem i_84_83 : q_dec 84 83 = some (11, .iload_n 1, 1) := by decide +kernel
theorem i_84_84 : q_dec 84 84 = some (11, .iload_n 2, 1) := by decide +kernel
theorem i_84_85 : q_dec 84 85 = some (11, .invokevirtual 215, 3) := by decide +kernel
theorem i_84_88 : q_dec 84 88 = some (11, .istore 9, 2) := by decide +kernel
theorem i_84_90 : q_dec 84 90 = some (11, .iload 9, 2) := by decide +kernel
theorem i_84_92 : q_dec 84 92 = some (11, .iload 6, 2) := by decide +kernel
theorem i_84_94 : q_dec 84 94 = some (11, .if_icmp .ge (29), 3) := by decide +kernel
theorem i_84_97 : q_dec 84 97 = some (11, .iload 7, 2) := by decide +kernel
theorem i_84_99 : q_dec 84 99 = some (11, .iload_n 3, 1) := by decide +kernel
theorem i_84_100 : q_dec 84 100 = some (11, .if_icmp .ne (16), 3) := by decide +kernel
theorem i_84_103 : q_dec 84 103 = some (11, .iload 4, 2) := by decide +kernel
theorem i_84_105 : q_dec 84 105 = some (11, .ifCond .ne (8), 3) := by decide +kernel
theorem i_84_108 : q_dec 84 108 = some (11, .iload 8, 2) := by decide +kernel
theorem i_84_110 : q_dec 84 110 = some (11, .goto 5, 3) := by decide +kernel
theorem i_84_113 : q_dec 84 113 = some (11, .iload 9, 2) := by decide +kernel
theorem i_84_115 : q_dec 84 115 = some (11, .ireturn, 1) := by decide +kernel
theorem i_84_116 : q_dec 84 116 = some (11, .iload 9, 2) := by decide +kernel
theorem i_84_118 : q_dec 84 118 = some (11, .istore 6, 2) := by decide +kernel
theorem i_84_120 : q_dec 84 120 = some (11, .iinc 7 1, 3) := by decide +kernel
theorem i_84_123 : q_dec 84 123 = some (11, .iinc 8 1, 3) := by decide +kernel
theorem i_84_126 : q_dec 84 126 = some (11, .goto (-63), 3) := by decide +kernel
theorem i_84_129 : q_dec 84 129 = some (11, .iload_n 3, 1) := by decide +kernel
theorem i_84_130 : q_dec 84 130 = some (11, .iconst (-1), 1) := by decide +kernel
theorem i_84_131 : q_dec 84 131 = some (11, .if_icmp .ne (8), 3) := by decide +kernel
theorem i_84_134 : q_dec 84 134 = some (11, .iload 7, 2) := by decide +kernel
theorem i_84_136 : q_dec 84 136 = some (11, .goto 5, 3) := by decide +kernel
theorem i_84_139 : q_dec 84 139 = some (11, .bipush (-5), 2) := by decide +kernel
theorem i_84_141 : q_dec 84 141 = some (11, .ireturn, 1) := by decide +kernel
theorem i_85_0 : q_dec 85 0 = some (11, .aload_n 0, 1) := by decide +kernel
theorem i_85_1 : q_dec 85 1 = some (11, .iload_n 1, 1) := by decide +kernel
theorem i_85_2 : q_dec 85 2 = some (11, .iload_n 2, 1) := by decide +kernel
theorem i_85_3 : q_dec 85 3 = some (11, .invokevirtual 185, 3) := by decide +kernel
theorem i_85_6 : q_dec 85 6 = some (11, .ifCond .ne (5), 3) := by decide +kernel
theorem i_85_9 : q_dec 85 9 = some (11, .iconst (-1), 1) := by decide +kernel
theorem i_85_10 : q_dec 85 10 = some (11, .ireturn, 1) := by decide +kernel
theorem i_85_11 : q_dec 85 11 = some (11, .iload_n 1, 1) := by decide +kernel
theorem i_85_12 : q_dec 85 12 = some (11, .iload_n 2, 1) := by decide +kernel
theorem i_85_13 : q_dec 85 13 = some (11, .if_icmp .ne (5), 3) := by decide +kernel
theorem i_85_16 : q_dec 85 16 = some (11, .iconst 0, 1) := by decide +kernel
theorem i_85_17 : q_dec 85 17 = some (11, .ireturn, 1) := by decide +kernel
theorem i_85_18 : q_dec 85 18 = some (11, .iconst 1, 1) := by decide +kernel
theorem i_85_19 : q_dec 85 19 = some (11, .iload_n 1, 1) := by decide +kernel
theorem i_85_20 : q_dec 85 20 = some (11, .ishl, 1) := by decide +kernel
theorem i_85_21 : q_dec 85 21 = some (11, .istore_n 3, 1) := by decide +kernel
theorem i_85_22 : q_dec 85 22 = some (11, .iconst 0, 1) := by decide +kernel
theorem i_85_23 : q_dec 85 23 = some (11, .istore 4, 2) := by decide +kernel
theorem i_85_25 : q_dec 85 25 = some (11, .iload 4, 2) := by decide +kernel
theorem i_85_27 : q_dec 85 27 = some (11, .bipush 20, 2) := by decide +kernel
theorem i_85_29 : q_dec 85 29 = some (11, .if_icmp .gt (45), 3) := by decide +kernel
theorem i_85_32 : q_dec 85 32 = some (11, .iload_n 3, 1) := by decide +kernel
theorem i_85_33 : q_dec 85 33 = some (11, .aload_n 0, 1) := by decide +kernel
theorem i_85_34 : q_dec 85 34 = some (11, .getfield 47, 3) := by decide +kernel
theorem i_85_37 : q_dec 85 37 = some (11, .iload_n 3, 1) := by decide +kernel
theorem i_85_38 : q_dec 85 38 = some (11, .invokevirtual 219, 3) := by decide +kernel
theorem i_85_41 : q_dec 85 41 = some (11, .ior, 1) := by decide +kernel
theorem i_85_42 : q_dec 85 42 = some (11, .istore 5, 2) := by decide +kernel
theorem i_85_44 : q_dec 85 44 = some (11, .iload 5, 2) := by decide +kernel
theorem i_85_46 : q_dec 85 46 = some (11, .iload_n 2, 1) := by decide +kernel
theorem i_85_47 : q_dec 85 47 = some (11, .invokestatic 222, 3) := by decide +kernel
theorem i_85_50 : q_dec 85 50 = some (11, .ifCond .eq (6), 3) := by decide +kernel
theorem i_85_53 : q_dec 85 53 = some (11, .iload 4, 2) := by decide +kernel
theorem i_85_55 : q_dec 85 55 = some (11, .ireturn, 1) := by decide +kernel
theorem i_85_56 : q_dec 85 56 = some (11, .iload 5, 2) := by decide +kernel
theorem i_85_58 : q_dec 85 58 = some (11, .iload_n 3, 1) := by decide +kernel
theorem i_85_59 : q_dec 85 59 = some (11, .if_icmp .ne (6), 3) := by decide +kernel
theorem i_85_62 : q_dec 85 62 = some (11, .bipush (-9), 2) := by decide +kernel
theorem i_85_64 : q_dec 85 64 = some (11, .ireturn, 1) := by decide +kernel
theorem i_85_65 : q_dec 85 65 = some (11, .iload 5, 2) := by decide +kernel
theorem i_85_67 : q_dec 85 67 = some (11, .istore_n 3, 1) := by decide +kernel
theorem i_85_68 : q_dec 85 68 = some (11, .iinc 4 1, 3) := by decide +kernel
theorem i_85_71 : q_dec 85 71 = some (11, .goto (-46), 3) := by decide +kernel
theorem i_85_74 : q_dec 85 74 = some (11, .bipush (-9), 2) := by decide +kernel
theorem i_85_76 : q_dec 85 76 = some (11, .ireturn, 1) := by decide +kernel
theorem i_86_0 : q_dec 86 0 = some (11, .iload_n 0, 1) := by decide +kernel
theorem i_86_1 : q_dec 86 1 = some (11, .iload_n 1, 1) := by decide +kernel
theorem i_86_2 : q_dec 86 2 = some (11, .ishr, 1) := by decide +kernel
theorem i_86_3 : q_dec 86 3 = some (11, .iconst 1, 1) := by decide +kernel
theorem i_86_4 : q_dec 86 4 = some (11, .iand, 1) := by decide +kernel
theorem i_86_5 : q_dec 86 5 = some (11, .ifCond .eq (7), 3) := by decide +kernel
theorem i_86_8 : q_dec 86 8 = some (11, .iconst 1, 1) := by decide +kernel
theorem i_86_9 : q_dec 86 9 = some (11, .goto 4, 3) := by decide +kernel
theorem i_86_12 : q_dec 86 12 = some (11, .iconst 0, 1) := by decide +kernel
theorem i_86_13 : q_dec 86 13 = some (11, .ireturn, 1) := by decide +kernel
theorem i_87_0 : q_dec 87 0 = some (11, .aload_n 0, 1) := by decide +kernel
theorem i_87_1 : q_dec 87 1 = some (11, .getfield 47, 3) := by decide +kernel
theorem i_87_4 : q_dec 87 4 = some (11, .iload_n 1, 1) := by decide +kernel
theorem i_87_5 : q_dec 87 5 = some (11, .invokevirtual 131, 3) := by decide +kernel
theorem i_87_8 : q_dec 87 8 = some (11, .ifCond .eq (11), 3) := by decide +kernel
theorem i_87_11 : q_dec 87 11 = some (11, .aload_n 0, 1) := by decide +kernel
theorem i_87_12 : q_dec 87 12 = some (11, .iload_n 2, 1) := by decide +kernel
theorem i_87_13 : q_dec 87 13 = some (11, .invokevirtual 225, 3) := by decide +kernel
theorem i_87_16 : q_dec 87 16 = some (11, .ifCond .ne (5), 3) := by decide +kernel
theorem i_87_19 : q_dec 87 19 = some (11, .iconst (-1), 1) := by decide +kernel
theorem i_87_20 : q_dec 87 20 = some (11, .ireturn, 1) := by decide +kernel
theorem i_87_21 : q_dec 87 21 = some (11, .aload_n 0, 1) := by decide +kernel
theorem i_87_22 : q_dec 87 22 = some (11, .getfield 79, 3) := by decide +kernel
theorem i_87_25 : q_dec 87 25 = some (11, .aload_n 0, 1) := by decide +kernel
theorem i_87_26 : q_dec 87 26 = some (11, .getfield 47, 3) := by decide +kernel
theorem i_87_29 : q_dec 87 29 = some (11, .aload_n 0, 1) := by decide +kernel
theorem i_87_30 : q_dec 87 30 = some (11, .getfield 19, 3) := by decide +kernel
theorem i_87_33 : q_dec 87 33 = some (11, .getfield 101, 3) := by decide +kernel
theorem i_87_36 : q_dec 87 36 = some (11, .invokevirtual 178, 3) := by decide +kernel
theorem i_87_39 : q_dec 87 39 = some (11, .aload_n 0, 1) := by decide +kernel
theorem i_87_40 : q_dec 87 40 = some (11, .getfield 79, 3) := by decide +kernel
theorem i_87_43 : q_dec 87 43 = some (11, .iload_n 1, 1) := by decide +kernel
theorem i_87_44 : q_dec 87 44 = some (11, .iload_n 2, 1) := by decide +kernel
theorem i_87_45 : q_dec 87 45 = some (11, .invokevirtual 228, 3) := by decide +kernel
theorem i_87_48 : q_dec 87 48 = some (11, .ireturn, 1) := by decide +kernel
theorem i_88_0 : q_dec 88 0 = some (11, .iload_n 1, 1) := by decide +kernel
theorem i_88_1 : q_dec 88 1 = some (11, .ifCond .lt (23), 3) := by decide +kernel
theorem i_88_4 : q_dec 88 4 = some (11, .iload_n 1, 1) := by decide +kernel
theorem i_88_5 : q_dec 88 5 = some (11, .aload_n 0, 1) := by decide +kernel
theorem i_88_6 : q_dec 88 6 = some (11, .getfield 47, 3) := by decide +kernel
theorem i_88_9 : q_dec 88 9 = some (11, .invokevirtual 237, 3) := by decide +kernel
theorem i_88_12 : q_dec 88 12 = some (11, .ishr, 1) := by decide +kernel
theorem i_88_13 : q_dec 88 13 = some (11, .ifCond .ne (11), 3) := by decide +kernel
theorem i_88_16 : q_dec 88 16 = some (11, .iload_n 1, 1) := by decide +kernel
theorem i_88_17 : q_dec 88 17 = some (11, .invokestatic 268, 3) := by decide +kernel
theorem i_88_20 : q_dec 88 20 = some (11, .iconst 4, 1) := by decide +kernel
theorem i_88_21 : q_dec 88 21 = some (11, .if_icmp .le (5), 3) := by decide +kernel
theorem i_88_24 : q_dec 88 24 = some (11, .iconst 0, 1) := by decide +kernel
theorem i_88_25 : q_dec 88 25 = some (11, .ireturn, 1) := by decide +kernel
theorem i_88_26 : q_dec 88 26 = some (11, .iconst 0, 1) := by decide +kernel
theorem i_88_27 : q_dec 88 27 = some (11, .istore_n 2, 1) := by decide +kernel
theorem i_88_28 : q_dec 88 28 = some (11, .iload_n 2, 1) := by decide +kernel
theorem i_88_29 : q_dec 88 29 = some (11, .aload_n 0, 1) := by decide +kernel
theorem i_88_30 : q_dec 88 30 = some (11, .getfield 47, 3) := by decide +kernel
theorem i_88_33 : q_dec 88 33 = some (11, .invokevirtual 237, 3) := by decide +kernel
theorem i_88_36 : q_dec 88 36 = some (11, .if_icmp .ge (30), 3) := by decide +kernel
theorem i_88_39 : q_dec 88 39 = some (11, .iload_n 1, 1) := by decide +kernel
theorem i_88_40 : q_dec 88 40 = some (11, .iload_n 2, 1) := by decide +kernel
theorem i_88_41 : q_dec 88 41 = some (11, .invokestatic 222, 3) := by decide +kernel
theorem i_88_44 : q_dec 88 44 = some (11, .ifCond .eq (16), 3) := by decide +kernel
theorem i_88_47 : q_dec 88 47 = some (11, .aload_n 0, 1) := by decide +kernel
theorem i_88_48 : q_dec 88 48 = some (11, .getfield 47, 3) := by decide +kernel
theorem i_88_51 : q_dec 88 51 = some (11, .iload_n 2, 1) := by decide +kernel
theorem i_88_52 : q_dec 88 52 = some (11, .invokevirtual 131, 3) := by decide +kernel
theorem i_88_55 : q_dec 88 55 = some (11, .ifCond .ne (5), 3) := by decide +kernel
theorem i_88_58 : q_dec 88 58 = some (11, .iconst 0, 1) := by decide +kernel
theorem i_88_59 : q_dec 88 59 = some (11, .ireturn, 1) := by decide +kernel
theorem i_88_60 : q_dec 88 60 = some (11, .iinc 2 1, 3) := by decide +kernel
theorem i_88_63 : q_dec 88 63 = some (11, .goto (-35), 3) := by decide +kernel
theorem i_88_66 : q_dec 88 66 = some (11, .iconst 1, 1) := by decide +kernel
theorem i_88_67 : q_dec 88 67 = some (11, .ireturn, 1) := by decide +kernel
theorem i_89_0 : q_dec 89 0 = some (11, .aload_n 0, 1) := by decide +kernel
theorem i_89_1 : q_dec 89 1 = some (11, .iload_n 1, 1) := by decide +kernel
theorem i_89_2 : q_dec 89 2 = some (11, .iload_n 2, 1) := by decide +kernel
theorem i_89_3 : q_dec 89 3 = some (11, .invokevirtual 185, 3) := by decide +kernel
theorem i_89_6 : q_dec 89 6 = some (11, .ifCond .ne (5), 3) := by decide +kernel
theorem i_89_9 : q_dec 89 9 = some (11, .iconst (-1), 1) := by decide +kernel
theorem i_89_10 : q_dec 89 10 = some (11, .ireturn, 1) := by decide +kernel
theorem i_89_11 : q_dec 89 11 = some (11, .aload_n 0, 1) := by decide +kernel
theorem i_89_12 : q_dec 89 12 = some (11, .getfield 34, 3) := by decide +kernel
theorem i_89_15 : q_dec 89 15 = some (11, .iload_n 1, 1) := by decide +kernel
theorem i_89_16 : q_dec 89 16 = some (11, .iload_n 2, 1) := by decide +kernel
theorem i_89_17 : q_dec 89 17 = some (11, .invokevirtual 231, 3) := by decide +kernel
theorem i_89_20 : q_dec 89 20 = some (11, .ifCond .eq (13), 3) := by decide +kernel
theorem i_89_23 : q_dec 89 23 = some (11, .aload_n 0, 1) := by decide +kernel
theorem i_89_24 : q_dec 89 24 = some (11, .getfield 34, 3) := by decide +kernel
theorem i_89_27 : q_dec 89 27 = some (11, .getfield 105, 3) := by decide +kernel
theorem i_89_30 : q_dec 89 30 = some (11, .goto 5, 3) := by decide +kernel
theorem i_89_33 : q_dec 89 33 = some (11, .bipush (-3), 2) := by decide +kernel
theorem i_89_35 : q_dec 89 35 = some (11, .ireturn, 1) := by decide +kernel
theorem i_90_0 : q_dec 90 0 = some (11, .aload_n 0, 1) := by decide +kernel
theorem i_90_1 : q_dec 90 1 = some (11, .getfield 34, 3) := by decide +kernel
theorem i_90_4 : q_dec 90 4 = some (11, .getfield 105, 3) := by decide +kernel
theorem i_90_7 : q_dec 90 7 = some (11, .istore_n 1, 1) := by decide +kernel
theorem i_90_8 : q_dec 90 8 = some (11, .aload_n 0, 1) := by decide +kernel
theorem i_90_9 : q_dec 90 9 = some (11, .getfield 34, 3) := by decide +kernel
theorem i_90_12 : q_dec 90 12 = some (11, .iconst 0, 1) := by decide +kernel
theorem i_90_13 : q_dec 90 13 = some (11, .putfield 105, 3) := by decide +kernel
theorem i_90_16 : q_dec 90 16 = some (11, .iload_n 1, 1) := by decide +kernel
theorem i_90_17 : q_dec 90 17 = some (11, .ireturn, 1) := by decide +kernel
theorem i_91_0 : q_dec 91 0 = some (11, .iload_n 1, 1) := by decide +kernel
theorem i_91_1 : q_dec 91 1 = some (11, .invokestatic 172, 3) := by decide +kernel
theorem i_91_4 : q_dec 91 4 = some (11, .ifCond .ne (5), 3) := by decide +kernel
theorem i_91_7 : q_dec 91 7 = some (11, .iconst (-1), 1) := by decide +kernel
theorem i_91_8 : q_dec 91 8 = some (11, .ireturn, 1) := by decide +kernel
theorem i_91_9 : q_dec 91 9 = some (11, .aload_n 0, 1) := by decide +kernel
theorem i_91_10 : q_dec 91 10 = some (11, .getfield 79, 3) := by decide +kernel
theorem i_91_13 : q_dec 91 13 = some (11, .aload_n 0, 1) := by decide +kernel
theorem i_91_14 : q_dec 91 14 = some (11, .getfield 47, 3) := by decide +kernel
theorem i_91_17 : q_dec 91 17 = some (11, .aload_n 0, 1) := by decide +kernel
theorem i_91_18 : q_dec 91 18 = some (11, .getfield 19, 3) := by decide +kernel
theorem i_91_21 : q_dec 91 21 = some (11, .getfield 101, 3) := by decide +kernel
theorem i_91_24 : q_dec 91 24 = some (11, .invokevirtual 178, 3) := by decide +kernel
theorem i_91_27 : q_dec 91 27 = some (11, .aload_n 0, 1) := by decide +kernel
theorem i_91_28 : q_dec 91 28 = some (11, .getfield 34, 3) := by decide +kernel
theorem i_91_31 : q_dec 91 31 = some (11, .aload_n 0, 1) := by decide +kernel
theorem i_91_32 : q_dec 91 32 = some (11, .getfield 79, 3) := by decide +kernel
theorem i_91_35 : q_dec 91 35 = some (11, .invokevirtual 233, 3) := by decide +kernel
theorem i_91_38 : q_dec 91 38 = some (11, .ifCond .ne (6), 3) := by decide +kernel
theorem i_91_41 : q_dec 91 41 = some (11, .bipush (-9), 2) := by decide +kernel
theorem i_91_43 : q_dec 91 43 = some (11, .ireturn, 1) := by decide +kernel
theorem i_91_44 : q_dec 91 44 = some (11, .bipush (-9), 2) := by decide +kernel
theorem i_91_46 : q_dec 91 46 = some (11, .istore_n 2, 1) := by decide +kernel
theorem i_91_47 : q_dec 91 47 = some (11, .ldc 196, 2) := by decide +kernel
theorem i_91_49 : q_dec 91 49 = some (11, .istore_n 3, 1) := by decide +kernel
theorem i_91_50 : q_dec 91 50 = some (11, .iconst 0, 1) := by decide +kernel
theorem i_91_51 : q_dec 91 51 = some (11, .istore 4, 2) := by decide +kernel
theorem i_91_53 : q_dec 91 53 = some (11, .iload 4, 2) := by decide +kernel
theorem i_91_55 : q_dec 91 55 = some (11, .aload_n 0, 1) := by decide +kernel
theorem i_91_56 : q_dec 91 56 = some (11, .getfield 47, 3) := by decide +kernel
theorem i_91_59 : q_dec 91 59 = some (11, .invokevirtual 237, 3) := by decide +kernel
theorem i_91_62 : q_dec 91 62 = some (11, .if_icmp .ge (48), 3) := by decide +kernel
theorem i_91_65 : q_dec 91 65 = some (11, .aload_n 0, 1) := by decide +kernel
theorem i_91_66 : q_dec 91 66 = some (11, .getfield 47, 3) := by decide +kernel
theorem i_91_69 : q_dec 91 69 = some (11, .iload 4, 2) := by decide +kernel
theorem i_91_71 : q_dec 91 71 = some (11, .invokevirtual 112, 3) := by decide +kernel
theorem i_91_74 : q_dec 91 74 = some (11, .ifCond .ne (30), 3) := by decide +kernel
theorem i_91_77 : q_dec 91 77 = some (11, .aload_n 0, 1) := by decide +kernel
theorem i_91_78 : q_dec 91 78 = some (11, .getfield 34, 3) := by decide +kernel
theorem i_91_81 : q_dec 91 81 = some (11, .iload 4, 2) := by decide +kernel
theorem i_91_83 : q_dec 91 83 = some (11, .aload_n 0, 1) := by decide +kernel
theorem i_91_84 : q_dec 91 84 = some (11, .getfield 79, 3) := by decide +kernel
theorem i_91_87 : q_dec 91 87 = some (11, .invokevirtual 240, 3) := by decide +kernel
theorem i_91_90 : q_dec 91 90 = some (11, .istore 5, 2) := by decide +kernel
theorem i_91_92 : q_dec 91 92 = some (11, .iload 5, 2) := by decide +kernel
theorem i_91_94 : q_dec 91 94 = some (11, .iload_n 3, 1) := by decide +kernel
theorem i_91_95 : q_dec 91 95 = some (11, .if_icmp .ge (9), 3) := by decide +kernel
theorem i_91_98 : q_dec 91 98 = some (11, .iload 5, 2) := by decide +kernel
theorem i_91_100 : q_dec 91 100 = some (11, .istore_n 3, 1) := by decide +kernel
theorem i_91_101 : q_dec 91 101 = some (11, .iload 4, 2) := by decide +kernel
theorem i_91_103 : q_dec 91 103 = some (11, .istore_n 2, 1) := by decide +kernel
theorem i_91_104 : q_dec 91 104 = some (11, .iinc 4 1, 3) := by decide +kernel
theorem i_91_107 : q_dec 91 107 = some (11, .goto (-54), 3) := by decide +kernel
theorem i_91_110 : q_dec 91 110 = some (11, .iload_n 2, 1) := by decide +kernel
theorem i_91_111 : q_dec 91 111 = some (11, .bipush (-9), 2) := by decide +kernel
theorem i_91_113 : q_dec 91 113 = some (11, .if_icmp .ne (6), 3) := by decide +kernel
theorem i_91_116 : q_dec 91 116 = some (11, .bipush (-9), 2) := by decide +kernel
theorem i_91_118 : q_dec 91 118 = some (11, .ireturn, 1) := by decide +kernel
theorem i_91_119 : q_dec 91 119 = some (11, .iload_n 1, 1) := by decide +kernel
theorem i_91_120 : q_dec 91 120 = some (11, .ifCond .ne (7), 3) := by decide +kernel
theorem i_91_123 : q_dec 91 123 = some (11, .iload_n 2, 1) := by decide +kernel
theorem i_91_124 : q_dec 91 124 = some (11, .goto 4, 3) := by decide +kernel
theorem i_91_127 : q_dec 91 127 = some (11, .iload_n 3, 1) := by decide +kernel
theorem i_91_128 : q_dec 91 128 = some (11, .ireturn, 1) := by decide +kernel
theorem i_92_0 : q_dec 92 0 = some (11, .aload_n 0, 1) := by decide +kernel
theorem i_92_1 : q_dec 92 1 = some (11, .iload_n 1, 1) := by decide +kernel
theorem i_92_2 : q_dec 92 2 = some (11, .iload_n 2, 1) := by decide +kernel
theorem i_92_3 : q_dec 92 3 = some (11, .invokevirtual 185, 3) := by decide +kernel
theorem i_92_6 : q_dec 92 6 = some (11, .ifCond .eq (18), 3) := by decide +kernel
theorem i_92_9 : q_dec 92 9 = some (11, .iload_n 3, 1) := by decide +kernel
theorem i_92_10 : q_dec 92 10 = some (11, .ifCond .lt (14), 3) := by decide +kernel
theorem i_92_13 : q_dec 92 13 = some (11, .iload_n 3, 1) := by decide +kernel
theorem i_92_14 : q_dec 92 14 = some (11, .bipush 8, 2) := by decide +kernel
theorem i_92_16 : q_dec 92 16 = some (11, .if_icmp .gt (8), 3) := by decide +kernel
theorem i_92_19 : q_dec 92 19 = some (11, .iload 4, 2) := by decide +kernel
theorem i_92_21 : q_dec 92 21 = some (11, .ifCond .ge (5), 3) := by decide +kernel
theorem i_92_24 : q_dec 92 24 = some (11, .iconst (-1), 1) := by decide +kernel
theorem i_92_25 : q_dec 92 25 = some (11, .ireturn, 1) := by decide +kernel
theorem i_92_26 : q_dec 92 26 = some (11, .aload_n 0, 1) := by decide +kernel
theorem i_92_27 : q_dec 92 27 = some (11, .getfield 79, 3) := by decide +kernel
theorem i_92_30 : q_dec 92 30 = some (11, .aload_n 0, 1) := by decide +kernel
theorem i_92_31 : q_dec 92 31 = some (11, .getfield 47, 3) := by decide +kernel
theorem i_92_34 : q_dec 92 34 = some (11, .aload_n 0, 1) := by decide +kernel
theorem i_92_35 : q_dec 92 35 = some (11, .getfield 19, 3) := by decide +kernel
theorem i_92_38 : q_dec 92 38 = some (11, .getfield 101, 3) := by decide +kernel
theorem i_92_41 : q_dec 92 41 = some (11, .invokevirtual 178, 3) := by decide +kernel
theorem i_92_44 : q_dec 92 44 = some (11, .aload_n 0, 1) := by decide +kernel
theorem i_92_45 : q_dec 92 45 = some (11, .getfield 79, 3) := by decide +kernel
theorem i_92_48 : q_dec 92 48 = some (11, .iload_n 1, 1) := by decide +kernel
theorem i_92_49 : q_dec 92 49 = some (11, .iload_n 2, 1) := by decide +kernel
theorem i_92_50 : q_dec 92 50 = some (11, .iload_n 3, 1) := by decide +kernel
theorem i_92_51 : q_dec 92 51 = some (11, .iload 4, 2) := by decide +kernel
theorem i_92_53 : q_dec 92 53 = some (11, .invokevirtual 244, 3) := by decide +kernel
theorem i_92_56 : q_dec 92 56 = some (11, .ireturn, 1) := by decide +kernel
theorem i_93_0 : q_dec 93 0 = some (11, .iload_n 1, 1) := by decide +kernel
theorem i_93_1 : q_dec 93 1 = some (11, .ifCond .lt (22), 3) := by decide +kernel
theorem i_93_4 : q_dec 93 4 = some (11, .iload_n 1, 1) := by decide +kernel
theorem i_93_5 : q_dec 93 5 = some (11, .bipush 6, 2) := by decide +kernel
theorem i_93_7 : q_dec 93 7 = some (11, .if_icmp .ge (16), 3) := by decide +kernel
theorem i_93_10 : q_dec 93 10 = some (11, .aload_n 0, 1) := by decide +kernel
theorem i_93_11 : q_dec 93 11 = some (11, .getfield 40, 3) := by decide +kernel
theorem i_93_14 : q_dec 93 14 = some (11, .iload_n 1, 1) := by decide +kernel
theorem i_93_15 : q_dec 93 15 = some (11, .aaload, 1) := by decide +kernel
theorem i_93_16 : q_dec 93 16 = some (11, .aload_n 0, 1) := by decide +kernel
theorem i_93_17 : q_dec 93 17 = some (11, .invokevirtual 247, 3) := by decide +kernel
theorem i_93_20 : q_dec 93 20 = some (11, .goto 5, 3) := by decide +kernel
theorem i_93_23 : q_dec 93 23 = some (11, .ldc 250, 2) := by decide +kernel
theorem i_93_25 : q_dec 93 25 = some (11, .ireturn, 1) := by decide +kernel
theorem i_94_0 : q_dec 94 0 = some (11, .iload_n 1, 1) := by decide +kernel
theorem i_94_1 : q_dec 94 1 = some (11, .invokestatic 251, 3) := by decide +kernel
theorem i_94_4 : q_dec 94 4 = some (11, .ifCond .ne (5), 3) := by decide +kernel
theorem i_94_7 : q_dec 94 7 = some (11, .iconst (-1), 1) := by decide +kernel
theorem i_94_8 : q_dec 94 8 = some (11, .ireturn, 1) := by decide +kernel
theorem i_94_9 : q_dec 94 9 = some (11, .aload_n 0, 1) := by decide +kernel
theorem i_94_10 : q_dec 94 10 = some (11, .getfield 23, 3) := by decide +kernel
theorem i_94_13 : q_dec 94 13 = some (11, .iload_n 1, 1) := by decide +kernel
theorem i_94_14 : q_dec 94 14 = some (11, .aaload, 1) := by decide +kernel
theorem i_94_15 : q_dec 94 15 = some (11, .aload_n 0, 1) := by decide +kernel
theorem i_94_16 : q_dec 94 16 = some (11, .getfield 19, 3) := by decide +kernel
theorem i_94_19 : q_dec 94 19 = some (11, .invokevirtual 254, 3) := by decide +kernel
theorem i_94_22 : q_dec 94 22 = some (11, .aload_n 0, 1) := by decide +kernel
theorem i_94_23 : q_dec 94 23 = some (11, .getfield 27, 3) := by decide +kernel
theorem i_94_26 : q_dec 94 26 = some (11, .iload_n 1, 1) := by decide +kernel
theorem i_94_27 : q_dec 94 27 = some (11, .iconst 1, 1) := by decide +kernel
theorem i_94_28 : q_dec 94 28 = some (11, .bastore, 1) := by decide +kernel
theorem i_94_29 : q_dec 94 29 = some (11, .aload_n 0, 1) := by decide +kernel
theorem i_94_30 : q_dec 94 30 = some (11, .getfield 19, 3) := by decide +kernel
theorem i_94_33 : q_dec 94 33 = some (11, .getfield 144, 3) := by decide +kernel
theorem i_94_36 : q_dec 94 36 = some (11, .ireturn, 1) := by decide +kernel
theorem i_95_0 : q_dec 95 0 = some (11, .iload_n 0, 1) := by decide +kernel
theorem i_95_1 : q_dec 95 1 = some (11, .ifCond .lt (12), 3) := by decide +kernel
theorem i_95_4 : q_dec 95 4 = some (11, .iload_n 0, 1) := by decide +kernel
theorem i_95_5 : q_dec 95 5 = some (11, .iconst 2, 1) := by decide +kernel
theorem i_95_6 : q_dec 95 6 = some (11, .if_icmp .ge (7), 3) := by decide +kernel
theorem i_95_9 : q_dec 95 9 = some (11, .iconst 1, 1) := by decide +kernel
theorem i_95_10 : q_dec 95 10 = some (11, .goto 4, 3) := by decide +kernel
theorem i_95_13 : q_dec 95 13 = some (11, .iconst 0, 1) := by decide +kernel
theorem i_95_14 : q_dec 95 14 = some (11, .ireturn, 1) := by decide +kernel
theorem i_96_0 : q_dec 96 0 = some (11, .iload_n 1, 1) := by decide +kernel
theorem i_96_1 : q_dec 96 1 = some (11, .invokestatic 251, 3) := by decide +kernel
theorem i_96_4 : q_dec 96 4 = some (11, .ifCond .ne (5), 3) := by decide +kernel
theorem i_96_7 : q_dec 96 7 = some (11, .iconst (-1), 1) := by decide +kernel
theorem i_96_8 : q_dec 96 8 = some (11, .ireturn, 1) := by decide +kernel
theorem i_96_9 : q_dec 96 9 = some (11, .aload_n 0, 1) := by decide +kernel
theorem i_96_10 : q_dec 96 10 = some (11, .getfield 27, 3) := by decide +kernel
theorem i_96_13 : q_dec 96 13 = some (11, .iload_n 1, 1) := by decide +kernel
theorem i_96_14 : q_dec 96 14 = some (11, .baload, 1) := by decide +kernel
theorem i_96_15 : q_dec 96 15 = some (11, .ifCond .ne (6), 3) := by decide +kernel
theorem i_96_18 : q_dec 96 18 = some (11, .bipush (-2), 2) := by decide +kernel
theorem i_96_20 : q_dec 96 20 = some (11, .ireturn, 1) := by decide +kernel
theorem i_96_21 : q_dec 96 21 = some (11, .aload_n 0, 1) := by decide +kernel
theorem i_96_22 : q_dec 96 22 = some (11, .getfield 19, 3) := by decide +kernel
theorem i_96_25 : q_dec 96 25 = some (11, .aload_n 0, 1) := by decide +kernel
theorem i_96_26 : q_dec 96 26 = some (11, .getfield 23, 3) := by decide +kernel
theorem i_96_29 : q_dec 96 29 = some (11, .iload_n 1, 1) := by decide +kernel
theorem i_96_30 : q_dec 96 30 = some (11, .aaload, 1) := by decide +kernel
theorem i_96_31 : q_dec 96 31 = some (11, .invokevirtual 254, 3) := by decide +kernel
theorem i_96_34 : q_dec 96 34 = some (11, .aload_n 0, 1) := by decide +kernel
theorem i_96_35 : q_dec 96 35 = some (11, .getfield 19, 3) := by decide +kernel
theorem i_96_38 : q_dec 96 38 = some (11, .getfield 144, 3) := by decide +kernel
theorem i_96_41 : q_dec 96 41 = some (11, .ireturn, 1) := by decide +kernel
theorem i_97_0 : q_dec 97 0 = some (11, .iload_n 1, 1) := by decide +kernel
theorem i_97_1 : q_dec 97 1 = some (11, .tableswitch (89) (0) (5) #[39, 47, 55, 64, 73, 81], 39) := by decide +kernel
theorem i_97_40 : q_dec 97 40 = some (11, .aload_n 0, 1) := by decide +kernel
theorem i_97_41 : q_dec 97 41 = some (11, .getfield 47, 3) := by decide +kernel
theorem i_97_44 : q_dec 97 44 = some (11, .getfield 258, 3) := by decide +kernel
theorem i_97_47 : q_dec 97 47 = some (11, .ireturn, 1) := by decide +kernel
theorem i_97_48 : q_dec 97 48 = some (11, .aload_n 0, 1) := by decide +kernel
theorem i_97_49 : q_dec 97 49 = some (11, .getfield 47, 3) := by decide +kernel
theorem i_97_52 : q_dec 97 52 = some (11, .getfield 261, 3) := by decide +kernel
theorem i_97_55 : q_dec 97 55 = some (11, .ireturn, 1) := by decide +kernel
end
section
theorem i_97_56 : q_dec 97 56 = some (11, .aload_n 0, 1) := by decide +kernel
theorem i_97_57 : q_dec 97 57 = some (11, .getfield 47, 3) := by decide +kernel
theorem i_97_60 : q_dec 97 60 = some (11, .iconst 1, 1) := by decide +kernel
theorem i_97_61 : q_dec 97 61 = some (11, .invokevirtual 264, 3) := by decide +kernel
theorem i_97_64 : q_dec 97 64 = some (11, .ireturn, 1) := by decide +kernel
theorem i_97_65 : q_dec 97 65 = some (11, .aload_n 0, 1) := by decide +kernel
theorem i_97_66 : q_dec 97 66 = some (11, .getfield 47, 3) := by decide +kernel
theorem i_97_69 : q_dec 97 69 = some (11, .iconst 2, 1) := by decide +kernel
theorem i_97_70 : q_dec 97 70 = some (11, .invokevirtual 264, 3) := by decide +kernel
theorem i_97_73 : q_dec 97 73 = some (11, .ireturn, 1) := by decide +kernel
theorem i_97_74 : q_dec 97 74 = some (11, .aload_n 0, 1) := by decide +kernel
theorem i_97_75 : q_dec 97 75 = some (11, .getfield 34, 3) := by decide +kernel
theorem i_97_78 : q_dec 97 78 = some (11, .getfield 105, 3) := by decide +kernel
theorem i_97_81 : q_dec 97 81 = some (11, .ireturn, 1) := by decide +kernel
theorem i_97_82 : q_dec 97 82 = some (11, .aload_n 0, 1) := by decide +kernel
theorem i_97_83 : q_dec 97 83 = some (11, .getfield 12, 3) := by decide +kernel
theorem i_97_86 : q_dec 97 86 = some (11, .getfield 87, 3) := by decide +kernel
theorem i_97_89 : q_dec 97 89 = some (11, .ireturn, 1) := by decide +kernel
theorem i_97_90 : q_dec 97 90 = some (11, .iconst (-1), 1) := by decide +kernel
theorem i_97_91 : q_dec 97 91 = some (11, .ireturn, 1) := by decide +kernel
theorem i_98_0 : q_dec 98 0 = some (11, .aload_n 0, 1) := by decide +kernel
theorem i_98_1 : q_dec 98 1 = some (11, .getfield 54, 3) := by decide +kernel
theorem i_98_4 : q_dec 98 4 = some (11, .lreturn, 1) := by decide +kernel
theorem i_99_0 : q_dec 99 0 = some (12, .iload_n 3, 1) := by decide +kernel
theorem i_99_1 : q_dec 99 1 = some (12, .i2l, 1) := by decide +kernel
theorem i_99_2 : q_dec 99 2 = some (12, .lconst 1, 1) := by decide +kernel
theorem i_99_3 : q_dec 99 3 = some (12, .ldc2_w 87, 3) := by decide +kernel
theorem i_99_6 : q_dec 99 6 = some (12, .invokestatic 72, 3) := by decide +kernel
theorem i_99_9 : q_dec 99 9 = some (12, .ifCond .ne (5), 3) := by decide +kernel
theorem i_99_12 : q_dec 99 12 = some (12, .iconst (-1), 1) := by decide +kernel
theorem i_99_13 : q_dec 99 13 = some (12, .ireturn, 1) := by decide +kernel
theorem i_99_14 : q_dec 99 14 = some (12, .aload_n 0, 1) := by decide +kernel
theorem i_99_15 : q_dec 99 15 = some (12, .getfield 89, 3) := by decide +kernel
theorem i_99_18 : q_dec 99 18 = some (12, .iload_n 3, 1) := by decide +kernel
theorem i_99_19 : q_dec 99 19 = some (12, .iadd, 1) := by decide +kernel
theorem i_99_20 : q_dec 99 20 = some (12, .sipush 200, 3) := by decide +kernel
theorem i_99_23 : q_dec 99 23 = some (12, .if_icmp .le (6), 3) := by decide +kernel
theorem i_99_26 : q_dec 99 26 = some (12, .bipush (-3), 2) := by decide +kernel
theorem i_99_28 : q_dec 99 28 = some (12, .ireturn, 1) := by decide +kernel
theorem i_99_29 : q_dec 99 29 = some (12, .iload_n 3, 1) := by decide +kernel
theorem i_99_30 : q_dec 99 30 = some (12, .iconst 1, 1) := by decide +kernel
theorem i_99_31 : q_dec 99 31 = some (12, .isub, 1) := by decide +kernel
theorem i_99_32 : q_dec 99 32 = some (12, .istore 4, 2) := by decide +kernel
theorem i_99_34 : q_dec 99 34 = some (12, .iload 4, 2) := by decide +kernel
theorem i_99_36 : q_dec 99 36 = some (12, .ifCond .lt (40), 3) := by decide +kernel
theorem i_99_39 : q_dec 99 39 = some (12, .aload_n 0, 1) := by decide +kernel
theorem i_99_40 : q_dec 99 40 = some (12, .getfield 25, 3) := by decide +kernel
theorem i_99_43 : q_dec 99 43 = some (12, .aload_n 0, 1) := by decide +kernel
theorem i_99_44 : q_dec 99 44 = some (12, .getfield 89, 3) := by decide +kernel
theorem i_99_47 : q_dec 99 47 = some (12, .lload_n 1, 1) := by decide +kernel
theorem i_99_48 : q_dec 99 48 = some (12, .bipush 8, 2) := by decide +kernel
theorem i_99_50 : q_dec 99 50 = some (12, .iload 4, 2) := by decide +kernel
theorem i_99_52 : q_dec 99 52 = some (12, .imul, 1) := by decide +kernel
theorem i_99_53 : q_dec 99 53 = some (12, .lshr, 1) := by decide +kernel
theorem i_99_54 : q_dec 99 54 = some (12, .ldc2_w 92, 3) := by decide +kernel
theorem i_99_57 : q_dec 99 57 = some (12, .land, 1) := by decide +kernel
theorem i_99_58 : q_dec 99 58 = some (12, .l2i, 1) := by decide +kernel
theorem i_99_59 : q_dec 99 59 = some (12, .iastore, 1) := by decide +kernel
theorem i_99_60 : q_dec 99 60 = some (12, .aload_n 0, 1) := by decide +kernel
theorem i_99_61 : q_dec 99 61 = some (12, .dup, 1) := by decide +kernel
theorem i_99_62 : q_dec 99 62 = some (12, .getfield 89, 3) := by decide +kernel
theorem i_99_65 : q_dec 99 65 = some (12, .iconst 1, 1) := by decide +kernel
theorem i_99_66 : q_dec 99 66 = some (12, .iadd, 1) := by decide +kernel
theorem i_99_67 : q_dec 99 67 = some (12, .putfield 89, 3) := by decide +kernel
theorem i_99_70 : q_dec 99 70 = some (12, .iinc 4 (-1), 3) := by decide +kernel
theorem i_99_73 : q_dec 99 73 = some (12, .goto (-39), 3) := by decide +kernel
theorem i_99_76 : q_dec 99 76 = some (12, .aload_n 0, 1) := by decide +kernel
theorem i_99_77 : q_dec 99 77 = some (12, .getfield 89, 3) := by decide +kernel
theorem i_99_80 : q_dec 99 80 = some (12, .ireturn, 1) := by decide +kernel
theorem i_100_0 : q_dec 100 0 = some (12, .lload_n 0, 1) := by decide +kernel
theorem i_100_1 : q_dec 100 1 = some (12, .lload_n 2, 1) := by decide +kernel
theorem i_100_2 : q_dec 100 2 = some (12, .lcmp, 1) := by decide +kernel
theorem i_100_3 : q_dec 100 3 = some (12, .ifCond .lt (14), 3) := by decide +kernel
theorem i_100_6 : q_dec 100 6 = some (12, .lload_n 0, 1) := by decide +kernel
theorem i_100_7 : q_dec 100 7 = some (12, .lload 4, 2) := by decide +kernel
theorem i_100_9 : q_dec 100 9 = some (12, .lcmp, 1) := by decide +kernel
theorem i_100_10 : q_dec 100 10 = some (12, .ifCond .gt (7), 3) := by decide +kernel
theorem i_100_13 : q_dec 100 13 = some (12, .iconst 1, 1) := by decide +kernel
theorem i_100_14 : q_dec 100 14 = some (12, .goto 4, 3) := by decide +kernel
theorem i_100_17 : q_dec 100 17 = some (12, .iconst 0, 1) := by decide +kernel
theorem i_100_18 : q_dec 100 18 = some (12, .ireturn, 1) := by decide +kernel
theorem i_101_0 : q_dec 101 0 = some (12, .aload_n 0, 1) := by decide +kernel
theorem i_101_1 : q_dec 101 1 = some (12, .getfield 89, 3) := by decide +kernel
theorem i_101_4 : q_dec 101 4 = some (12, .istore_n 1, 1) := by decide +kernel
theorem i_101_5 : q_dec 101 5 = some (12, .aload_n 0, 1) := by decide +kernel
theorem i_101_6 : q_dec 101 6 = some (12, .iconst 0, 1) := by decide +kernel
theorem i_101_7 : q_dec 101 7 = some (12, .putfield 89, 3) := by decide +kernel
theorem i_101_10 : q_dec 101 10 = some (12, .iload_n 1, 1) := by decide +kernel
theorem i_101_11 : q_dec 101 11 = some (12, .ireturn, 1) := by decide +kernel
theorem i_102_0 : q_dec 102 0 = some (12, .aload_n 0, 1) := by decide +kernel
theorem i_102_1 : q_dec 102 1 = some (12, .iconst 0, 1) := by decide +kernel
theorem i_102_2 : q_dec 102 2 = some (12, .putfield 94, 3) := by decide +kernel
theorem i_102_5 : q_dec 102 5 = some (12, .aload_n 0, 1) := by decide +kernel
theorem i_102_6 : q_dec 102 6 = some (12, .bipush (-9), 2) := by decide +kernel
theorem i_102_8 : q_dec 102 8 = some (12, .putfield 97, 3) := by decide +kernel
theorem i_102_11 : q_dec 102 11 = some (12, .aload_n 0, 1) := by decide +kernel
theorem i_102_12 : q_dec 102 12 = some (12, .iconst 0, 1) := by decide +kernel
theorem i_102_13 : q_dec 102 13 = some (12, .putfield 144, 3) := by decide +kernel
theorem i_102_16 : q_dec 102 16 = some (12, .aload_n 0, 1) := by decide +kernel
theorem i_102_17 : q_dec 102 17 = some (12, .iconst 4, 1) := by decide +kernel
theorem i_102_18 : q_dec 102 18 = some (12, .putfield 120, 3) := by decide +kernel
theorem i_102_21 : q_dec 102 21 = some (12, .aload_n 0, 1) := by decide +kernel
theorem i_102_22 : q_dec 102 22 = some (12, .iconst 3, 1) := by decide +kernel
theorem i_102_23 : q_dec 102 23 = some (12, .putfield 126, 3) := by decide +kernel
theorem i_102_26 : q_dec 102 26 = some (12, .aload_n 0, 1) := by decide +kernel
theorem i_102_27 : q_dec 102 27 = some (12, .iconst 0, 1) := by decide +kernel
theorem i_102_28 : q_dec 102 28 = some (12, .putfield 129, 3) := by decide +kernel
theorem i_102_31 : q_dec 102 31 = some (12, .aload_n 0, 1) := by decide +kernel
theorem i_102_32 : q_dec 102 32 = some (12, .iconst 0, 1) := by decide +kernel
theorem i_102_33 : q_dec 102 33 = some (12, .putfield 132, 3) := by decide +kernel
theorem i_102_36 : q_dec 102 36 = some (12, .aload_n 0, 1) := by decide +kernel
theorem i_102_37 : q_dec 102 37 = some (12, .getfield 42, 3) := by decide +kernel
theorem i_102_40 : q_dec 102 40 = some (12, .iconst 0, 1) := by decide +kernel
theorem i_102_41 : q_dec 102 41 = some (12, .iconst 1, 1) := by decide +kernel
theorem i_102_42 : q_dec 102 42 = some (12, .iastore, 1) := by decide +kernel
theorem i_102_43 : q_dec 102 43 = some (12, .aload_n 0, 1) := by decide +kernel
theorem i_102_44 : q_dec 102 44 = some (12, .getfield 42, 3) := by decide +kernel
theorem i_102_47 : q_dec 102 47 = some (12, .iconst 1, 1) := by decide +kernel
theorem i_102_48 : q_dec 102 48 = some (12, .iconst 1, 1) := by decide +kernel
theorem i_102_49 : q_dec 102 49 = some (12, .iastore, 1) := by decide +kernel
theorem i_102_50 : q_dec 102 50 = some (12, .aload_n 0, 1) := by decide +kernel
theorem i_102_51 : q_dec 102 51 = some (12, .getfield 42, 3) := by decide +kernel
theorem i_102_54 : q_dec 102 54 = some (12, .iconst 2, 1) := by decide +kernel
theorem i_102_55 : q_dec 102 55 = some (12, .iconst 2, 1) := by decide +kernel
theorem i_102_56 : q_dec 102 56 = some (12, .iastore, 1) := by decide +kernel
theorem i_102_57 : q_dec 102 57 = some (12, .aload_n 0, 1) := by decide +kernel
theorem i_102_58 : q_dec 102 58 = some (12, .getfield 42, 3) := by decide +kernel
theorem i_102_61 : q_dec 102 61 = some (12, .iconst 3, 1) := by decide +kernel
theorem i_102_62 : q_dec 102 62 = some (12, .iconst 0, 1) := by decide +kernel
theorem i_102_63 : q_dec 102 63 = some (12, .iastore, 1) := by decide +kernel
theorem i_102_64 : q_dec 102 64 = some (12, .aload_n 0, 1) := by decide +kernel
theorem i_102_65 : q_dec 102 65 = some (12, .getfield 42, 3) := by decide +kernel
theorem i_102_68 : q_dec 102 68 = some (12, .iconst 4, 1) := by decide +kernel
theorem i_102_69 : q_dec 102 69 = some (12, .iconst 0, 1) := by decide +kernel
theorem i_102_70 : q_dec 102 70 = some (12, .iastore, 1) := by decide +kernel
theorem i_102_71 : q_dec 102 71 = some (12, .aload_n 0, 1) := by decide +kernel
theorem i_102_72 : q_dec 102 72 = some (12, .iconst 0, 1) := by decide +kernel
theorem i_102_73 : q_dec 102 73 = some (12, .putfield 135, 3) := by decide +kernel
theorem i_102_76 : q_dec 102 76 = some (12, .aload_n 0, 1) := by decide +kernel
theorem i_102_77 : q_dec 102 77 = some (12, .getfield 97, 3) := by decide +kernel
theorem i_102_80 : q_dec 102 80 = some (12, .ifCond .ge (17), 3) := by decide +kernel
theorem i_102_83 : q_dec 102 83 = some (12, .aload_n 0, 1) := by decide +kernel
theorem i_102_84 : q_dec 102 84 = some (12, .invokevirtual 100, 3) := by decide +kernel
theorem i_102_87 : q_dec 102 87 = some (12, .ifCond .ne (10), 3) := by decide +kernel
theorem i_102_90 : q_dec 102 90 = some (12, .aload_n 0, 1) := by decide +kernel
theorem i_102_91 : q_dec 102 91 = some (12, .invokevirtual 164, 3) := by decide +kernel
theorem i_102_94 : q_dec 102 94 = some (12, .goto (-18), 3) := by decide +kernel
theorem i_102_97 : q_dec 102 97 = some (12, .aload_n 0, 1) := by decide +kernel
theorem i_102_98 : q_dec 102 98 = some (12, .getfield 97, 3) := by decide +kernel
theorem i_102_101 : q_dec 102 101 = some (12, .ifCond .lt (11), 3) := by decide +kernel
theorem i_102_104 : q_dec 102 104 = some (12, .bipush (-10), 2) := by decide +kernel
theorem i_102_106 : q_dec 102 106 = some (12, .aload_n 0, 1) := by decide +kernel
theorem i_102_107 : q_dec 102 107 = some (12, .getfield 97, 3) := by decide +kernel
theorem i_102_110 : q_dec 102 110 = some (12, .isub, 1) := by decide +kernel
theorem i_102_111 : q_dec 102 111 = some (12, .ireturn, 1) := by decide +kernel
theorem i_102_112 : q_dec 102 112 = some (12, .aload_n 0, 1) := by decide +kernel
theorem i_102_113 : q_dec 102 113 = some (12, .aload_n 0, 1) := by decide +kernel
theorem i_102_114 : q_dec 102 114 = some (12, .getfield 120, 3) := by decide +kernel
theorem i_102_117 : q_dec 102 117 = some (12, .putfield 7, 3) := by decide +kernel
theorem i_102_120 : q_dec 102 120 = some (12, .aload_n 0, 1) := by decide +kernel
theorem i_102_121 : q_dec 102 121 = some (12, .aload_n 0, 1) := by decide +kernel
theorem i_102_122 : q_dec 102 122 = some (12, .getfield 126, 3) := by decide +kernel
theorem i_102_125 : q_dec 102 125 = some (12, .putfield 13, 3) := by decide +kernel
theorem i_102_128 : q_dec 102 128 = some (12, .aload_n 0, 1) := by decide +kernel
theorem i_102_129 : q_dec 102 129 = some (12, .aload_n 0, 1) := by decide +kernel
theorem i_102_130 : q_dec 102 130 = some (12, .getfield 129, 3) := by decide +kernel
theorem i_102_133 : q_dec 102 133 = some (12, .putfield 80, 3) := by decide +kernel
theorem i_102_136 : q_dec 102 136 = some (12, .aload_n 0, 1) := by decide +kernel
theorem i_102_137 : q_dec 102 137 = some (12, .aload_n 0, 1) := by decide +kernel
theorem i_102_138 : q_dec 102 138 = some (12, .getfield 132, 3) := by decide +kernel
theorem i_102_141 : q_dec 102 141 = some (12, .putfield 167, 3) := by decide +kernel
theorem i_102_144 : q_dec 102 144 = some (12, .aload_n 0, 1) := by decide +kernel
theorem i_102_145 : q_dec 102 145 = some (12, .aload_n 0, 1) := by decide +kernel
theorem i_102_146 : q_dec 102 146 = some (12, .getfield 42, 3) := by decide +kernel
theorem i_102_149 : q_dec 102 149 = some (12, .iconst 0, 1) := by decide +kernel
theorem i_102_150 : q_dec 102 150 = some (12, .iaload, 1) := by decide +kernel
theorem i_102_151 : q_dec 102 151 = some (12, .putfield 16, 3) := by decide +kernel
theorem i_102_154 : q_dec 102 154 = some (12, .aload_n 0, 1) := by decide +kernel
theorem i_102_155 : q_dec 102 155 = some (12, .aload_n 0, 1) := by decide +kernel
theorem i_102_156 : q_dec 102 156 = some (12, .getfield 42, 3) := by decide +kernel
theorem i_102_159 : q_dec 102 159 = some (12, .iconst 1, 1) := by decide +kernel
theorem i_102_160 : q_dec 102 160 = some (12, .iaload, 1) := by decide +kernel
theorem i_102_161 : q_dec 102 161 = some (12, .putfield 19, 3) := by decide +kernel
theorem i_102_164 : q_dec 102 164 = some (12, .aload_n 0, 1) := by decide +kernel
theorem i_102_165 : q_dec 102 165 = some (12, .aload_n 0, 1) := by decide +kernel
theorem i_102_166 : q_dec 102 166 = some (12, .getfield 42, 3) := by decide +kernel
theorem i_102_169 : q_dec 102 169 = some (12, .iconst 2, 1) := by decide +kernel
theorem i_102_170 : q_dec 102 170 = some (12, .iaload, 1) := by decide +kernel
theorem i_102_171 : q_dec 102 171 = some (12, .putfield 22, 3) := by decide +kernel
theorem i_102_174 : q_dec 102 174 = some (12, .aload_n 0, 1) := by decide +kernel
theorem i_102_175 : q_dec 102 175 = some (12, .aload_n 0, 1) := by decide +kernel
theorem i_102_176 : q_dec 102 176 = some (12, .getfield 42, 3) := by decide +kernel
theorem i_102_179 : q_dec 102 179 = some (12, .iconst 3, 1) := by decide +kernel
theorem i_102_180 : q_dec 102 180 = some (12, .iaload, 1) := by decide +kernel
theorem i_102_181 : q_dec 102 181 = some (12, .putfield 170, 3) := by decide +kernel
theorem i_102_184 : q_dec 102 184 = some (12, .aload_n 0, 1) := by decide +kernel
theorem i_102_185 : q_dec 102 185 = some (12, .aload_n 0, 1) := by decide +kernel
theorem i_102_186 : q_dec 102 186 = some (12, .getfield 42, 3) := by decide +kernel
theorem i_102_189 : q_dec 102 189 = some (12, .iconst 4, 1) := by decide +kernel
theorem i_102_190 : q_dec 102 190 = some (12, .iaload, 1) := by decide +kernel
theorem i_102_191 : q_dec 102 191 = some (12, .putfield 173, 3) := by decide +kernel
theorem i_102_194 : q_dec 102 194 = some (12, .aload_n 0, 1) := by decide +kernel
theorem i_102_195 : q_dec 102 195 = some (12, .iconst 0, 1) := by decide +kernel
theorem i_102_196 : q_dec 102 196 = some (12, .putfield 89, 3) := by decide +kernel
theorem i_102_199 : q_dec 102 199 = some (12, .aload_n 0, 1) := by decide +kernel
theorem i_102_200 : q_dec 102 200 = some (12, .iconst 0, 1) := by decide +kernel
theorem i_102_201 : q_dec 102 201 = some (12, .putfield 176, 3) := by decide +kernel
theorem i_102_204 : q_dec 102 204 = some (12, .aload_n 0, 1) := by decide +kernel
theorem i_102_205 : q_dec 102 205 = some (12, .getfield 29, 3) := by decide +kernel
theorem i_102_208 : q_dec 102 208 = some (12, .iconst 0, 1) := by decide +kernel
theorem i_102_209 : q_dec 102 209 = some (12, .bipush (-9), 2) := by decide +kernel
theorem i_102_211 : q_dec 102 211 = some (12, .iastore, 1) := by decide +kernel
theorem i_102_212 : q_dec 102 212 = some (12, .aload_n 0, 1) := by decide +kernel
theorem i_102_213 : q_dec 102 213 = some (12, .getfield 29, 3) := by decide +kernel
theorem i_102_216 : q_dec 102 216 = some (12, .iconst 1, 1) := by decide +kernel
theorem i_102_217 : q_dec 102 217 = some (12, .iconst 0, 1) := by decide +kernel
theorem i_102_218 : q_dec 102 218 = some (12, .iastore, 1) := by decide +kernel
theorem i_102_219 : q_dec 102 219 = some (12, .aload_n 0, 1) := by decide +kernel
theorem i_102_220 : q_dec 102 220 = some (12, .getfield 29, 3) := by decide +kernel
theorem i_102_223 : q_dec 102 223 = some (12, .iconst 2, 1) := by decide +kernel
theorem i_102_224 : q_dec 102 224 = some (12, .iconst 0, 1) := by decide +kernel
theorem i_102_225 : q_dec 102 225 = some (12, .iastore, 1) := by decide +kernel
theorem i_102_226 : q_dec 102 226 = some (12, .aload_n 0, 1) := by decide +kernel
theorem i_102_227 : q_dec 102 227 = some (12, .getfield 29, 3) := by decide +kernel
theorem i_102_230 : q_dec 102 230 = some (12, .iconst 3, 1) := by decide +kernel
theorem i_102_231 : q_dec 102 231 = some (12, .iconst 0, 1) := by decide +kernel
theorem i_102_232 : q_dec 102 232 = some (12, .iastore, 1) := by decide +kernel
theorem i_102_233 : q_dec 102 233 = some (12, .aload_n 0, 1) := by decide +kernel
theorem i_102_234 : q_dec 102 234 = some (12, .getfield 32, 3) := by decide +kernel
theorem i_102_237 : q_dec 102 237 = some (12, .iconst 0, 1) := by decide +kernel
theorem i_102_238 : q_dec 102 238 = some (12, .iconst 0, 1) := by decide +kernel
theorem i_102_239 : q_dec 102 239 = some (12, .bastore, 1) := by decide +kernel
theorem i_102_240 : q_dec 102 240 = some (12, .aload_n 0, 1) := by decide +kernel
theorem i_102_241 : q_dec 102 241 = some (12, .getfield 32, 3) := by decide +kernel
theorem i_102_244 : q_dec 102 244 = some (12, .iconst 1, 1) := by decide +kernel
theorem i_102_245 : q_dec 102 245 = some (12, .iconst 0, 1) := by decide +kernel
theorem i_102_246 : q_dec 102 246 = some (12, .bastore, 1) := by decide +kernel
theorem i_102_247 : q_dec 102 247 = some (12, .aload_n 0, 1) := by decide +kernel
theorem i_102_248 : q_dec 102 248 = some (12, .getfield 144, 3) := by decide +kernel
theorem i_102_251 : q_dec 102 251 = some (12, .ireturn, 1) := by decide +kernel
theorem i_103_0 : q_dec 103 0 = some (12, .aload_n 0, 1) := by decide +kernel
theorem i_103_1 : q_dec 103 1 = some (12, .getfield 94, 3) := by decide +kernel
theorem i_103_4 : q_dec 103 4 = some (12, .aload_n 0, 1) := by decide +kernel
theorem i_103_5 : q_dec 103 5 = some (12, .getfield 89, 3) := by decide +kernel
theorem i_103_8 : q_dec 103 8 = some (12, .if_icmp .ge (30), 3) := by decide +kernel
theorem i_103_11 : q_dec 103 11 = some (12, .aload_n 0, 1) := by decide +kernel
theorem i_103_12 : q_dec 103 12 = some (12, .getfield 25, 3) := by decide +kernel
theorem i_103_15 : q_dec 103 15 = some (12, .aload_n 0, 1) := by decide +kernel
theorem i_103_16 : q_dec 103 16 = some (12, .getfield 94, 3) := by decide +kernel
theorem i_103_19 : q_dec 103 19 = some (12, .iaload, 1) := by decide +kernel
theorem i_103_20 : q_dec 103 20 = some (12, .bipush 32, 2) := by decide +kernel
theorem i_103_22 : q_dec 103 22 = some (12, .if_icmp .ne (16), 3) := by decide +kernel
theorem i_103_25 : q_dec 103 25 = some (12, .aload_n 0, 1) := by decide +kernel
theorem i_103_26 : q_dec 103 26 = some (12, .dup, 1) := by decide +kernel
theorem i_103_27 : q_dec 103 27 = some (12, .getfield 94, 3) := by decide +kernel
theorem i_103_30 : q_dec 103 30 = some (12, .iconst 1, 1) := by decide +kernel
theorem i_103_31 : q_dec 103 31 = some (12, .iadd, 1) := by decide +kernel
theorem i_103_32 : q_dec 103 32 = some (12, .putfield 94, 3) := by decide +kernel
theorem i_103_35 : q_dec 103 35 = some (12, .goto (-35), 3) := by decide +kernel
theorem i_103_38 : q_dec 103 38 = some (12, .aload_n 0, 1) := by decide +kernel
theorem i_103_39 : q_dec 103 39 = some (12, .getfield 94, 3) := by decide +kernel
theorem i_103_42 : q_dec 103 42 = some (12, .aload_n 0, 1) := by decide +kernel
theorem i_103_43 : q_dec 103 43 = some (12, .getfield 89, 3) := by decide +kernel
theorem i_103_46 : q_dec 103 46 = some (12, .if_icmp .ne (7), 3) := by decide +kernel
theorem i_103_49 : q_dec 103 49 = some (12, .iconst 1, 1) := by decide +kernel
theorem i_103_50 : q_dec 103 50 = some (12, .goto 4, 3) := by decide +kernel
theorem i_103_53 : q_dec 103 53 = some (12, .iconst 0, 1) := by decide +kernel
theorem i_103_54 : q_dec 103 54 = some (12, .ireturn, 1) := by decide +kernel
theorem i_104_0 : q_dec 104 0 = some (12, .aload_n 0, 1) := by decide +kernel
theorem i_104_1 : q_dec 104 1 = some (12, .getfield 94, 3) := by decide +kernel
theorem i_104_4 : q_dec 104 4 = some (12, .istore_n 1, 1) := by decide +kernel
theorem i_104_5 : q_dec 104 5 = some (12, .aload_n 0, 1) := by decide +kernel
theorem i_104_6 : q_dec 104 6 = some (12, .invokevirtual 138, 3) := by decide +kernel
theorem i_104_9 : q_dec 104 9 = some (12, .lstore_n 2, 1) := by decide +kernel
theorem i_104_10 : q_dec 104 10 = some (12, .lload_n 2, 1) := by decide +kernel
theorem i_104_11 : q_dec 104 11 = some (12, .ldc2_w 142, 3) := by decide +kernel
theorem i_104_14 : q_dec 104 14 = some (12, .lcmp, 1) := by decide +kernel
theorem i_104_15 : q_dec 104 15 = some (12, .ifCond .ne (33), 3) := by decide +kernel
theorem i_104_18 : q_dec 104 18 = some (12, .aload_n 0, 1) := by decide +kernel
theorem i_104_19 : q_dec 104 19 = some (12, .getfield 144, 3) := by decide +kernel
theorem i_104_22 : q_dec 104 22 = some (12, .ifCond .ne (26), 3) := by decide +kernel
theorem i_104_25 : q_dec 104 25 = some (12, .aload_n 0, 1) := by decide +kernel
theorem i_104_26 : q_dec 104 26 = some (12, .aload_n 0, 1) := by decide +kernel
theorem i_104_27 : q_dec 104 27 = some (12, .iconst 2, 1) := by decide +kernel
theorem i_104_28 : q_dec 104 28 = some (12, .iconst 5, 1) := by decide +kernel
theorem i_104_29 : q_dec 104 29 = some (12, .invokevirtual 123, 3) := by decide +kernel
theorem i_104_32 : q_dec 104 32 = some (12, .putfield 120, 3) := by decide +kernel
theorem i_104_35 : q_dec 104 35 = some (12, .aload_n 0, 1) := by decide +kernel
theorem i_104_36 : q_dec 104 36 = some (12, .aload_n 0, 1) := by decide +kernel
theorem i_104_37 : q_dec 104 37 = some (12, .iconst 1, 1) := by decide +kernel
theorem i_104_38 : q_dec 104 38 = some (12, .iconst 4, 1) := by decide +kernel
theorem i_104_39 : q_dec 104 39 = some (12, .invokevirtual 123, 3) := by decide +kernel
theorem i_104_42 : q_dec 104 42 = some (12, .putfield 126, 3) := by decide +kernel
theorem i_104_45 : q_dec 104 45 = some (12, .goto 165, 3) := by decide +kernel
theorem i_104_48 : q_dec 104 48 = some (12, .lload_n 2, 1) := by decide +kernel
theorem i_104_49 : q_dec 104 49 = some (12, .ldc2_w 147, 3) := by decide +kernel
theorem i_104_52 : q_dec 104 52 = some (12, .lcmp, 1) := by decide +kernel
theorem i_104_53 : q_dec 104 53 = some (12, .ifCond .eq (11), 3) := by decide +kernel
theorem i_104_56 : q_dec 104 56 = some (12, .lload_n 2, 1) := by decide +kernel
theorem i_104_57 : q_dec 104 57 = some (12, .ldc2_w 149, 3) := by decide +kernel
theorem i_104_60 : q_dec 104 60 = some (12, .lcmp, 1) := by decide +kernel
theorem i_104_61 : q_dec 104 61 = some (12, .ifCond .ne (23), 3) := by decide +kernel
theorem i_104_64 : q_dec 104 64 = some (12, .aload_n 0, 1) := by decide +kernel
theorem i_104_65 : q_dec 104 65 = some (12, .lload_n 2, 1) := by decide +kernel
theorem i_104_66 : q_dec 104 66 = some (12, .ldc2_w 147, 3) := by decide +kernel
theorem i_104_69 : q_dec 104 69 = some (12, .lcmp, 1) := by decide +kernel
theorem i_104_70 : q_dec 104 70 = some (12, .ifCond .ne (7), 3) := by decide +kernel
theorem i_104_73 : q_dec 104 73 = some (12, .iconst 1, 1) := by decide +kernel
theorem i_104_74 : q_dec 104 74 = some (12, .goto 4, 3) := by decide +kernel
theorem i_104_77 : q_dec 104 77 = some (12, .iconst 0, 1) := by decide +kernel
theorem i_104_78 : q_dec 104 78 = some (12, .invokevirtual 151, 3) := by decide +kernel
theorem i_104_81 : q_dec 104 81 = some (12, .goto 129, 3) := by decide +kernel
theorem i_104_84 : q_dec 104 84 = some (12, .lload_n 2, 1) := by decide +kernel
theorem i_104_85 : q_dec 104 85 = some (12, .ldc2_w 155, 3) := by decide +kernel
theorem i_104_88 : q_dec 104 88 = some (12, .lcmp, 1) := by decide +kernel
theorem i_104_89 : q_dec 104 89 = some (12, .ifCond .ne (52), 3) := by decide +kernel
theorem i_104_92 : q_dec 104 92 = some (12, .aload_n 0, 1) := by decide +kernel
theorem i_104_93 : q_dec 104 93 = some (12, .iconst 0, 1) := by decide +kernel
theorem i_104_94 : q_dec 104 94 = some (12, .iload_n 1, 1) := by decide +kernel
theorem i_104_95 : q_dec 104 95 = some (12, .invokevirtual 157, 3) := by decide +kernel
theorem i_104_98 : q_dec 104 98 = some (12, .ifCond .ne (112), 3) := by decide +kernel
theorem i_104_101 : q_dec 104 101 = some (12, .aload_n 0, 1) := by decide +kernel
theorem i_104_102 : q_dec 104 102 = some (12, .getfield 42, 3) := by decide +kernel
theorem i_104_105 : q_dec 104 105 = some (12, .iconst 0, 1) := by decide +kernel
theorem i_104_106 : q_dec 104 106 = some (12, .aload_n 0, 1) := by decide +kernel
theorem i_104_107 : q_dec 104 107 = some (12, .iconst 0, 1) := by decide +kernel
theorem i_104_108 : q_dec 104 108 = some (12, .iconst 4, 1) := by decide +kernel
theorem i_104_109 : q_dec 104 109 = some (12, .invokevirtual 123, 3) := by decide +kernel
theorem i_104_112 : q_dec 104 112 = some (12, .iastore, 1) := by decide +kernel
theorem i_104_113 : q_dec 104 113 = some (12, .aload_n 0, 1) := by decide +kernel
theorem i_104_114 : q_dec 104 114 = some (12, .getfield 42, 3) := by decide +kernel
theorem i_104_117 : q_dec 104 117 = some (12, .iconst 1, 1) := by decide +kernel
theorem i_104_118 : q_dec 104 118 = some (12, .aload_n 0, 1) := by decide +kernel
theorem i_104_119 : q_dec 104 119 = some (12, .iconst 1, 1) := by decide +kernel
theorem i_104_120 : q_dec 104 120 = some (12, .bipush 9, 2) := by decide +kernel
theorem i_104_122 : q_dec 104 122 = some (12, .invokevirtual 123, 3) := by decide +kernel
theorem i_104_125 : q_dec 104 125 = some (12, .iastore, 1) := by decide +kernel
theorem i_104_126 : q_dec 104 126 = some (12, .aload_n 0, 1) := by decide +kernel
theorem i_104_127 : q_dec 104 127 = some (12, .getfield 42, 3) := by decide +kernel
theorem i_104_130 : q_dec 104 130 = some (12, .iconst 2, 1) := by decide +kernel
theorem i_104_131 : q_dec 104 131 = some (12, .aload_n 0, 1) := by decide +kernel
theorem i_104_132 : q_dec 104 132 = some (12, .iconst 0, 1) := by decide +kernel
theorem i_104_133 : q_dec 104 133 = some (12, .iconst 2, 1) := by decide +kernel
theorem i_104_134 : q_dec 104 134 = some (12, .invokevirtual 123, 3) := by decide +kernel
theorem i_104_137 : q_dec 104 137 = some (12, .iastore, 1) := by decide +kernel
theorem i_104_138 : q_dec 104 138 = some (12, .goto 72, 3) := by decide +kernel
theorem i_104_141 : q_dec 104 141 = some (12, .lload_n 2, 1) := by decide +kernel
theorem i_104_142 : q_dec 104 142 = some (12, .ldc2_w 160, 3) := by decide +kernel
theorem i_104_145 : q_dec 104 145 = some (12, .lcmp, 1) := by decide +kernel
theorem i_104_146 : q_dec 104 146 = some (12, .ifCond .ne (26), 3) := by decide +kernel
theorem i_104_149 : q_dec 104 149 = some (12, .aload_n 0, 1) := by decide +kernel
theorem i_104_150 : q_dec 104 150 = some (12, .getfield 42, 3) := by decide +kernel
theorem i_104_153 : q_dec 104 153 = some (12, .iconst 3, 1) := by decide +kernel
theorem i_104_154 : q_dec 104 154 = some (12, .aload_n 0, 1) := by decide +kernel
theorem i_104_155 : q_dec 104 155 = some (12, .iconst 1, 1) := by decide +kernel
theorem i_104_156 : q_dec 104 156 = some (12, .iload_n 1, 1) := by decide +kernel
theorem i_104_157 : q_dec 104 157 = some (12, .invokevirtual 157, 3) := by decide +kernel
theorem i_104_160 : q_dec 104 160 = some (12, .ifCond .eq (7), 3) := by decide +kernel
theorem i_104_163 : q_dec 104 163 = some (12, .iconst 0, 1) := by decide +kernel
theorem i_104_164 : q_dec 104 164 = some (12, .goto 4, 3) := by decide +kernel
theorem i_104_167 : q_dec 104 167 = some (12, .iconst 1, 1) := by decide +kernel
theorem i_104_168 : q_dec 104 168 = some (12, .iastore, 1) := by decide +kernel
theorem i_104_169 : q_dec 104 169 = some (12, .goto 41, 3) := by decide +kernel
theorem i_104_172 : q_dec 104 172 = some (12, .lload_n 2, 1) := by decide +kernel
theorem i_104_173 : q_dec 104 173 = some (12, .ldc2_w 162, 3) := by decide +kernel
theorem i_104_176 : q_dec 104 176 = some (12, .lcmp, 1) := by decide +kernel
theorem i_104_177 : q_dec 104 177 = some (12, .ifCond .ne (28), 3) := by decide +kernel
theorem i_104_180 : q_dec 104 180 = some (12, .aload_n 0, 1) := by decide +kernel
theorem i_104_181 : q_dec 104 181 = some (12, .iconst 2, 1) := by decide +kernel
theorem i_104_182 : q_dec 104 182 = some (12, .iload_n 1, 1) := by decide +kernel
theorem i_104_183 : q_dec 104 183 = some (12, .invokevirtual 157, 3) := by decide +kernel
theorem i_104_186 : q_dec 104 186 = some (12, .ifCond .ne (24), 3) := by decide +kernel
theorem i_104_189 : q_dec 104 189 = some (12, .aload_n 0, 1) := by decide +kernel
theorem i_104_190 : q_dec 104 190 = some (12, .getfield 42, 3) := by decide +kernel
theorem i_104_193 : q_dec 104 193 = some (12, .iconst 4, 1) := by decide +kernel
theorem i_104_194 : q_dec 104 194 = some (12, .aload_n 0, 1) := by decide +kernel
theorem i_104_195 : q_dec 104 195 = some (12, .iconst 0, 1) := by decide +kernel
theorem i_104_196 : q_dec 104 196 = some (12, .bipush 9, 2) := by decide +kernel
theorem i_104_198 : q_dec 104 198 = some (12, .invokevirtual 123, 3) := by decide +kernel
theorem i_104_201 : q_dec 104 201 = some (12, .iastore, 1) := by decide +kernel
theorem i_104_202 : q_dec 104 202 = some (12, .goto 8, 3) := by decide +kernel
theorem i_104_205 : q_dec 104 205 = some (12, .aload_n 0, 1) := by decide +kernel
theorem i_104_206 : q_dec 104 206 = some (12, .iload_n 1, 1) := by decide +kernel
theorem i_104_207 : q_dec 104 207 = some (12, .putfield 97, 3) := by decide +kernel
theorem i_104_210 : q_dec 104 210 = some (12, .aload_n 0, 1) := by decide +kernel
theorem i_104_211 : q_dec 104 211 = some (12, .getfield 97, 3) := by decide +kernel
theorem i_104_214 : q_dec 104 214 = some (12, .ifCond .ge (32), 3) := by decide +kernel
theorem i_104_217 : q_dec 104 217 = some (12, .aload_n 0, 1) := by decide +kernel
theorem i_104_218 : q_dec 104 218 = some (12, .invokevirtual 100, 3) := by decide +kernel
theorem i_104_221 : q_dec 104 221 = some (12, .ifCond .ne (17), 3) := by decide +kernel
theorem i_104_224 : q_dec 104 224 = some (12, .aload_n 0, 1) := by decide +kernel
theorem i_104_225 : q_dec 104 225 = some (12, .getfield 25, 3) := by decide +kernel
theorem i_104_228 : q_dec 104 228 = some (12, .aload_n 0, 1) := by decide +kernel
theorem i_104_229 : q_dec 104 229 = some (12, .getfield 94, 3) := by decide +kernel
theorem i_104_232 : q_dec 104 232 = some (12, .iaload, 1) := by decide +kernel
theorem i_104_233 : q_dec 104 233 = some (12, .bipush 59, 2) := by decide +kernel
theorem i_104_235 : q_dec 104 235 = some (12, .if_icmp .eq (11), 3) := by decide +kernel
theorem i_104_238 : q_dec 104 238 = some (12, .aload_n 0, 1) := by decide +kernel
theorem i_104_239 : q_dec 104 239 = some (12, .aload_n 0, 1) := by decide +kernel
theorem i_104_240 : q_dec 104 240 = some (12, .getfield 94, 3) := by decide +kernel
theorem i_104_243 : q_dec 104 243 = some (12, .putfield 97, 3) := by decide +kernel
theorem i_104_246 : q_dec 104 246 = some (12, .aload_n 0, 1) := by decide +kernel
theorem i_104_247 : q_dec 104 247 = some (12, .dup, 1) := by decide +kernel
theorem i_104_248 : q_dec 104 248 = some (12, .getfield 94, 3) := by decide +kernel
theorem i_104_251 : q_dec 104 251 = some (12, .iconst 1, 1) := by decide +kernel
theorem i_104_252 : q_dec 104 252 = some (12, .iadd, 1) := by decide +kernel
theorem i_104_253 : q_dec 104 253 = some (12, .putfield 94, 3) := by decide +kernel
theorem i_104_256 : q_dec 104 256 = some (12, .aload_n 0, 1) := by decide +kernel
theorem i_104_257 : q_dec 104 257 = some (12, .dup, 1) := by decide +kernel
theorem i_104_258 : q_dec 104 258 = some (12, .getfield 144, 3) := by decide +kernel
theorem i_104_261 : q_dec 104 261 = some (12, .iconst 1, 1) := by decide +kernel
theorem i_104_262 : q_dec 104 262 = some (12, .iadd, 1) := by decide +kernel
theorem i_104_263 : q_dec 104 263 = some (12, .putfield 144, 3) := by decide +kernel
theorem i_104_266 : q_dec 104 266 = some (12, .return_, 1) := by decide +kernel
theorem i_105_0 : q_dec 105 0 = some (12, .lconst 0, 1) := by decide +kernel
theorem i_105_1 : q_dec 105 1 = some (12, .lstore_n 1, 1) := by decide +kernel
theorem i_105_2 : q_dec 105 2 = some (12, .aload_n 0, 1) := by decide +kernel
theorem i_105_3 : q_dec 105 3 = some (12, .getfield 94, 3) := by decide +kernel
theorem i_105_6 : q_dec 105 6 = some (12, .istore_n 3, 1) := by decide +kernel
theorem i_105_7 : q_dec 105 7 = some (12, .aload_n 0, 1) := by decide +kernel
theorem i_105_8 : q_dec 105 8 = some (12, .getfield 94, 3) := by decide +kernel
theorem i_105_11 : q_dec 105 11 = some (12, .aload_n 0, 1) := by decide +kernel
theorem i_105_12 : q_dec 105 12 = some (12, .getfield 89, 3) := by decide +kernel
theorem i_105_15 : q_dec 105 15 = some (12, .if_icmp .ge (74), 3) := by decide +kernel
theorem i_105_18 : q_dec 105 18 = some (12, .aload_n 0, 1) := by decide +kernel
theorem i_105_19 : q_dec 105 19 = some (12, .getfield 25, 3) := by decide +kernel
theorem i_105_22 : q_dec 105 22 = some (12, .aload_n 0, 1) := by decide +kernel
theorem i_105_23 : q_dec 105 23 = some (12, .getfield 94, 3) := by decide +kernel
theorem i_105_26 : q_dec 105 26 = some (12, .iaload, 1) := by decide +kernel
theorem i_105_27 : q_dec 105 27 = some (12, .i2l, 1) := by decide +kernel
theorem i_105_28 : q_dec 105 28 = some (12, .ldc2_w 112, 3) := by decide +kernel
theorem i_105_31 : q_dec 105 31 = some (12, .ldc2_w 114, 3) := by decide +kernel
theorem i_105_34 : q_dec 105 34 = some (12, .invokestatic 72, 3) := by decide +kernel
theorem i_105_37 : q_dec 105 37 = some (12, .ifCond .eq (52), 3) := by decide +kernel
theorem i_105_40 : q_dec 105 40 = some (12, .aload_n 0, 1) := by decide +kernel
theorem i_105_41 : q_dec 105 41 = some (12, .getfield 94, 3) := by decide +kernel
theorem i_105_44 : q_dec 105 44 = some (12, .iload_n 3, 1) := by decide +kernel
theorem i_105_45 : q_dec 105 45 = some (12, .isub, 1) := by decide +kernel
theorem i_105_46 : q_dec 105 46 = some (12, .bipush 7, 2) := by decide +kernel
theorem i_105_48 : q_dec 105 48 = some (12, .if_icmp .ge (26), 3) := by decide +kernel
theorem i_105_51 : q_dec 105 51 = some (12, .ldc2_w 116, 3) := by decide +kernel
theorem i_105_54 : q_dec 105 54 = some (12, .lload_n 1, 1) := by decide +kernel
theorem i_105_55 : q_dec 105 55 = some (12, .lmul, 1) := by decide +kernel
theorem i_105_56 : q_dec 105 56 = some (12, .aload_n 0, 1) := by decide +kernel
theorem i_105_57 : q_dec 105 57 = some (12, .getfield 25, 3) := by decide +kernel
theorem i_105_60 : q_dec 105 60 = some (12, .aload_n 0, 1) := by decide +kernel
theorem i_105_61 : q_dec 105 61 = some (12, .getfield 94, 3) := by decide +kernel
theorem i_105_64 : q_dec 105 64 = some (12, .iaload, 1) := by decide +kernel
theorem i_105_65 : q_dec 105 65 = some (12, .i2l, 1) := by decide +kernel
theorem i_105_66 : q_dec 105 66 = some (12, .ladd, 1) := by decide +kernel
theorem i_105_67 : q_dec 105 67 = some (12, .ldc2_w 118, 3) := by decide +kernel
theorem i_105_70 : q_dec 105 70 = some (12, .lsub, 1) := by decide +kernel
theorem i_105_71 : q_dec 105 71 = some (12, .goto 4, 3) := by decide +kernel
theorem i_105_74 : q_dec 105 74 = some (12, .lload_n 1, 1) := by decide +kernel
theorem i_105_75 : q_dec 105 75 = some (12, .lstore_n 1, 1) := by decide +kernel
theorem i_105_76 : q_dec 105 76 = some (12, .aload_n 0, 1) := by decide +kernel
theorem i_105_77 : q_dec 105 77 = some (12, .dup, 1) := by decide +kernel
theorem i_105_78 : q_dec 105 78 = some (12, .getfield 94, 3) := by decide +kernel
theorem i_105_81 : q_dec 105 81 = some (12, .iconst 1, 1) := by decide +kernel
theorem i_105_82 : q_dec 105 82 = some (12, .iadd, 1) := by decide +kernel
theorem i_105_83 : q_dec 105 83 = some (12, .putfield 94, 3) := by decide +kernel
theorem i_105_86 : q_dec 105 86 = some (12, .goto (-79), 3) := by decide +kernel
theorem i_105_89 : q_dec 105 89 = some (12, .lload_n 1, 1) := by decide +kernel
theorem i_105_90 : q_dec 105 90 = some (12, .lreturn, 1) := by decide +kernel
theorem i_106_0 : q_dec 106 0 = some (12, .aload_n 0, 1) := by decide +kernel
theorem i_106_1 : q_dec 106 1 = some (12, .getfield 97, 3) := by decide +kernel
theorem i_106_4 : q_dec 106 4 = some (12, .ifCond .lt (5), 3) := by decide +kernel
theorem i_106_7 : q_dec 106 7 = some (12, .iload_n 1, 1) := by decide +kernel
theorem i_106_8 : q_dec 106 8 = some (12, .ireturn, 1) := by decide +kernel
theorem i_106_9 : q_dec 106 9 = some (12, .aload_n 0, 1) := by decide +kernel
theorem i_106_10 : q_dec 106 10 = some (12, .invokevirtual 100, 3) := by decide +kernel
theorem i_106_13 : q_dec 106 13 = some (12, .ifCond .eq (13), 3) := by decide +kernel
theorem i_106_16 : q_dec 106 16 = some (12, .aload_n 0, 1) := by decide +kernel
theorem i_106_17 : q_dec 106 17 = some (12, .aload_n 0, 1) := by decide +kernel
theorem i_106_18 : q_dec 106 18 = some (12, .getfield 89, 3) := by decide +kernel
theorem i_106_21 : q_dec 106 21 = some (12, .putfield 97, 3) := by decide +kernel
theorem i_106_24 : q_dec 106 24 = some (12, .iload_n 1, 1) := by decide +kernel
theorem i_106_25 : q_dec 106 25 = some (12, .ireturn, 1) := by decide +kernel
theorem i_106_26 : q_dec 106 26 = some (12, .aload_n 0, 1) := by decide +kernel
theorem i_106_27 : q_dec 106 27 = some (12, .getfield 94, 3) := by decide +kernel
theorem i_106_30 : q_dec 106 30 = some (12, .istore_n 3, 1) := by decide +kernel
theorem i_106_31 : q_dec 106 31 = some (12, .iconst 0, 1) := by decide +kernel
theorem i_106_32 : q_dec 106 32 = some (12, .istore 4, 2) := by decide +kernel
theorem i_106_34 : q_dec 106 34 = some (12, .aload_n 0, 1) := by decide +kernel
theorem i_106_35 : q_dec 106 35 = some (12, .getfield 94, 3) := by decide +kernel
theorem i_106_38 : q_dec 106 38 = some (12, .aload_n 0, 1) := by decide +kernel
theorem i_106_39 : q_dec 106 39 = some (12, .getfield 89, 3) := by decide +kernel
theorem i_106_42 : q_dec 106 42 = some (12, .if_icmp .ge (64), 3) := by decide +kernel
theorem i_106_45 : q_dec 106 45 = some (12, .aload_n 0, 1) := by decide +kernel
theorem i_106_46 : q_dec 106 46 = some (12, .getfield 25, 3) := by decide +kernel
theorem i_106_49 : q_dec 106 49 = some (12, .aload_n 0, 1) := by decide +kernel
theorem i_106_50 : q_dec 106 50 = some (12, .getfield 94, 3) := by decide +kernel
theorem i_106_53 : q_dec 106 53 = some (12, .iaload, 1) := by decide +kernel
theorem i_106_54 : q_dec 106 54 = some (12, .i2l, 1) := by decide +kernel
theorem i_106_55 : q_dec 106 55 = some (12, .ldc2_w 104, 3) := by decide +kernel
theorem i_106_58 : q_dec 106 58 = some (12, .ldc2_w 106, 3) := by decide +kernel
theorem i_106_61 : q_dec 106 61 = some (12, .invokestatic 72, 3) := by decide +kernel
theorem i_106_64 : q_dec 106 64 = some (12, .ifCond .eq (42), 3) := by decide +kernel
theorem i_106_67 : q_dec 106 67 = some (12, .bipush 10, 2) := by decide +kernel
theorem i_106_69 : q_dec 106 69 = some (12, .iload 4, 2) := by decide +kernel
theorem i_106_71 : q_dec 106 71 = some (12, .imul, 1) := by decide +kernel
theorem i_106_72 : q_dec 106 72 = some (12, .aload_n 0, 1) := by decide +kernel
theorem i_106_73 : q_dec 106 73 = some (12, .getfield 25, 3) := by decide +kernel
theorem i_106_76 : q_dec 106 76 = some (12, .aload_n 0, 1) := by decide +kernel
theorem i_106_77 : q_dec 106 77 = some (12, .getfield 94, 3) := by decide +kernel
theorem i_106_80 : q_dec 106 80 = some (12, .iaload, 1) := by decide +kernel
theorem i_106_81 : q_dec 106 81 = some (12, .iadd, 1) := by decide +kernel
theorem i_106_82 : q_dec 106 82 = some (12, .bipush 48, 2) := by decide +kernel
theorem i_106_84 : q_dec 106 84 = some (12, .isub, 1) := by decide +kernel
theorem i_106_85 : q_dec 106 85 = some (12, .sipush 1000, 3) := by decide +kernel
theorem i_106_88 : q_dec 106 88 = some (12, .invokestatic 108, 3) := by decide +kernel
theorem i_106_91 : q_dec 106 91 = some (12, .istore 4, 2) := by decide +kernel
theorem i_106_93 : q_dec 106 93 = some (12, .aload_n 0, 1) := by decide +kernel
theorem i_106_94 : q_dec 106 94 = some (12, .dup, 1) := by decide +kernel
theorem i_106_95 : q_dec 106 95 = some (12, .getfield 94, 3) := by decide +kernel
theorem i_106_98 : q_dec 106 98 = some (12, .iconst 1, 1) := by decide +kernel
theorem i_106_99 : q_dec 106 99 = some (12, .iadd, 1) := by decide +kernel
theorem i_106_100 : q_dec 106 100 = some (12, .putfield 94, 3) := by decide +kernel
theorem i_106_103 : q_dec 106 103 = some (12, .goto (-69), 3) := by decide +kernel
theorem i_106_106 : q_dec 106 106 = some (12, .aload_n 0, 1) := by decide +kernel
theorem i_106_107 : q_dec 106 107 = some (12, .getfield 94, 3) := by decide +kernel
theorem i_106_110 : q_dec 106 110 = some (12, .iload_n 3, 1) := by decide +kernel
theorem i_106_111 : q_dec 106 111 = some (12, .if_icmp .le (48), 3) := by decide +kernel
theorem i_106_114 : q_dec 106 114 = some (12, .iload 4, 2) := by decide +kernel
theorem i_106_116 : q_dec 106 116 = some (12, .bipush 100, 2) := by decide +kernel
theorem i_106_118 : q_dec 106 118 = some (12, .if_icmp .ge (41), 3) := by decide +kernel
theorem i_106_121 : q_dec 106 121 = some (12, .aload_n 0, 1) := by decide +kernel
theorem i_106_122 : q_dec 106 122 = some (12, .getfield 94, 3) := by decide +kernel
theorem i_106_125 : q_dec 106 125 = some (12, .iload_n 3, 1) := by decide +kernel
theorem i_106_126 : q_dec 106 126 = some (12, .isub, 1) := by decide +kernel
theorem i_106_127 : q_dec 106 127 = some (12, .iconst 1, 1) := by decide +kernel
theorem i_106_128 : q_dec 106 128 = some (12, .if_icmp .eq (14), 3) := by decide +kernel
theorem i_106_131 : q_dec 106 131 = some (12, .aload_n 0, 1) := by decide +kernel
theorem i_106_132 : q_dec 106 132 = some (12, .getfield 25, 3) := by decide +kernel
theorem i_106_135 : q_dec 106 135 = some (12, .iload_n 3, 1) := by decide +kernel
theorem i_106_136 : q_dec 106 136 = some (12, .iaload, 1) := by decide +kernel
theorem i_106_137 : q_dec 106 137 = some (12, .bipush 48, 2) := by decide +kernel
theorem i_106_139 : q_dec 106 139 = some (12, .if_icmp .eq (20), 3) := by decide +kernel
theorem i_106_142 : q_dec 106 142 = some (12, .iload 4, 2) := by decide +kernel
theorem i_106_144 : q_dec 106 144 = some (12, .i2l, 1) := by decide +kernel
theorem i_106_145 : q_dec 106 145 = some (12, .iload_n 1, 1) := by decide +kernel
theorem i_106_146 : q_dec 106 146 = some (12, .i2l, 1) := by decide +kernel
theorem i_106_147 : q_dec 106 147 = some (12, .iload_n 2, 1) := by decide +kernel
theorem i_106_148 : q_dec 106 148 = some (12, .i2l, 1) := by decide +kernel
theorem i_106_149 : q_dec 106 149 = some (12, .invokestatic 72, 3) := by decide +kernel
theorem i_106_152 : q_dec 106 152 = some (12, .ifCond .eq (7), 3) := by decide +kernel
theorem i_106_155 : q_dec 106 155 = some (12, .iconst 1, 1) := by decide +kernel
theorem i_106_156 : q_dec 106 156 = some (12, .goto 4, 3) := by decide +kernel
theorem i_106_159 : q_dec 106 159 = some (12, .iconst 0, 1) := by decide +kernel
theorem i_106_160 : q_dec 106 160 = some (12, .istore 5, 2) := by decide +kernel
theorem i_106_162 : q_dec 106 162 = some (12, .aload_n 0, 1) := by decide +kernel
theorem i_106_163 : q_dec 106 163 = some (12, .iload 5, 2) := by decide +kernel
theorem i_106_165 : q_dec 106 165 = some (12, .ifCond .eq (10), 3) := by decide +kernel
theorem i_106_168 : q_dec 106 168 = some (12, .aload_n 0, 1) := by decide +kernel
theorem i_106_169 : q_dec 106 169 = some (12, .getfield 97, 3) := by decide +kernel
theorem i_106_172 : q_dec 106 172 = some (12, .goto 4, 3) := by decide +kernel
theorem i_106_175 : q_dec 106 175 = some (12, .iload_n 3, 1) := by decide +kernel
theorem i_106_176 : q_dec 106 176 = some (12, .putfield 97, 3) := by decide +kernel
theorem i_106_179 : q_dec 106 179 = some (12, .iload 5, 2) := by decide +kernel
theorem i_106_181 : q_dec 106 181 = some (12, .ifCond .eq (8), 3) := by decide +kernel
theorem i_106_184 : q_dec 106 184 = some (12, .iload 4, 2) := by decide +kernel
theorem i_106_186 : q_dec 106 186 = some (12, .goto 4, 3) := by decide +kernel
theorem i_106_189 : q_dec 106 189 = some (12, .iload_n 1, 1) := by decide +kernel
theorem i_106_190 : q_dec 106 190 = some (12, .ireturn, 1) := by decide +kernel
theorem i_107_0 : q_dec 107 0 = some (12, .iload_n 0, 1) := by decide +kernel
theorem i_107_1 : q_dec 107 1 = some (12, .iload_n 1, 1) := by decide +kernel
theorem i_107_2 : q_dec 107 2 = some (12, .if_icmp .ge (7), 3) := by decide +kernel
theorem i_107_5 : q_dec 107 5 = some (12, .iload_n 0, 1) := by decide +kernel
theorem i_107_6 : q_dec 107 6 = some (12, .goto 4, 3) := by decide +kernel
theorem i_107_9 : q_dec 107 9 = some (12, .iload_n 1, 1) := by decide +kernel
theorem i_107_10 : q_dec 107 10 = some (12, .ireturn, 1) := by decide +kernel
theorem i_108_0 : q_dec 108 0 = some (12, .aload_n 0, 1) := by decide +kernel
theorem i_108_1 : q_dec 108 1 = some (12, .iconst 0, 1) := by decide +kernel
theorem i_108_2 : q_dec 108 2 = some (12, .aload_n 0, 1) := by decide +kernel
theorem i_108_3 : q_dec 108 3 = some (12, .getfield 120, 3) := by decide +kernel
theorem i_108_6 : q_dec 108 6 = some (12, .iconst 1, 1) := by decide +kernel
theorem i_108_7 : q_dec 108 7 = some (12, .isub, 1) := by decide +kernel
theorem i_108_8 : q_dec 108 8 = some (12, .invokevirtual 123, 3) := by decide +kernel
theorem i_108_11 : q_dec 108 11 = some (12, .istore_n 2, 1) := by decide +kernel
theorem i_108_12 : q_dec 108 12 = some (12, .aload_n 0, 1) := by decide +kernel
theorem i_108_13 : q_dec 108 13 = some (12, .getfield 97, 3) := by decide +kernel
theorem i_108_16 : q_dec 108 16 = some (12, .ifCond .ge (18), 3) := by decide +kernel
theorem i_108_19 : q_dec 108 19 = some (12, .aload_n 0, 1) := by decide +kernel
theorem i_108_20 : q_dec 108 20 = some (12, .invokevirtual 100, 3) := by decide +kernel
theorem i_108_23 : q_dec 108 23 = some (12, .ifCond .eq (11), 3) := by decide +kernel
theorem i_108_26 : q_dec 108 26 = some (12, .aload_n 0, 1) := by decide +kernel
theorem i_108_27 : q_dec 108 27 = some (12, .aload_n 0, 1) := by decide +kernel
theorem i_108_28 : q_dec 108 28 = some (12, .getfield 89, 3) := by decide +kernel
theorem i_108_31 : q_dec 108 31 = some (12, .putfield 97, 3) := by decide +kernel
theorem i_108_34 : q_dec 108 34 = some (12, .aload_n 0, 1) := by decide +kernel
theorem i_108_35 : q_dec 108 35 = some (12, .getfield 94, 3) := by decide +kernel
theorem i_108_38 : q_dec 108 38 = some (12, .istore_n 3, 1) := by decide +kernel
theorem i_108_39 : q_dec 108 39 = some (12, .aload_n 0, 1) := by decide +kernel
theorem i_108_40 : q_dec 108 40 = some (12, .getfield 120, 3) := by decide +kernel
theorem i_108_43 : q_dec 108 43 = some (12, .aload_n 0, 1) := by decide +kernel
theorem i_108_44 : q_dec 108 44 = some (12, .iconst 0, 1) := by decide +kernel
theorem i_108_45 : q_dec 108 45 = some (12, .aload_n 0, 1) := by decide +kernel
theorem i_108_46 : q_dec 108 46 = some (12, .getfield 126, 3) := by decide +kernel
theorem i_108_49 : q_dec 108 49 = some (12, .iconst 1, 1) := by decide +kernel
theorem i_108_50 : q_dec 108 50 = some (12, .isub, 1) := by decide +kernel
theorem i_108_51 : q_dec 108 51 = some (12, .invokevirtual 123, 3) := by decide +kernel
theorem i_108_54 : q_dec 108 54 = some (12, .imul, 1) := by decide +kernel
theorem i_108_55 : q_dec 108 55 = some (12, .iload_n 2, 1) := by decide +kernel
theorem i_108_56 : q_dec 108 56 = some (12, .iadd, 1) := by decide +kernel
theorem i_108_57 : q_dec 108 57 = some (12, .istore 4, 2) := by decide +kernel
theorem i_108_59 : q_dec 108 59 = some (12, .aload_n 0, 1) := by decide +kernel
theorem i_108_60 : q_dec 108 60 = some (12, .getfield 97, 3) := by decide +kernel
theorem i_108_63 : q_dec 108 63 = some (12, .ifCond .ge (25), 3) := by decide +kernel
theorem i_108_66 : q_dec 108 66 = some (12, .aload_n 0, 1) := by decide +kernel
theorem i_108_67 : q_dec 108 67 = some (12, .getfield 129, 3) := by decide +kernel
theorem i_108_70 : q_dec 108 70 = some (12, .aload_n 0, 1) := by decide +kernel
theorem i_108_71 : q_dec 108 71 = some (12, .getfield 132, 3) := by decide +kernel
theorem i_108_74 : q_dec 108 74 = some (12, .ior, 1) := by decide +kernel
theorem i_108_75 : q_dec 108 75 = some (12, .iload 4, 2) := by decide +kernel
theorem i_108_77 : q_dec 108 77 = some (12, .invokestatic 83, 3) := by decide +kernel
theorem i_108_80 : q_dec 108 80 = some (12, .ifCond .eq (8), 3) := by decide +kernel
theorem i_108_83 : q_dec 108 83 = some (12, .aload_n 0, 1) := by decide +kernel
theorem i_108_84 : q_dec 108 84 = some (12, .iload_n 3, 1) := by decide +kernel
theorem i_108_85 : q_dec 108 85 = some (12, .putfield 97, 3) := by decide +kernel
theorem i_108_88 : q_dec 108 88 = some (12, .aload_n 0, 1) := by decide +kernel
theorem i_108_89 : q_dec 108 89 = some (12, .getfield 97, 3) := by decide +kernel
theorem i_108_92 : q_dec 108 92 = some (12, .ifCond .ge (45), 3) := by decide +kernel
theorem i_108_95 : q_dec 108 95 = some (12, .aload_n 0, 1) := by decide +kernel
theorem i_108_96 : q_dec 108 96 = some (12, .dup, 1) := by decide +kernel
theorem i_108_97 : q_dec 108 97 = some (12, .getfield 129, 3) := by decide +kernel
theorem i_108_100 : q_dec 108 100 = some (12, .iload_n 1, 1) := by decide +kernel
theorem i_108_101 : q_dec 108 101 = some (12, .ifCond .eq (10), 3) := by decide +kernel
theorem i_108_104 : q_dec 108 104 = some (12, .iconst 1, 1) := by decide +kernel
theorem i_108_105 : q_dec 108 105 = some (12, .iload 4, 2) := by decide +kernel
theorem i_108_107 : q_dec 108 107 = some (12, .ishl, 1) := by decide +kernel
theorem i_108_108 : q_dec 108 108 = some (12, .goto 4, 3) := by decide +kernel
theorem i_108_111 : q_dec 108 111 = some (12, .iconst 0, 1) := by decide +kernel
theorem i_108_112 : q_dec 108 112 = some (12, .ior, 1) := by decide +kernel
theorem i_108_113 : q_dec 108 113 = some (12, .putfield 129, 3) := by decide +kernel
theorem i_108_116 : q_dec 108 116 = some (12, .aload_n 0, 1) := by decide +kernel
theorem i_108_117 : q_dec 108 117 = some (12, .dup, 1) := by decide +kernel
theorem i_108_118 : q_dec 108 118 = some (12, .getfield 132, 3) := by decide +kernel
theorem i_108_121 : q_dec 108 121 = some (12, .iload_n 1, 1) := by decide +kernel
theorem i_108_122 : q_dec 108 122 = some (12, .ifCond .eq (7), 3) := by decide +kernel
theorem i_108_125 : q_dec 108 125 = some (12, .iconst 0, 1) := by decide +kernel
theorem i_108_126 : q_dec 108 126 = some (12, .goto 7, 3) := by decide +kernel
theorem i_108_129 : q_dec 108 129 = some (12, .iconst 1, 1) := by decide +kernel
theorem i_108_130 : q_dec 108 130 = some (12, .iload 4, 2) := by decide +kernel
theorem i_108_132 : q_dec 108 132 = some (12, .ishl, 1) := by decide +kernel
theorem i_108_133 : q_dec 108 133 = some (12, .ior, 1) := by decide +kernel
theorem i_108_134 : q_dec 108 134 = some (12, .putfield 132, 3) := by decide +kernel
theorem i_108_137 : q_dec 108 137 = some (12, .return_, 1) := by decide +kernel
theorem i_109_0 : q_dec 109 0 = some (12, .iload_n 0, 1) := by decide +kernel
theorem i_109_1 : q_dec 109 1 = some (12, .iload_n 1, 1) := by decide +kernel
theorem i_109_2 : q_dec 109 2 = some (12, .ishr, 1) := by decide +kernel
theorem i_109_3 : q_dec 109 3 = some (12, .iconst 1, 1) := by decide +kernel
theorem i_109_4 : q_dec 109 4 = some (12, .iand, 1) := by decide +kernel
theorem i_109_5 : q_dec 109 5 = some (12, .iconst 1, 1) := by decide +kernel
theorem i_109_6 : q_dec 109 6 = some (12, .if_icmp .ne (7), 3) := by decide +kernel
theorem i_109_9 : q_dec 109 9 = some (12, .iconst 1, 1) := by decide +kernel
theorem i_109_10 : q_dec 109 10 = some (12, .goto 4, 3) := by decide +kernel
theorem i_109_13 : q_dec 109 13 = some (12, .iconst 0, 1) := by decide +kernel
theorem i_109_14 : q_dec 109 14 = some (12, .ireturn, 1) := by decide +kernel
theorem i_110_0 : q_dec 110 0 = some (12, .aload_n 0, 1) := by decide +kernel
theorem i_110_1 : q_dec 110 1 = some (12, .getfield 135, 3) := by decide +kernel
theorem i_110_4 : q_dec 110 4 = some (12, .iload_n 1, 1) := by decide +kernel
theorem i_110_5 : q_dec 110 5 = some (12, .invokestatic 83, 3) := by decide +kernel
theorem i_110_8 : q_dec 110 8 = some (12, .istore_n 3, 1) := by decide +kernel
theorem i_110_9 : q_dec 110 9 = some (12, .aload_n 0, 1) := by decide +kernel
theorem i_110_10 : q_dec 110 10 = some (12, .dup, 1) := by decide +kernel
theorem i_110_11 : q_dec 110 11 = some (12, .getfield 135, 3) := by decide +kernel
theorem i_110_14 : q_dec 110 14 = some (12, .iconst 1, 1) := by decide +kernel
theorem i_110_15 : q_dec 110 15 = some (12, .iload_n 1, 1) := by decide +kernel
theorem i_110_16 : q_dec 110 16 = some (12, .ishl, 1) := by decide +kernel
theorem i_110_17 : q_dec 110 17 = some (12, .ior, 1) := by decide +kernel
theorem i_110_18 : q_dec 110 18 = some (12, .putfield 135, 3) := by decide +kernel
theorem i_110_21 : q_dec 110 21 = some (12, .aload_n 0, 1) := by decide +kernel
theorem i_110_22 : q_dec 110 22 = some (12, .iload_n 3, 1) := by decide +kernel
theorem i_110_23 : q_dec 110 23 = some (12, .ifCond .eq (7), 3) := by decide +kernel
theorem i_110_26 : q_dec 110 26 = some (12, .iload_n 2, 1) := by decide +kernel
theorem i_110_27 : q_dec 110 27 = some (12, .goto 7, 3) := by decide +kernel
theorem i_110_30 : q_dec 110 30 = some (12, .aload_n 0, 1) := by decide +kernel
theorem i_110_31 : q_dec 110 31 = some (12, .getfield 97, 3) := by decide +kernel
theorem i_110_34 : q_dec 110 34 = some (12, .putfield 97, 3) := by decide +kernel
theorem i_110_37 : q_dec 110 37 = some (12, .iload_n 3, 1) := by decide +kernel
theorem i_110_38 : q_dec 110 38 = some (12, .ireturn, 1) := by decide +kernel
theorem i_111_0 : q_dec 111 0 = some (12, .aload_n 0, 1) := by decide +kernel
theorem i_111_1 : q_dec 111 1 = some (12, .iload_n 1, 1) := by decide +kernel
theorem i_111_2 : q_dec 111 2 = some (12, .invokevirtual 76, 3) := by decide +kernel
theorem i_111_5 : q_dec 111 5 = some (12, .ifCond .ne (7), 3) := by decide +kernel
theorem i_111_8 : q_dec 111 8 = some (12, .iconst (-1), 1) := by decide +kernel
theorem i_111_9 : q_dec 111 9 = some (12, .goto 34, 3) := by decide +kernel
theorem i_111_12 : q_dec 111 12 = some (12, .aload_n 0, 1) := by decide +kernel
theorem i_111_13 : q_dec 111 13 = some (12, .getfield 80, 3) := by decide +kernel
theorem i_111_16 : q_dec 111 16 = some (12, .iload_n 1, 1) := by decide +kernel
theorem i_111_17 : q_dec 111 17 = some (12, .invokestatic 83, 3) := by decide +kernel
theorem i_111_20 : q_dec 111 20 = some (12, .ifCond .eq (7), 3) := by decide +kernel
theorem i_111_23 : q_dec 111 23 = some (12, .iconst 1, 1) := by decide +kernel
theorem i_111_24 : q_dec 111 24 = some (12, .goto 19, 3) := by decide +kernel
theorem i_111_27 : q_dec 111 27 = some (12, .aload_n 0, 1) := by decide +kernel
theorem i_111_28 : q_dec 111 28 = some (12, .getfield 167, 3) := by decide +kernel
theorem i_111_31 : q_dec 111 31 = some (12, .iload_n 1, 1) := by decide +kernel
theorem i_111_32 : q_dec 111 32 = some (12, .invokestatic 83, 3) := by decide +kernel
theorem i_111_35 : q_dec 111 35 = some (12, .ifCond .eq (7), 3) := by decide +kernel
theorem i_111_38 : q_dec 111 38 = some (12, .iconst 2, 1) := by decide +kernel
theorem i_111_39 : q_dec 111 39 = some (12, .goto 4, 3) := by decide +kernel
theorem i_111_42 : q_dec 111 42 = some (12, .iconst 0, 1) := by decide +kernel
theorem i_111_43 : q_dec 111 43 = some (12, .ireturn, 1) := by decide +kernel
theorem i_112_0 : q_dec 112 0 = some (12, .iload_n 1, 1) := by decide +kernel
theorem i_112_1 : q_dec 112 1 = some (12, .i2l, 1) := by decide +kernel
theorem i_112_2 : q_dec 112 2 = some (12, .lconst 0, 1) := by decide +kernel
theorem i_112_3 : q_dec 112 3 = some (12, .aload_n 0, 1) := by decide +kernel
theorem i_112_4 : q_dec 112 4 = some (12, .getfield 7, 3) := by decide +kernel
theorem i_112_7 : q_dec 112 7 = some (12, .aload_n 0, 1) := by decide +kernel
theorem i_112_8 : q_dec 112 8 = some (12, .getfield 13, 3) := by decide +kernel
theorem i_112_11 : q_dec 112 11 = some (12, .imul, 1) := by decide +kernel
theorem i_112_12 : q_dec 112 12 = some (12, .iconst 1, 1) := by decide +kernel
theorem i_112_13 : q_dec 112 13 = some (12, .isub, 1) := by decide +kernel
theorem i_112_14 : q_dec 112 14 = some (12, .i2l, 1) := by decide +kernel
theorem i_112_15 : q_dec 112 15 = some (12, .invokestatic 72, 3) := by decide +kernel
theorem i_112_18 : q_dec 112 18 = some (12, .ireturn, 1) := by decide +kernel
theorem i_113_0 : q_dec 113 0 = some (12, .iload_n 1, 1) := by decide +kernel
theorem i_113_1 : q_dec 113 1 = some (12, .tableswitch (71) (0) (5) #[39, 44, 49, 54, 59, 64], 39) := by decide +kernel
theorem i_113_40 : q_dec 113 40 = some (12, .aload_n 0, 1) := by decide +kernel
theorem i_113_41 : q_dec 113 41 = some (12, .getfield 16, 3) := by decide +kernel
theorem i_113_44 : q_dec 113 44 = some (12, .ireturn, 1) := by decide +kernel
theorem i_113_45 : q_dec 113 45 = some (12, .aload_n 0, 1) := by decide +kernel
theorem i_113_46 : q_dec 113 46 = some (12, .getfield 19, 3) := by decide +kernel
theorem i_113_49 : q_dec 113 49 = some (12, .ireturn, 1) := by decide +kernel
theorem i_113_50 : q_dec 113 50 = some (12, .aload_n 0, 1) := by decide +kernel
theorem i_113_51 : q_dec 113 51 = some (12, .getfield 22, 3) := by decide +kernel
theorem i_113_54 : q_dec 113 54 = some (12, .ireturn, 1) := by decide +kernel
theorem i_113_55 : q_dec 113 55 = some (12, .aload_n 0, 1) := by decide +kernel
theorem i_113_56 : q_dec 113 56 = some (12, .getfield 170, 3) := by decide +kernel
theorem i_113_59 : q_dec 113 59 = some (12, .ireturn, 1) := by decide +kernel
theorem i_113_60 : q_dec 113 60 = some (12, .aload_n 0, 1) := by decide +kernel
theorem i_113_61 : q_dec 113 61 = some (12, .getfield 173, 3) := by decide +kernel
theorem i_113_64 : q_dec 113 64 = some (12, .ireturn, 1) := by decide +kernel
theorem i_113_65 : q_dec 113 65 = some (12, .aload_n 0, 1) := by decide +kernel
theorem i_113_66 : q_dec 113 66 = some (12, .getfield 29, 3) := by decide +kernel
theorem i_113_69 : q_dec 113 69 = some (12, .iconst 2, 1) := by decide +kernel
theorem i_113_70 : q_dec 113 70 = some (12, .iaload, 1) := by decide +kernel
theorem i_113_71 : q_dec 113 71 = some (12, .ireturn, 1) := by decide +kernel
theorem i_113_72 : q_dec 113 72 = some (12, .iconst (-1), 1) := by decide +kernel
theorem i_113_73 : q_dec 113 73 = some (12, .ireturn, 1) := by decide +kernel
theorem i_114_0 : q_dec 114 0 = some (12, .aload_n 0, 1) := by decide +kernel
theorem i_114_1 : q_dec 114 1 = some (12, .iload_n 1, 1) := by decide +kernel
theorem i_114_2 : q_dec 114 2 = some (12, .invokevirtual 182, 3) := by decide +kernel
theorem i_114_5 : q_dec 114 5 = some (12, .ifCond .ne (5), 3) := by decide +kernel
theorem i_114_8 : q_dec 114 8 = some (12, .iconst (-1), 1) := by decide +kernel
theorem i_114_9 : q_dec 114 9 = some (12, .ireturn, 1) := by decide +kernel
theorem i_114_10 : q_dec 114 10 = some (12, .aload_n 0, 1) := by decide +kernel
theorem i_114_11 : q_dec 114 11 = some (12, .getfield 29, 3) := by decide +kernel
theorem i_114_14 : q_dec 114 14 = some (12, .iconst 0, 1) := by decide +kernel
theorem i_114_15 : q_dec 114 15 = some (12, .iload_n 1, 1) := by decide +kernel
theorem i_114_16 : q_dec 114 16 = some (12, .iastore, 1) := by decide +kernel
theorem i_114_17 : q_dec 114 17 = some (12, .aload_n 0, 1) := by decide +kernel
theorem i_114_18 : q_dec 114 18 = some (12, .getfield 29, 3) := by decide +kernel
theorem i_114_21 : q_dec 114 21 = some (12, .iconst 1, 1) := by decide +kernel
theorem i_114_22 : q_dec 114 22 = some (12, .iconst 0, 1) := by decide +kernel
theorem i_114_23 : q_dec 114 23 = some (12, .iastore, 1) := by decide +kernel
theorem i_114_24 : q_dec 114 24 = some (12, .aload_n 0, 1) := by decide +kernel
theorem i_114_25 : q_dec 114 25 = some (12, .getfield 29, 3) := by decide +kernel
theorem i_114_28 : q_dec 114 28 = some (12, .iconst 3, 1) := by decide +kernel
theorem i_114_29 : q_dec 114 29 = some (12, .iconst 0, 1) := by decide +kernel
theorem i_114_30 : q_dec 114 30 = some (12, .iastore, 1) := by decide +kernel
theorem i_114_31 : q_dec 114 31 = some (12, .iconst 1, 1) := by decide +kernel
theorem i_114_32 : q_dec 114 32 = some (12, .ireturn, 1) := by decide +kernel
theorem i_115_0 : q_dec 115 0 = some (12, .aload_n 0, 1) := by decide +kernel
theorem i_115_1 : q_dec 115 1 = some (12, .iload_n 1, 1) := by decide +kernel
theorem i_115_2 : q_dec 115 2 = some (12, .invokevirtual 76, 3) := by decide +kernel
theorem i_115_5 : q_dec 115 5 = some (12, .ifCond .eq (18), 3) := by decide +kernel
theorem i_115_8 : q_dec 115 8 = some (12, .aload_n 0, 1) := by decide +kernel
theorem i_115_9 : q_dec 115 9 = some (12, .getfield 80, 3) := by decide +kernel
theorem i_115_12 : q_dec 115 12 = some (12, .iload_n 1, 1) := by decide +kernel
theorem i_115_13 : q_dec 115 13 = some (12, .invokestatic 83, 3) := by decide +kernel
theorem i_115_16 : q_dec 115 16 = some (12, .ifCond .ne (7), 3) := by decide +kernel
theorem i_115_19 : q_dec 115 19 = some (12, .iconst 1, 1) := by decide +kernel
theorem i_115_20 : q_dec 115 20 = some (12, .goto 4, 3) := by decide +kernel
theorem i_115_23 : q_dec 115 23 = some (12, .iconst 0, 1) := by decide +kernel
theorem i_115_24 : q_dec 115 24 = some (12, .ireturn, 1) := by decide +kernel
theorem i_116_0 : q_dec 116 0 = some (12, .iload_n 1, 1) := by decide +kernel
theorem i_116_1 : q_dec 116 1 = some (12, .i2l, 1) := by decide +kernel
theorem i_116_2 : q_dec 116 2 = some (12, .lconst 0, 1) := by decide +kernel
theorem i_116_3 : q_dec 116 3 = some (12, .ldc2_w 185, 3) := by decide +kernel
theorem i_116_6 : q_dec 116 6 = some (12, .invokestatic 72, 3) := by decide +kernel
theorem i_116_9 : q_dec 116 9 = some (12, .ifCond .ne (5), 3) := by decide +kernel
theorem i_116_12 : q_dec 116 12 = some (12, .iconst (-1), 1) := by decide +kernel
theorem i_116_13 : q_dec 116 13 = some (12, .ireturn, 1) := by decide +kernel
theorem i_116_14 : q_dec 116 14 = some (12, .aload_n 0, 1) := by decide +kernel
theorem i_116_15 : q_dec 116 15 = some (12, .getfield 29, 3) := by decide +kernel
theorem i_116_18 : q_dec 116 18 = some (12, .iconst 0, 1) := by decide +kernel
theorem i_116_19 : q_dec 116 19 = some (12, .iaload, 1) := by decide +kernel
theorem i_116_20 : q_dec 116 20 = some (12, .bipush (-9), 2) := by decide +kernel
theorem i_116_22 : q_dec 116 22 = some (12, .if_icmp .ne (7), 3) := by decide +kernel
theorem i_116_25 : q_dec 116 25 = some (12, .iconst (-1), 1) := by decide +kernel
theorem i_116_26 : q_dec 116 26 = some (12, .goto 14, 3) := by decide +kernel
theorem i_116_29 : q_dec 116 29 = some (12, .aload_n 0, 1) := by decide +kernel
theorem i_116_30 : q_dec 116 30 = some (12, .aload_n 0, 1) := by decide +kernel
theorem i_116_31 : q_dec 116 31 = some (12, .getfield 29, 3) := by decide +kernel
theorem i_116_34 : q_dec 116 34 = some (12, .iconst 0, 1) := by decide +kernel
theorem i_116_35 : q_dec 116 35 = some (12, .iaload, 1) := by decide +kernel
theorem i_116_36 : q_dec 116 36 = some (12, .iload_n 1, 1) := by decide +kernel
theorem i_116_37 : q_dec 116 37 = some (12, .invokevirtual 187, 3) := by decide +kernel
theorem i_116_40 : q_dec 116 40 = some (12, .istore_n 2, 1) := by decide +kernel
theorem i_116_41 : q_dec 116 41 = some (12, .iload_n 2, 1) := by decide +kernel
theorem i_116_42 : q_dec 116 42 = some (12, .ifCond .ge (6), 3) := by decide +kernel
theorem i_116_45 : q_dec 116 45 = some (12, .bipush (-2), 2) := by decide +kernel
theorem i_116_47 : q_dec 116 47 = some (12, .ireturn, 1) := by decide +kernel
theorem i_116_48 : q_dec 116 48 = some (12, .aload_n 0, 1) := by decide +kernel
theorem i_116_49 : q_dec 116 49 = some (12, .getfield 29, 3) := by decide +kernel
theorem i_116_52 : q_dec 116 52 = some (12, .iconst 3, 1) := by decide +kernel
theorem i_116_53 : q_dec 116 53 = some (12, .iaload, 1) := by decide +kernel
theorem i_116_54 : q_dec 116 54 = some (12, .istore_n 3, 1) := by decide +kernel
theorem i_116_55 : q_dec 116 55 = some (12, .iload_n 3, 1) := by decide +kernel
theorem i_116_56 : q_dec 116 56 = some (12, .bipush 60, 2) := by decide +kernel
theorem i_116_58 : q_dec 116 58 = some (12, .if_icmp .ne (6), 3) := by decide +kernel
theorem i_116_61 : q_dec 116 61 = some (12, .bipush (-3), 2) := by decide +kernel
theorem i_116_63 : q_dec 116 63 = some (12, .ireturn, 1) := by decide +kernel
theorem i_116_64 : q_dec 116 64 = some (12, .iload_n 3, 1) := by decide +kernel
theorem i_116_65 : q_dec 116 65 = some (12, .ifCond .le (37), 3) := by decide +kernel
theorem i_116_68 : q_dec 116 68 = some (12, .aload_n 0, 1) := by decide +kernel
theorem i_116_69 : q_dec 116 69 = some (12, .getfield 29, 3) := by decide +kernel
theorem i_116_72 : q_dec 116 72 = some (12, .iconst 4, 1) := by decide +kernel
theorem i_116_73 : q_dec 116 73 = some (12, .iload_n 3, 1) := by decide +kernel
theorem i_116_74 : q_dec 116 74 = some (12, .iadd, 1) := by decide +kernel
theorem i_116_75 : q_dec 116 75 = some (12, .iconst 1, 1) := by decide +kernel
theorem i_116_76 : q_dec 116 76 = some (12, .isub, 1) := by decide +kernel
theorem i_116_77 : q_dec 116 77 = some (12, .iaload, 1) := by decide +kernel
theorem i_116_78 : q_dec 116 78 = some (12, .iload_n 1, 1) := by decide +kernel
theorem i_116_79 : q_dec 116 79 = some (12, .if_icmp .ne (23), 3) := by decide +kernel
theorem i_116_82 : q_dec 116 82 = some (12, .aload_n 0, 1) := by decide +kernel
theorem i_116_83 : q_dec 116 83 = some (12, .getfield 167, 3) := by decide +kernel
theorem i_116_86 : q_dec 116 86 = some (12, .aload_n 0, 1) := by decide +kernel
theorem i_116_87 : q_dec 116 87 = some (12, .getfield 29, 3) := by decide +kernel
theorem i_116_90 : q_dec 116 90 = some (12, .iconst 0, 1) := by decide +kernel
theorem i_116_91 : q_dec 116 91 = some (12, .iaload, 1) := by decide +kernel
theorem i_116_92 : q_dec 116 92 = some (12, .invokestatic 83, 3) := by decide +kernel
theorem i_116_95 : q_dec 116 95 = some (12, .ifCond .ne (7), 3) := by decide +kernel
theorem i_116_98 : q_dec 116 98 = some (12, .iconst 1, 1) := by decide +kernel
theorem i_116_99 : q_dec 116 99 = some (12, .goto 4, 3) := by decide +kernel
theorem i_116_102 : q_dec 116 102 = some (12, .iconst 0, 1) := by decide +kernel
theorem i_116_103 : q_dec 116 103 = some (12, .istore 4, 2) := by decide +kernel
theorem i_116_105 : q_dec 116 105 = some (12, .aload_n 0, 1) := by decide +kernel
theorem i_116_106 : q_dec 116 106 = some (12, .iload 4, 2) := by decide +kernel
theorem i_116_108 : q_dec 116 108 = some (12, .ifCond .eq (12), 3) := by decide +kernel
theorem i_116_111 : q_dec 116 111 = some (12, .aload_n 0, 1) := by decide +kernel
theorem i_116_112 : q_dec 116 112 = some (12, .invokevirtual 190, 3) := by decide +kernel
theorem i_116_115 : q_dec 116 115 = some (12, .iconst 1, 1) := by decide +kernel
theorem i_116_116 : q_dec 116 116 = some (12, .iadd, 1) := by decide +kernel
theorem i_116_117 : q_dec 116 117 = some (12, .goto 4, 3) := by decide +kernel
theorem i_116_120 : q_dec 116 120 = some (12, .iconst 1, 1) := by decide +kernel
theorem i_116_121 : q_dec 116 121 = some (12, .invokevirtual 194, 3) := by decide +kernel
theorem i_116_124 : q_dec 116 124 = some (12, .istore 5, 2) := by decide +kernel
theorem i_116_126 : q_dec 116 126 = some (12, .aload_n 0, 1) := by decide +kernel
theorem i_116_127 : q_dec 116 127 = some (12, .getfield 29, 3) := by decide +kernel
theorem i_116_130 : q_dec 116 130 = some (12, .iconst 4, 1) := by decide +kernel
theorem i_116_131 : q_dec 116 131 = some (12, .iload_n 3, 1) := by decide +kernel
theorem i_116_132 : q_dec 116 132 = some (12, .iadd, 1) := by decide +kernel
theorem i_116_133 : q_dec 116 133 = some (12, .iload_n 1, 1) := by decide +kernel
theorem i_116_134 : q_dec 116 134 = some (12, .iastore, 1) := by decide +kernel
theorem i_116_135 : q_dec 116 135 = some (12, .aload_n 0, 1) := by decide +kernel
theorem i_116_136 : q_dec 116 136 = some (12, .getfield 29, 3) := by decide +kernel
theorem i_116_139 : q_dec 116 139 = some (12, .bipush 66, 2) := by decide +kernel
theorem i_116_141 : q_dec 116 141 = some (12, .iload_n 3, 1) := by decide +kernel
theorem i_116_142 : q_dec 116 142 = some (12, .iadd, 1) := by decide +kernel
theorem i_116_143 : q_dec 116 143 = some (12, .iload 5, 2) := by decide +kernel
theorem i_116_145 : q_dec 116 145 = some (12, .iastore, 1) := by decide +kernel
theorem i_116_146 : q_dec 116 146 = some (12, .aload_n 0, 1) := by decide +kernel
theorem i_116_147 : q_dec 116 147 = some (12, .getfield 29, 3) := by decide +kernel
theorem i_116_150 : q_dec 116 150 = some (12, .iconst 3, 1) := by decide +kernel
theorem i_116_151 : q_dec 116 151 = some (12, .dup2, 1) := by decide +kernel
theorem i_116_152 : q_dec 116 152 = some (12, .iaload, 1) := by decide +kernel
theorem i_116_153 : q_dec 116 153 = some (12, .iconst 1, 1) := by decide +kernel
theorem i_116_154 : q_dec 116 154 = some (12, .iadd, 1) := by decide +kernel
theorem i_116_155 : q_dec 116 155 = some (12, .iastore, 1) := by decide +kernel
theorem i_116_156 : q_dec 116 156 = some (12, .aload_n 0, 1) := by decide +kernel
theorem i_116_157 : q_dec 116 157 = some (12, .getfield 29, 3) := by decide +kernel
theorem i_116_160 : q_dec 116 160 = some (12, .iconst 0, 1) := by decide +kernel
theorem i_116_161 : q_dec 116 161 = some (12, .iload_n 2, 1) := by decide +kernel
theorem i_116_162 : q_dec 116 162 = some (12, .iastore, 1) := by decide +kernel
theorem i_116_163 : q_dec 116 163 = some (12, .aload_n 0, 1) := by decide +kernel
theorem i_116_164 : q_dec 116 164 = some (12, .getfield 29, 3) := by decide +kernel
theorem i_116_167 : q_dec 116 167 = some (12, .iconst 1, 1) := by decide +kernel
theorem i_116_168 : q_dec 116 168 = some (12, .dup2, 1) := by decide +kernel
theorem i_116_169 : q_dec 116 169 = some (12, .iaload, 1) := by decide +kernel
theorem i_116_170 : q_dec 116 170 = some (12, .iload 5, 2) := by decide +kernel
theorem i_116_172 : q_dec 116 172 = some (12, .iadd, 1) := by decide +kernel
theorem i_116_173 : q_dec 116 173 = some (12, .iastore, 1) := by decide +kernel
theorem i_116_174 : q_dec 116 174 = some (12, .iload 5, 2) := by decide +kernel
theorem i_116_176 : q_dec 116 176 = some (12, .ireturn, 1) := by decide +kernel
theorem i_117_0 : q_dec 117 0 = some (12, .iload_n 1, 1) := by decide +kernel
theorem i_117_1 : q_dec 117 1 = some (12, .aload_n 0, 1) := by decide +kernel
theorem i_117_2 : q_dec 117 2 = some (12, .getfield 7, 3) := by decide +kernel
theorem i_117_5 : q_dec 117 5 = some (12, .irem, 1) := by decide +kernel
theorem i_117_6 : q_dec 117 6 = some (12, .iload_n 2, 1) := by decide +kernel
theorem i_117_7 : q_dec 117 7 = some (12, .iconst 1, 1) := by decide +kernel
theorem i_117_8 : q_dec 117 8 = some (12, .if_icmp .ne (7), 3) := by decide +kernel
theorem i_117_11 : q_dec 117 11 = some (12, .iconst 1, 1) := by decide +kernel
theorem i_117_12 : q_dec 117 12 = some (12, .goto 13, 3) := by decide +kernel
theorem i_117_15 : q_dec 117 15 = some (12, .iload_n 2, 1) := by decide +kernel
theorem i_117_16 : q_dec 117 16 = some (12, .iconst 3, 1) := by decide +kernel
theorem i_117_17 : q_dec 117 17 = some (12, .if_icmp .ne (7), 3) := by decide +kernel
theorem i_117_20 : q_dec 117 20 = some (12, .iconst (-1), 1) := by decide +kernel
theorem i_117_21 : q_dec 117 21 = some (12, .goto 4, 3) := by decide +kernel
theorem i_117_24 : q_dec 117 24 = some (12, .iconst 0, 1) := by decide +kernel
theorem i_117_25 : q_dec 117 25 = some (12, .iadd, 1) := by decide +kernel
theorem i_117_26 : q_dec 117 26 = some (12, .istore_n 3, 1) := by decide +kernel
theorem i_117_27 : q_dec 117 27 = some (12, .iload_n 1, 1) := by decide +kernel
theorem i_117_28 : q_dec 117 28 = some (12, .aload_n 0, 1) := by decide +kernel
theorem i_117_29 : q_dec 117 29 = some (12, .getfield 7, 3) := by decide +kernel
theorem i_117_32 : q_dec 117 32 = some (12, .idiv, 1) := by decide +kernel
theorem i_117_33 : q_dec 117 33 = some (12, .iload_n 2, 1) := by decide +kernel
theorem i_117_34 : q_dec 117 34 = some (12, .iconst 2, 1) := by decide +kernel
theorem i_117_35 : q_dec 117 35 = some (12, .if_icmp .ne (7), 3) := by decide +kernel
theorem i_117_38 : q_dec 117 38 = some (12, .iconst 1, 1) := by decide +kernel
theorem i_117_39 : q_dec 117 39 = some (12, .goto 12, 3) := by decide +kernel
theorem i_117_42 : q_dec 117 42 = some (12, .iload_n 2, 1) := by decide +kernel
theorem i_117_43 : q_dec 117 43 = some (12, .ifCond .ne (7), 3) := by decide +kernel
theorem i_117_46 : q_dec 117 46 = some (12, .iconst (-1), 1) := by decide +kernel
theorem i_117_47 : q_dec 117 47 = some (12, .goto 4, 3) := by decide +kernel
theorem i_117_50 : q_dec 117 50 = some (12, .iconst 0, 1) := by decide +kernel
theorem i_117_51 : q_dec 117 51 = some (12, .iadd, 1) := by decide +kernel
theorem i_117_52 : q_dec 117 52 = some (12, .istore 4, 2) := by decide +kernel
theorem i_117_54 : q_dec 117 54 = some (12, .iload_n 3, 1) := by decide +kernel
theorem i_117_55 : q_dec 117 55 = some (12, .i2l, 1) := by decide +kernel
theorem i_117_56 : q_dec 117 56 = some (12, .lconst 0, 1) := by decide +kernel
theorem i_117_57 : q_dec 117 57 = some (12, .aload_n 0, 1) := by decide +kernel
theorem i_117_58 : q_dec 117 58 = some (12, .getfield 7, 3) := by decide +kernel
theorem i_117_61 : q_dec 117 61 = some (12, .iconst 1, 1) := by decide +kernel
theorem i_117_62 : q_dec 117 62 = some (12, .isub, 1) := by decide +kernel
theorem i_117_63 : q_dec 117 63 = some (12, .i2l, 1) := by decide +kernel
theorem i_117_64 : q_dec 117 64 = some (12, .invokestatic 72, 3) := by decide +kernel
theorem i_117_67 : q_dec 117 67 = some (12, .ifCond .eq (43), 3) := by decide +kernel
theorem i_117_70 : q_dec 117 70 = some (12, .iload 4, 2) := by decide +kernel
theorem i_117_72 : q_dec 117 72 = some (12, .i2l, 1) := by decide +kernel
theorem i_117_73 : q_dec 117 73 = some (12, .lconst 0, 1) := by decide +kernel
theorem i_117_74 : q_dec 117 74 = some (12, .aload_n 0, 1) := by decide +kernel
theorem i_117_75 : q_dec 117 75 = some (12, .getfield 13, 3) := by decide +kernel
theorem i_117_78 : q_dec 117 78 = some (12, .iconst 1, 1) := by decide +kernel
theorem i_117_79 : q_dec 117 79 = some (12, .isub, 1) := by decide +kernel
theorem i_117_80 : q_dec 117 80 = some (12, .i2l, 1) := by decide +kernel
theorem i_117_81 : q_dec 117 81 = some (12, .invokestatic 72, 3) := by decide +kernel
theorem i_117_84 : q_dec 117 84 = some (12, .ifCond .eq (26), 3) := by decide +kernel
theorem i_117_87 : q_dec 117 87 = some (12, .aload_n 0, 1) := by decide +kernel
theorem i_117_88 : q_dec 117 88 = some (12, .getfield 80, 3) := by decide +kernel
theorem i_117_91 : q_dec 117 91 = some (12, .aload_n 0, 1) := by decide +kernel
theorem i_117_92 : q_dec 117 92 = some (12, .getfield 7, 3) := by decide +kernel
theorem i_117_95 : q_dec 117 95 = some (12, .iload 4, 2) := by decide +kernel
theorem i_117_97 : q_dec 117 97 = some (12, .imul, 1) := by decide +kernel
theorem i_117_98 : q_dec 117 98 = some (12, .iload_n 3, 1) := by decide +kernel
theorem i_117_99 : q_dec 117 99 = some (12, .iadd, 1) := by decide +kernel
theorem i_117_100 : q_dec 117 100 = some (12, .invokestatic 83, 3) := by decide +kernel
theorem i_117_103 : q_dec 117 103 = some (12, .ifCond .ne (7), 3) := by decide +kernel
theorem i_117_106 : q_dec 117 106 = some (12, .iconst 1, 1) := by decide +kernel
theorem i_117_107 : q_dec 117 107 = some (12, .goto 4, 3) := by decide +kernel
theorem i_117_110 : q_dec 117 110 = some (12, .iconst 0, 1) := by decide +kernel
theorem i_117_111 : q_dec 117 111 = some (12, .istore 5, 2) := by decide +kernel
theorem i_117_113 : q_dec 117 113 = some (12, .iload 5, 2) := by decide +kernel
theorem i_117_115 : q_dec 117 115 = some (12, .ifCond .eq (15), 3) := by decide +kernel
theorem i_117_118 : q_dec 117 118 = some (12, .aload_n 0, 1) := by decide +kernel
theorem i_117_119 : q_dec 117 119 = some (12, .getfield 7, 3) := by decide +kernel
theorem i_117_122 : q_dec 117 122 = some (12, .iload 4, 2) := by decide +kernel
theorem i_117_124 : q_dec 117 124 = some (12, .imul, 1) := by decide +kernel
theorem i_117_125 : q_dec 117 125 = some (12, .iload_n 3, 1) := by decide +kernel
theorem i_117_126 : q_dec 117 126 = some (12, .iadd, 1) := by decide +kernel
theorem i_117_127 : q_dec 117 127 = some (12, .goto 4, 3) := by decide +kernel
theorem i_117_130 : q_dec 117 130 = some (12, .iconst (-1), 1) := by decide +kernel
theorem i_117_131 : q_dec 117 131 = some (12, .ireturn, 1) := by decide +kernel
theorem i_118_0 : q_dec 118 0 = some (12, .aload_n 0, 1) := by decide +kernel
theorem i_118_1 : q_dec 118 1 = some (12, .getfield 29, 3) := by decide +kernel
theorem i_118_4 : q_dec 118 4 = some (12, .iconst 3, 1) := by decide +kernel
theorem i_118_5 : q_dec 118 5 = some (12, .iaload, 1) := by decide +kernel
theorem i_118_6 : q_dec 118 6 = some (12, .istore_n 1, 1) := by decide +kernel
theorem i_118_7 : q_dec 118 7 = some (12, .iload_n 1, 1) := by decide +kernel
theorem i_118_8 : q_dec 118 8 = some (12, .ifCond .le (7), 3) := by decide +kernel
theorem i_118_11 : q_dec 118 11 = some (12, .iconst 1, 1) := by decide +kernel
theorem i_118_12 : q_dec 118 12 = some (12, .goto 4, 3) := by decide +kernel
theorem i_118_15 : q_dec 118 15 = some (12, .iconst 0, 1) := by decide +kernel
theorem i_118_16 : q_dec 118 16 = some (12, .istore_n 2, 1) := by decide +kernel
theorem i_118_17 : q_dec 118 17 = some (12, .aload_n 0, 1) := by decide +kernel
theorem i_118_18 : q_dec 118 18 = some (12, .getfield 29, 3) := by decide +kernel
theorem i_118_21 : q_dec 118 21 = some (12, .iconst 0, 1) := by decide +kernel
theorem i_118_22 : q_dec 118 22 = some (12, .iaload, 1) := by decide +kernel
theorem i_118_23 : q_dec 118 23 = some (12, .istore_n 3, 1) := by decide +kernel
theorem i_118_24 : q_dec 118 24 = some (12, .iload_n 1, 1) := by decide +kernel
theorem i_118_25 : q_dec 118 25 = some (12, .iconst 1, 1) := by decide +kernel
theorem i_118_26 : q_dec 118 26 = some (12, .isub, 1) := by decide +kernel
theorem i_118_27 : q_dec 118 27 = some (12, .istore 4, 2) := by decide +kernel
theorem i_118_29 : q_dec 118 29 = some (12, .iload 4, 2) := by decide +kernel
theorem i_118_31 : q_dec 118 31 = some (12, .ifCond .le (63), 3) := by decide +kernel
theorem i_118_34 : q_dec 118 34 = some (12, .aload_n 0, 1) := by decide +kernel
theorem i_118_35 : q_dec 118 35 = some (12, .iload_n 3, 1) := by decide +kernel
theorem i_118_36 : q_dec 118 36 = some (12, .aload_n 0, 1) := by decide +kernel
theorem i_118_37 : q_dec 118 37 = some (12, .getfield 29, 3) := by decide +kernel
theorem i_118_40 : q_dec 118 40 = some (12, .iconst 4, 1) := by decide +kernel
theorem i_118_41 : q_dec 118 41 = some (12, .iload 4, 2) := by decide +kernel
theorem i_118_43 : q_dec 118 43 = some (12, .iadd, 1) := by decide +kernel
theorem i_118_44 : q_dec 118 44 = some (12, .iaload, 1) := by decide +kernel
theorem i_118_45 : q_dec 118 45 = some (12, .invokevirtual 179, 3) := by decide +kernel
theorem i_118_48 : q_dec 118 48 = some (12, .istore_n 3, 1) := by decide +kernel
theorem i_118_49 : q_dec 118 49 = some (12, .aload_n 0, 1) := by decide +kernel
theorem i_118_50 : q_dec 118 50 = some (12, .getfield 29, 3) := by decide +kernel
theorem i_118_53 : q_dec 118 53 = some (12, .iconst 4, 1) := by decide +kernel
theorem i_118_54 : q_dec 118 54 = some (12, .iload 4, 2) := by decide +kernel
theorem i_118_56 : q_dec 118 56 = some (12, .iadd, 1) := by decide +kernel
theorem i_118_57 : q_dec 118 57 = some (12, .iconst 1, 1) := by decide +kernel
theorem i_118_58 : q_dec 118 58 = some (12, .isub, 1) := by decide +kernel
theorem i_118_59 : q_dec 118 59 = some (12, .iaload, 1) := by decide +kernel
theorem i_118_60 : q_dec 118 60 = some (12, .aload_n 0, 1) := by decide +kernel
theorem i_118_61 : q_dec 118 61 = some (12, .getfield 29, 3) := by decide +kernel
theorem i_118_64 : q_dec 118 64 = some (12, .iconst 4, 1) := by decide +kernel
theorem i_118_65 : q_dec 118 65 = some (12, .iload 4, 2) := by decide +kernel
theorem i_118_67 : q_dec 118 67 = some (12, .iadd, 1) := by decide +kernel
theorem i_118_68 : q_dec 118 68 = some (12, .iaload, 1) := by decide +kernel
theorem i_118_69 : q_dec 118 69 = some (12, .if_icmp .ne (14), 3) := by decide +kernel
theorem i_118_72 : q_dec 118 72 = some (12, .aload_n 0, 1) := by decide +kernel
theorem i_118_73 : q_dec 118 73 = some (12, .getfield 167, 3) := by decide +kernel
theorem i_118_76 : q_dec 118 76 = some (12, .iload_n 3, 1) := by decide +kernel
theorem i_118_77 : q_dec 118 77 = some (12, .invokestatic 83, 3) := by decide +kernel
theorem i_118_80 : q_dec 118 80 = some (12, .ifCond .eq (5), 3) := by decide +kernel
theorem i_118_83 : q_dec 118 83 = some (12, .iload_n 2, 1) := by decide +kernel
theorem i_118_84 : q_dec 118 84 = some (12, .ireturn, 1) := by decide +kernel
theorem i_118_85 : q_dec 118 85 = some (12, .iinc 2 1, 3) := by decide +kernel
theorem i_118_88 : q_dec 118 88 = some (12, .iinc 4 (-1), 3) := by decide +kernel
theorem i_118_91 : q_dec 118 91 = some (12, .goto (-62), 3) := by decide +kernel
theorem i_118_94 : q_dec 118 94 = some (12, .iload_n 2, 1) := by decide +kernel
theorem i_118_95 : q_dec 118 95 = some (12, .ireturn, 1) := by decide +kernel
theorem i_119_0 : q_dec 119 0 = some (12, .iload_n 1, 1) := by decide +kernel
theorem i_119_1 : q_dec 119 1 = some (12, .iload_n 2, 1) := by decide +kernel
theorem i_119_2 : q_dec 119 2 = some (12, .iconst 1, 1) := by decide +kernel
theorem i_119_3 : q_dec 119 3 = some (12, .if_icmp .ne (7), 3) := by decide +kernel
theorem i_119_6 : q_dec 119 6 = some (12, .iconst 1, 1) := by decide +kernel
theorem i_119_7 : q_dec 119 7 = some (12, .goto 29, 3) := by decide +kernel
theorem i_119_10 : q_dec 119 10 = some (12, .iload_n 2, 1) := by decide +kernel
theorem i_119_11 : q_dec 119 11 = some (12, .iconst 3, 1) := by decide +kernel
theorem i_119_12 : q_dec 119 12 = some (12, .if_icmp .ne (7), 3) := by decide +kernel
theorem i_119_15 : q_dec 119 15 = some (12, .iconst (-1), 1) := by decide +kernel
theorem i_119_16 : q_dec 119 16 = some (12, .goto 20, 3) := by decide +kernel
theorem i_119_19 : q_dec 119 19 = some (12, .iload_n 2, 1) := by decide +kernel
theorem i_119_20 : q_dec 119 20 = some (12, .iconst 2, 1) := by decide +kernel
theorem i_119_21 : q_dec 119 21 = some (12, .if_icmp .ne (10), 3) := by decide +kernel
theorem i_119_24 : q_dec 119 24 = some (12, .aload_n 0, 1) := by decide +kernel
theorem i_119_25 : q_dec 119 25 = some (12, .getfield 7, 3) := by decide +kernel
theorem i_119_28 : q_dec 119 28 = some (12, .goto 8, 3) := by decide +kernel
theorem i_119_31 : q_dec 119 31 = some (12, .aload_n 0, 1) := by decide +kernel
theorem i_119_32 : q_dec 119 32 = some (12, .getfield 7, 3) := by decide +kernel
theorem i_119_35 : q_dec 119 35 = some (12, .ineg, 1) := by decide +kernel
theorem i_119_36 : q_dec 119 36 = some (12, .isub, 1) := by decide +kernel
theorem i_119_37 : q_dec 119 37 = some (12, .ireturn, 1) := by decide +kernel
theorem i_120_0 : q_dec 120 0 = some (12, .iload_n 1, 1) := by decide +kernel
theorem i_120_1 : q_dec 120 1 = some (12, .aload_n 0, 1) := by decide +kernel
theorem i_120_2 : q_dec 120 2 = some (12, .getfield 16, 3) := by decide +kernel
theorem i_120_5 : q_dec 120 5 = some (12, .isub, 1) := by decide +kernel
theorem i_120_6 : q_dec 120 6 = some (12, .istore_n 2, 1) := by decide +kernel
theorem i_120_7 : q_dec 120 7 = some (12, .iload_n 2, 1) := by decide +kernel
theorem i_120_8 : q_dec 120 8 = some (12, .ifCond .gt (7), 3) := by decide +kernel
theorem i_120_11 : q_dec 120 11 = some (12, .iconst 0, 1) := by decide +kernel
theorem i_120_12 : q_dec 120 12 = some (12, .goto 42, 3) := by decide +kernel
theorem i_120_15 : q_dec 120 15 = some (12, .aload_n 0, 1) := by decide +kernel
theorem i_120_16 : q_dec 120 16 = some (12, .getfield 22, 3) := by decide +kernel
theorem i_120_19 : q_dec 120 19 = some (12, .ifCond .ne (10), 3) := by decide +kernel
theorem i_120_22 : q_dec 120 22 = some (12, .aload_n 0, 1) := by decide +kernel
theorem i_120_23 : q_dec 120 23 = some (12, .getfield 19, 3) := by decide +kernel
theorem i_120_26 : q_dec 120 26 = some (12, .goto 28, 3) := by decide +kernel
theorem i_120_29 : q_dec 120 29 = some (12, .aload_n 0, 1) := by decide +kernel
theorem i_120_30 : q_dec 120 30 = some (12, .getfield 22, 3) := by decide +kernel
theorem i_120_33 : q_dec 120 33 = some (12, .iconst 1, 1) := by decide +kernel
theorem i_120_34 : q_dec 120 34 = some (12, .if_icmp .ne (12), 3) := by decide +kernel
theorem i_120_37 : q_dec 120 37 = some (12, .aload_n 0, 1) := by decide +kernel
theorem i_120_38 : q_dec 120 38 = some (12, .getfield 19, 3) := by decide +kernel
theorem i_120_41 : q_dec 120 41 = some (12, .iload_n 2, 1) := by decide +kernel
theorem i_120_42 : q_dec 120 42 = some (12, .imul, 1) := by decide +kernel
theorem i_120_43 : q_dec 120 43 = some (12, .goto 11, 3) := by decide +kernel
theorem i_120_46 : q_dec 120 46 = some (12, .aload_n 0, 1) := by decide +kernel
theorem i_120_47 : q_dec 120 47 = some (12, .getfield 19, 3) := by decide +kernel
theorem i_120_50 : q_dec 120 50 = some (12, .iload_n 2, 1) := by decide +kernel
theorem i_120_51 : q_dec 120 51 = some (12, .imul, 1) := by decide +kernel
theorem i_120_52 : q_dec 120 52 = some (12, .iload_n 2, 1) := by decide +kernel
theorem i_120_53 : q_dec 120 53 = some (12, .imul, 1) := by decide +kernel
theorem i_120_54 : q_dec 120 54 = some (12, .istore_n 3, 1) := by decide +kernel
theorem i_120_55 : q_dec 120 55 = some (12, .aload_n 0, 1) := by decide +kernel
theorem i_120_56 : q_dec 120 56 = some (12, .getfield 173, 3) := by decide +kernel
theorem i_120_59 : q_dec 120 59 = some (12, .aload_n 0, 1) := by decide +kernel
theorem i_120_60 : q_dec 120 60 = some (12, .getfield 170, 3) := by decide +kernel
theorem i_120_63 : q_dec 120 63 = some (12, .iconst 1, 1) := by decide +kernel
theorem i_120_64 : q_dec 120 64 = some (12, .if_icmp .ne (19), 3) := by decide +kernel
theorem i_120_67 : q_dec 120 67 = some (12, .aload_n 0, 1) := by decide +kernel
theorem i_120_68 : q_dec 120 68 = some (12, .getfield 29, 3) := by decide +kernel
theorem i_120_71 : q_dec 120 71 = some (12, .iconst 2, 1) := by decide +kernel
theorem i_120_72 : q_dec 120 72 = some (12, .iaload, 1) := by decide +kernel
theorem i_120_73 : q_dec 120 73 = some (12, .iconst 1, 1) := by decide +kernel
theorem i_120_74 : q_dec 120 74 = some (12, .if_icmp .ne (9), 3) := by decide +kernel
theorem i_120_77 : q_dec 120 77 = some (12, .iconst 2, 1) := by decide +kernel
theorem i_120_78 : q_dec 120 78 = some (12, .iload_n 3, 1) := by decide +kernel
theorem i_120_79 : q_dec 120 79 = some (12, .imul, 1) := by decide +kernel
theorem i_120_80 : q_dec 120 80 = some (12, .goto 4, 3) := by decide +kernel
theorem i_120_83 : q_dec 120 83 = some (12, .iload_n 3, 1) := by decide +kernel
theorem i_120_84 : q_dec 120 84 = some (12, .iadd, 1) := by decide +kernel
theorem i_120_85 : q_dec 120 85 = some (12, .ireturn, 1) := by decide +kernel
theorem i_121_0 : q_dec 121 0 = some (12, .aload_n 0, 1) := by decide +kernel
theorem i_121_1 : q_dec 121 1 = some (12, .getfield 29, 3) := by decide +kernel
theorem i_121_4 : q_dec 121 4 = some (12, .iconst 3, 1) := by decide +kernel
theorem i_121_5 : q_dec 121 5 = some (12, .iaload, 1) := by decide +kernel
theorem i_121_6 : q_dec 121 6 = some (12, .ifCond .ne (6), 3) := by decide +kernel
theorem i_121_9 : q_dec 121 9 = some (12, .bipush (-2), 2) := by decide +kernel
theorem i_121_11 : q_dec 121 11 = some (12, .ireturn, 1) := by decide +kernel
theorem i_121_12 : q_dec 121 12 = some (12, .aload_n 0, 1) := by decide +kernel
theorem i_121_13 : q_dec 121 13 = some (12, .getfield 29, 3) := by decide +kernel
theorem i_121_16 : q_dec 121 16 = some (12, .iconst 3, 1) := by decide +kernel
theorem i_121_17 : q_dec 121 17 = some (12, .dup2, 1) := by decide +kernel
theorem i_121_18 : q_dec 121 18 = some (12, .iaload, 1) := by decide +kernel
theorem i_121_19 : q_dec 121 19 = some (12, .iconst 1, 1) := by decide +kernel
theorem i_121_20 : q_dec 121 20 = some (12, .isub, 1) := by decide +kernel
theorem i_121_21 : q_dec 121 21 = some (12, .iastore, 1) := by decide +kernel
theorem i_121_22 : q_dec 121 22 = some (12, .aload_n 0, 1) := by decide +kernel
theorem i_121_23 : q_dec 121 23 = some (12, .getfield 29, 3) := by decide +kernel
theorem i_121_26 : q_dec 121 26 = some (12, .iconst 3, 1) := by decide +kernel
theorem i_121_27 : q_dec 121 27 = some (12, .iaload, 1) := by decide +kernel
theorem i_121_28 : q_dec 121 28 = some (12, .istore_n 1, 1) := by decide +kernel
theorem i_121_29 : q_dec 121 29 = some (12, .aload_n 0, 1) := by decide +kernel
theorem i_121_30 : q_dec 121 30 = some (12, .getfield 29, 3) := by decide +kernel
theorem i_121_33 : q_dec 121 33 = some (12, .iconst 0, 1) := by decide +kernel
theorem i_121_34 : q_dec 121 34 = some (12, .aload_n 0, 1) := by decide +kernel
theorem i_121_35 : q_dec 121 35 = some (12, .aload_n 0, 1) := by decide +kernel
theorem i_121_36 : q_dec 121 36 = some (12, .getfield 29, 3) := by decide +kernel
theorem i_121_39 : q_dec 121 39 = some (12, .iconst 0, 1) := by decide +kernel
theorem i_121_40 : q_dec 121 40 = some (12, .iaload, 1) := by decide +kernel
theorem i_121_41 : q_dec 121 41 = some (12, .aload_n 0, 1) := by decide +kernel
theorem i_121_42 : q_dec 121 42 = some (12, .getfield 29, 3) := by decide +kernel
theorem i_121_45 : q_dec 121 45 = some (12, .iconst 4, 1) := by decide +kernel
theorem i_121_46 : q_dec 121 46 = some (12, .iload_n 1, 1) := by decide +kernel
theorem i_121_47 : q_dec 121 47 = some (12, .iadd, 1) := by decide +kernel
theorem i_121_48 : q_dec 121 48 = some (12, .iaload, 1) := by decide +kernel
theorem i_121_49 : q_dec 121 49 = some (12, .invokevirtual 179, 3) := by decide +kernel
theorem i_121_52 : q_dec 121 52 = some (12, .iastore, 1) := by decide +kernel
theorem i_121_53 : q_dec 121 53 = some (12, .aload_n 0, 1) := by decide +kernel
theorem i_121_54 : q_dec 121 54 = some (12, .getfield 29, 3) := by decide +kernel
theorem i_121_57 : q_dec 121 57 = some (12, .iconst 1, 1) := by decide +kernel
theorem i_121_58 : q_dec 121 58 = some (12, .dup2, 1) := by decide +kernel
theorem i_121_59 : q_dec 121 59 = some (12, .iaload, 1) := by decide +kernel
theorem i_121_60 : q_dec 121 60 = some (12, .aload_n 0, 1) := by decide +kernel
theorem i_121_61 : q_dec 121 61 = some (12, .getfield 29, 3) := by decide +kernel
theorem i_121_64 : q_dec 121 64 = some (12, .bipush 66, 2) := by decide +kernel
theorem i_121_66 : q_dec 121 66 = some (12, .iload_n 1, 1) := by decide +kernel
theorem i_121_67 : q_dec 121 67 = some (12, .iadd, 1) := by decide +kernel
theorem i_121_68 : q_dec 121 68 = some (12, .iaload, 1) := by decide +kernel
theorem i_121_69 : q_dec 121 69 = some (12, .isub, 1) := by decide +kernel
theorem i_121_70 : q_dec 121 70 = some (12, .iastore, 1) := by decide +kernel
theorem i_121_71 : q_dec 121 71 = some (12, .aload_n 0, 1) := by decide +kernel
theorem i_121_72 : q_dec 121 72 = some (12, .getfield 29, 3) := by decide +kernel
theorem i_121_75 : q_dec 121 75 = some (12, .bipush 66, 2) := by decide +kernel
theorem i_121_77 : q_dec 121 77 = some (12, .iload_n 1, 1) := by decide +kernel
theorem i_121_78 : q_dec 121 78 = some (12, .iadd, 1) := by decide +kernel
theorem i_121_79 : q_dec 121 79 = some (12, .iaload, 1) := by decide +kernel
theorem i_121_80 : q_dec 121 80 = some (12, .ireturn, 1) := by decide +kernel
theorem i_122_0 : q_dec 122 0 = some (12, .iload_n 1, 1) := by decide +kernel
theorem i_122_1 : q_dec 122 1 = some (12, .tableswitch (91) (0) (4) #[35, 42, 49, 54, 84], 35) := by decide +kernel
theorem i_122_36 : q_dec 122 36 = some (12, .aload_n 0, 1) := by decide +kernel
theorem i_122_37 : q_dec 122 37 = some (12, .getfield 29, 3) := by decide +kernel
theorem i_122_40 : q_dec 122 40 = some (12, .iconst 0, 1) := by decide +kernel
theorem i_122_41 : q_dec 122 41 = some (12, .iaload, 1) := by decide +kernel
theorem i_122_42 : q_dec 122 42 = some (12, .ireturn, 1) := by decide +kernel
theorem i_122_43 : q_dec 122 43 = some (12, .aload_n 0, 1) := by decide +kernel
theorem i_122_44 : q_dec 122 44 = some (12, .getfield 29, 3) := by decide +kernel
theorem i_122_47 : q_dec 122 47 = some (12, .iconst 1, 1) := by decide +kernel
theorem i_122_48 : q_dec 122 48 = some (12, .iaload, 1) := by decide +kernel
theorem i_122_49 : q_dec 122 49 = some (12, .ireturn, 1) := by decide +kernel
theorem i_122_50 : q_dec 122 50 = some (12, .aload_n 0, 1) := by decide +kernel
theorem i_122_51 : q_dec 122 51 = some (12, .invokevirtual 190, 3) := by decide +kernel
theorem i_122_54 : q_dec 122 54 = some (12, .ireturn, 1) := by decide +kernel
theorem i_122_55 : q_dec 122 55 = some (12, .aload_n 0, 1) := by decide +kernel
theorem i_122_56 : q_dec 122 56 = some (12, .getfield 29, 3) := by decide +kernel
theorem i_122_59 : q_dec 122 59 = some (12, .iconst 3, 1) := by decide +kernel
theorem i_122_60 : q_dec 122 60 = some (12, .iaload, 1) := by decide +kernel
theorem i_122_61 : q_dec 122 61 = some (12, .ifCond .ne (8), 3) := by decide +kernel
theorem i_122_64 : q_dec 122 64 = some (12, .bipush (-9), 2) := by decide +kernel
theorem i_122_66 : q_dec 122 66 = some (12, .goto 18, 3) := by decide +kernel
theorem i_122_69 : q_dec 122 69 = some (12, .aload_n 0, 1) := by decide +kernel
theorem i_122_70 : q_dec 122 70 = some (12, .getfield 29, 3) := by decide +kernel
theorem i_122_73 : q_dec 122 73 = some (12, .iconst 4, 1) := by decide +kernel
theorem i_122_74 : q_dec 122 74 = some (12, .aload_n 0, 1) := by decide +kernel
theorem i_122_75 : q_dec 122 75 = some (12, .getfield 29, 3) := by decide +kernel
theorem i_122_78 : q_dec 122 78 = some (12, .iconst 3, 1) := by decide +kernel
theorem i_122_79 : q_dec 122 79 = some (12, .iaload, 1) := by decide +kernel
theorem i_122_80 : q_dec 122 80 = some (12, .iadd, 1) := by decide +kernel
theorem i_122_81 : q_dec 122 81 = some (12, .iconst 1, 1) := by decide +kernel
theorem i_122_82 : q_dec 122 82 = some (12, .isub, 1) := by decide +kernel
theorem i_122_83 : q_dec 122 83 = some (12, .iaload, 1) := by decide +kernel
theorem i_122_84 : q_dec 122 84 = some (12, .ireturn, 1) := by decide +kernel
theorem i_122_85 : q_dec 122 85 = some (12, .aload_n 0, 1) := by decide +kernel
theorem i_122_86 : q_dec 122 86 = some (12, .getfield 29, 3) := by decide +kernel
theorem i_122_89 : q_dec 122 89 = some (12, .iconst 3, 1) := by decide +kernel
theorem i_122_90 : q_dec 122 90 = some (12, .iaload, 1) := by decide +kernel
theorem i_122_91 : q_dec 122 91 = some (12, .ireturn, 1) := by decide +kernel
theorem i_122_92 : q_dec 122 92 = some (12, .iconst (-1), 1) := by decide +kernel
theorem i_122_93 : q_dec 122 93 = some (12, .ireturn, 1) := by decide +kernel
theorem i_123_0 : q_dec 123 0 = some (12, .iload_n 1, 1) := by decide +kernel
theorem i_123_1 : q_dec 123 1 = some (12, .i2l, 1) := by decide +kernel
theorem i_123_2 : q_dec 123 2 = some (12, .lconst 0, 1) := by decide +kernel
theorem i_123_3 : q_dec 123 3 = some (12, .lconst 1, 1) := by decide +kernel
theorem i_123_4 : q_dec 123 4 = some (12, .invokestatic 72, 3) := by decide +kernel
theorem i_123_7 : q_dec 123 7 = some (12, .ifCond .ne (5), 3) := by decide +kernel
theorem i_123_10 : q_dec 123 10 = some (12, .iconst (-1), 1) := by decide +kernel
theorem i_123_11 : q_dec 123 11 = some (12, .ireturn, 1) := by decide +kernel
theorem i_123_12 : q_dec 123 12 = some (12, .aload_n 0, 1) := by decide +kernel
theorem i_123_13 : q_dec 123 13 = some (12, .getfield 29, 3) := by decide +kernel
theorem i_123_16 : q_dec 123 16 = some (12, .iconst 2, 1) := by decide +kernel
theorem i_123_17 : q_dec 123 17 = some (12, .iaload, 1) := by decide +kernel
theorem i_123_18 : q_dec 123 18 = some (12, .istore_n 2, 1) := by decide +kernel
theorem i_123_19 : q_dec 123 19 = some (12, .aload_n 0, 1) := by decide +kernel
theorem i_123_20 : q_dec 123 20 = some (12, .getfield 29, 3) := by decide +kernel
theorem i_123_23 : q_dec 123 23 = some (12, .iconst 2, 1) := by decide +kernel
theorem i_123_24 : q_dec 123 24 = some (12, .iload_n 1, 1) := by decide +kernel
theorem i_123_25 : q_dec 123 25 = some (12, .iastore, 1) := by decide +kernel
theorem i_123_26 : q_dec 123 26 = some (12, .iload_n 2, 1) := by decide +kernel
theorem i_123_27 : q_dec 123 27 = some (12, .ireturn, 1) := by decide +kernel
theorem i_124_0 : q_dec 124 0 = some (12, .aload_n 0, 1) := by decide +kernel
theorem i_124_1 : q_dec 124 1 = some (12, .iload_n 1, 1) := by decide +kernel
theorem i_124_2 : q_dec 124 2 = some (12, .invokevirtual 182, 3) := by decide +kernel
theorem i_124_5 : q_dec 124 5 = some (12, .ifCond .eq (15), 3) := by decide +kernel
theorem i_124_8 : q_dec 124 8 = some (12, .iload_n 2, 1) := by decide +kernel
theorem i_124_9 : q_dec 124 9 = some (12, .i2l, 1) := by decide +kernel
theorem i_124_10 : q_dec 124 10 = some (12, .lconst 0, 1) := by decide +kernel
theorem i_124_11 : q_dec 124 11 = some (12, .ldc2_w 198, 3) := by decide +kernel
theorem i_124_14 : q_dec 124 14 = some (12, .invokestatic 72, 3) := by decide +kernel
theorem i_124_17 : q_dec 124 17 = some (12, .ifCond .ne (5), 3) := by decide +kernel
theorem i_124_20 : q_dec 124 20 = some (12, .iconst (-1), 1) := by decide +kernel
theorem i_124_21 : q_dec 124 21 = some (12, .ireturn, 1) := by decide +kernel
theorem i_124_22 : q_dec 124 22 = some (12, .iconst 1, 1) := by decide +kernel
theorem i_124_23 : q_dec 124 23 = some (12, .istore_n 3, 1) := by decide +kernel
theorem i_124_24 : q_dec 124 24 = some (12, .iload_n 2, 1) := by decide +kernel
theorem i_124_25 : q_dec 124 25 = some (12, .istore 4, 2) := by decide +kernel
theorem i_124_27 : q_dec 124 27 = some (12, .iload 4, 2) := by decide +kernel
theorem i_124_29 : q_dec 124 29 = some (12, .ifCond .le (47), 3) := by decide +kernel
theorem i_124_32 : q_dec 124 32 = some (12, .iload 4, 2) := by decide +kernel
theorem i_124_34 : q_dec 124 34 = some (12, .bipush 10, 2) := by decide +kernel
theorem i_124_36 : q_dec 124 36 = some (12, .irem, 1) := by decide +kernel
theorem i_124_37 : q_dec 124 37 = some (12, .i2l, 1) := by decide +kernel
theorem i_124_38 : q_dec 124 38 = some (12, .lconst 1, 1) := by decide +kernel
theorem i_124_39 : q_dec 124 39 = some (12, .ldc2_w 200, 3) := by decide +kernel
theorem i_124_42 : q_dec 124 42 = some (12, .invokestatic 72, 3) := by decide +kernel
theorem i_124_45 : q_dec 124 45 = some (12, .ifCond .ne (5), 3) := by decide +kernel
theorem i_124_48 : q_dec 124 48 = some (12, .iconst (-1), 1) := by decide +kernel
theorem i_124_49 : q_dec 124 49 = some (12, .ireturn, 1) := by decide +kernel
theorem i_124_50 : q_dec 124 50 = some (12, .iload_n 3, 1) := by decide +kernel
theorem i_124_51 : q_dec 124 51 = some (12, .iload 4, 2) := by decide +kernel
theorem i_124_53 : q_dec 124 53 = some (12, .bipush 9, 2) := by decide +kernel
theorem i_124_55 : q_dec 124 55 = some (12, .if_icmp .le (8), 3) := by decide +kernel
theorem i_124_58 : q_dec 124 58 = some (12, .bipush 10, 2) := by decide +kernel
theorem i_124_60 : q_dec 124 60 = some (12, .goto 4, 3) := by decide +kernel
theorem i_124_63 : q_dec 124 63 = some (12, .iconst 1, 1) := by decide +kernel
theorem i_124_64 : q_dec 124 64 = some (12, .imul, 1) := by decide +kernel
theorem i_124_65 : q_dec 124 65 = some (12, .istore_n 3, 1) := by decide +kernel
theorem i_124_66 : q_dec 124 66 = some (12, .iload 4, 2) := by decide +kernel
theorem i_124_68 : q_dec 124 68 = some (12, .bipush 10, 2) := by decide +kernel
theorem i_124_70 : q_dec 124 70 = some (12, .idiv, 1) := by decide +kernel
theorem i_124_71 : q_dec 124 71 = some (12, .istore 4, 2) := by decide +kernel
theorem i_124_73 : q_dec 124 73 = some (12, .goto (-46), 3) := by decide +kernel
theorem i_124_76 : q_dec 124 76 = some (12, .iload_n 1, 1) := by decide +kernel
theorem i_124_77 : q_dec 124 77 = some (12, .istore 4, 2) := by decide +kernel
theorem i_124_79 : q_dec 124 79 = some (12, .iconst 0, 1) := by decide +kernel
theorem i_124_80 : q_dec 124 80 = some (12, .istore 5, 2) := by decide +kernel
theorem i_124_82 : q_dec 124 82 = some (12, .iconst 0, 1) := by decide +kernel
theorem i_124_83 : q_dec 124 83 = some (12, .istore 6, 2) := by decide +kernel
theorem i_124_85 : q_dec 124 85 = some (12, .iconst (-1), 1) := by decide +kernel
theorem i_124_86 : q_dec 124 86 = some (12, .istore 7, 2) := by decide +kernel
theorem i_124_88 : q_dec 124 88 = some (12, .iconst 0, 1) := by decide +kernel
theorem i_124_89 : q_dec 124 89 = some (12, .istore 8, 2) := by decide +kernel
theorem i_124_91 : q_dec 124 91 = some (12, .iload_n 2, 1) := by decide +kernel
theorem i_124_92 : q_dec 124 92 = some (12, .ifCond .le (97), 3) := by decide +kernel
theorem i_124_95 : q_dec 124 95 = some (12, .iload_n 3, 1) := by decide +kernel
theorem i_124_96 : q_dec 124 96 = some (12, .ifCond .le (93), 3) := by decide +kernel
theorem i_124_99 : q_dec 124 99 = some (12, .iload_n 2, 1) := by decide +kernel
theorem i_124_100 : q_dec 124 100 = some (12, .iload_n 3, 1) := by decide +kernel
theorem i_124_101 : q_dec 124 101 = some (12, .idiv, 1) := by decide +kernel
theorem i_124_102 : q_dec 124 102 = some (12, .bipush 10, 2) := by decide +kernel
theorem i_124_104 : q_dec 124 104 = some (12, .irem, 1) := by decide +kernel
theorem i_124_105 : q_dec 124 105 = some (12, .iconst 1, 1) := by decide +kernel
theorem i_124_106 : q_dec 124 106 = some (12, .isub, 1) := by decide +kernel
theorem i_124_107 : q_dec 124 107 = some (12, .istore 9, 2) := by decide +kernel
theorem i_124_109 : q_dec 124 109 = some (12, .iload_n 3, 1) := by decide +kernel
theorem i_124_110 : q_dec 124 110 = some (12, .bipush 10, 2) := by decide +kernel
theorem i_124_112 : q_dec 124 112 = some (12, .idiv, 1) := by decide +kernel
theorem i_124_113 : q_dec 124 113 = some (12, .istore_n 3, 1) := by decide +kernel
theorem i_124_114 : q_dec 124 114 = some (12, .aload_n 0, 1) := by decide +kernel
theorem i_124_115 : q_dec 124 115 = some (12, .iload 4, 2) := by decide +kernel
theorem i_124_117 : q_dec 124 117 = some (12, .iload 9, 2) := by decide +kernel
theorem i_124_119 : q_dec 124 119 = some (12, .invokevirtual 187, 3) := by decide +kernel
theorem i_124_122 : q_dec 124 122 = some (12, .istore 4, 2) := by decide +kernel
theorem i_124_124 : q_dec 124 124 = some (12, .iload 4, 2) := by decide +kernel
theorem i_124_126 : q_dec 124 126 = some (12, .ifCond .ge (9), 3) := by decide +kernel
theorem i_124_129 : q_dec 124 129 = some (12, .bipush (-10), 2) := by decide +kernel
theorem i_124_131 : q_dec 124 131 = some (12, .iload 8, 2) := by decide +kernel
theorem i_124_133 : q_dec 124 133 = some (12, .isub, 1) := by decide +kernel
theorem i_124_134 : q_dec 124 134 = some (12, .ireturn, 1) := by decide +kernel
theorem i_124_135 : q_dec 124 135 = some (12, .iload 9, 2) := by decide +kernel
theorem i_124_137 : q_dec 124 137 = some (12, .iload 7, 2) := by decide +kernel
theorem i_124_139 : q_dec 124 139 = some (12, .if_icmp .ne (10), 3) := by decide +kernel
theorem i_124_142 : q_dec 124 142 = some (12, .iload 6, 2) := by decide +kernel
theorem i_124_144 : q_dec 124 144 = some (12, .iconst 1, 1) := by decide +kernel
theorem i_124_145 : q_dec 124 145 = some (12, .iadd, 1) := by decide +kernel
theorem i_124_146 : q_dec 124 146 = some (12, .goto 4, 3) := by decide +kernel
theorem i_124_149 : q_dec 124 149 = some (12, .iconst 1, 1) := by decide +kernel
theorem i_124_150 : q_dec 124 150 = some (12, .istore 6, 2) := by decide +kernel
theorem i_124_152 : q_dec 124 152 = some (12, .aload_n 0, 1) := by decide +kernel
theorem i_124_153 : q_dec 124 153 = some (12, .getfield 167, 3) := by decide +kernel
theorem i_124_156 : q_dec 124 156 = some (12, .iload 4, 2) := by decide +kernel
theorem i_124_158 : q_dec 124 158 = some (12, .invokestatic 83, 3) := by decide +kernel
theorem i_124_161 : q_dec 124 161 = some (12, .ifCond .eq (7), 3) := by decide +kernel
theorem i_124_164 : q_dec 124 164 = some (12, .iconst (-1), 1) := by decide +kernel
theorem i_124_165 : q_dec 124 165 = some (12, .goto 5, 3) := by decide +kernel
theorem i_124_168 : q_dec 124 168 = some (12, .iload 9, 2) := by decide +kernel
theorem i_124_170 : q_dec 124 170 = some (12, .istore 7, 2) := by decide +kernel
theorem i_124_172 : q_dec 124 172 = some (12, .iload 5, 2) := by decide +kernel
theorem i_124_174 : q_dec 124 174 = some (12, .aload_n 0, 1) := by decide +kernel
theorem i_124_175 : q_dec 124 175 = some (12, .iload 6, 2) := by decide +kernel
theorem i_124_177 : q_dec 124 177 = some (12, .invokevirtual 194, 3) := by decide +kernel
theorem i_124_180 : q_dec 124 180 = some (12, .iadd, 1) := by decide +kernel
theorem i_124_181 : q_dec 124 181 = some (12, .istore 5, 2) := by decide +kernel
theorem i_124_183 : q_dec 124 183 = some (12, .iinc 8 1, 3) := by decide +kernel
theorem i_124_186 : q_dec 124 186 = some (12, .goto (-95), 3) := by decide +kernel
theorem i_124_189 : q_dec 124 189 = some (12, .iload 5, 2) := by decide +kernel
theorem i_124_191 : q_dec 124 191 = some (12, .ireturn, 1) := by decide +kernel
theorem i_125_0 : q_dec 125 0 = some (12, .aload_n 0, 1) := by decide +kernel
theorem i_125_1 : q_dec 125 1 = some (12, .iload_n 1, 1) := by decide +kernel
theorem i_125_2 : q_dec 125 2 = some (12, .iload_n 2, 1) := by decide +kernel
theorem i_125_3 : q_dec 125 3 = some (12, .invokevirtual 210, 3) := by decide +kernel
theorem i_125_6 : q_dec 125 6 = some (12, .ifCond .eq (9), 3) := by decide +kernel
theorem i_125_9 : q_dec 125 9 = some (12, .iload_n 3, 1) := by decide +kernel
theorem i_125_10 : q_dec 125 10 = some (12, .bipush (-2), 2) := by decide +kernel
theorem i_125_12 : q_dec 125 12 = some (12, .if_icmp .ge (5), 3) := by decide +kernel
theorem i_125_15 : q_dec 125 15 = some (12, .iconst (-1), 1) := by decide +kernel
theorem i_125_16 : q_dec 125 16 = some (12, .ireturn, 1) := by decide +kernel
theorem i_125_17 : q_dec 125 17 = some (12, .aload_n 0, 1) := by decide +kernel
theorem i_125_18 : q_dec 125 18 = some (12, .iload_n 2, 1) := by decide +kernel
theorem i_125_19 : q_dec 125 19 = some (12, .aload_n 0, 1) := by decide +kernel
theorem i_125_20 : q_dec 125 20 = some (12, .getfield 167, 3) := by decide +kernel
theorem i_125_23 : q_dec 125 23 = some (12, .invokevirtual 213, 3) := by decide +kernel
theorem i_125_26 : q_dec 125 26 = some (12, .bipush 17, 2) := by decide +kernel
theorem i_125_28 : q_dec 125 28 = some (12, .iload_n 1, 1) := by decide +kernel
theorem i_125_29 : q_dec 125 29 = some (12, .imul, 1) := by decide +kernel
theorem i_125_30 : q_dec 125 30 = some (12, .bipush 16, 2) := by decide +kernel
theorem i_125_32 : q_dec 125 32 = some (12, .iadd, 1) := by decide +kernel
theorem i_125_33 : q_dec 125 33 = some (12, .istore 4, 2) := by decide +kernel
theorem i_125_35 : q_dec 125 35 = some (12, .aload_n 0, 1) := by decide +kernel
theorem i_125_36 : q_dec 125 36 = some (12, .getfield 45, 3) := by decide +kernel
theorem i_125_39 : q_dec 125 39 = some (12, .iload 4, 2) := by decide +kernel
theorem i_125_41 : q_dec 125 41 = some (12, .iaload, 1) := by decide +kernel
theorem i_125_42 : q_dec 125 42 = some (12, .ldc 202, 2) := by decide +kernel
theorem i_125_44 : q_dec 125 44 = some (12, .if_icmp .lt (6), 3) := by decide +kernel
theorem i_125_47 : q_dec 125 47 = some (12, .bipush (-9), 2) := by decide +kernel
theorem i_125_49 : q_dec 125 49 = some (12, .ireturn, 1) := by decide +kernel
theorem i_125_50 : q_dec 125 50 = some (12, .aload_n 0, 1) := by decide +kernel
theorem i_125_51 : q_dec 125 51 = some (12, .getfield 45, 3) := by decide +kernel
theorem i_125_54 : q_dec 125 54 = some (12, .iload 4, 2) := by decide +kernel
theorem i_125_56 : q_dec 125 56 = some (12, .iaload, 1) := by decide +kernel
theorem i_125_57 : q_dec 125 57 = some (12, .sipush 1000, 3) := by decide +kernel
theorem i_125_60 : q_dec 125 60 = some (12, .irem, 1) := by decide +kernel
theorem i_125_61 : q_dec 125 61 = some (12, .istore 5, 2) := by decide +kernel
theorem i_125_63 : q_dec 125 63 = some (12, .iload_n 3, 1) := by decide +kernel
theorem i_125_64 : q_dec 125 64 = some (12, .ifCond .ge (25), 3) := by decide +kernel
theorem i_125_67 : q_dec 125 67 = some (12, .iload_n 3, 1) := by decide +kernel
theorem i_125_68 : q_dec 125 68 = some (12, .iconst (-1), 1) := by decide +kernel
theorem i_125_69 : q_dec 125 69 = some (12, .if_icmp .ne (8), 3) := by decide +kernel
theorem i_125_72 : q_dec 125 72 = some (12, .iload 5, 2) := by decide +kernel
theorem i_125_74 : q_dec 125 74 = some (12, .goto 14, 3) := by decide +kernel
theorem i_125_77 : q_dec 125 77 = some (12, .aload_n 0, 1) := by decide +kernel
theorem i_125_78 : q_dec 125 78 = some (12, .getfield 45, 3) := by decide +kernel
theorem i_125_81 : q_dec 125 81 = some (12, .iload 4, 2) := by decide +kernel
theorem i_125_83 : q_dec 125 83 = some (12, .iaload, 1) := by decide +kernel
theorem i_125_84 : q_dec 125 84 = some (12, .sipush 1000, 3) := by decide +kernel
theorem i_125_87 : q_dec 125 87 = some (12, .idiv, 1) := by decide +kernel
theorem i_125_88 : q_dec 125 88 = some (12, .ireturn, 1) := by decide +kernel
theorem i_125_89 : q_dec 125 89 = some (12, .iload_n 3, 1) := by decide +kernel
theorem i_125_90 : q_dec 125 90 = some (12, .iload 5, 2) := by decide +kernel
theorem i_125_92 : q_dec 125 92 = some (12, .if_icmp .lt (6), 3) := by decide +kernel
theorem i_125_95 : q_dec 125 95 = some (12, .bipush (-5), 2) := by decide +kernel
theorem i_125_97 : q_dec 125 97 = some (12, .ireturn, 1) := by decide +kernel
theorem i_125_98 : q_dec 125 98 = some (12, .iconst 0, 1) := by decide +kernel
theorem i_125_99 : q_dec 125 99 = some (12, .istore 6, 2) := by decide +kernel
theorem i_125_101 : q_dec 125 101 = some (12, .iconst 0, 1) := by decide +kernel
theorem i_125_102 : q_dec 125 102 = some (12, .istore 7, 2) := by decide +kernel
theorem i_125_104 : q_dec 125 104 = some (12, .iload 7, 2) := by decide +kernel
theorem i_125_106 : q_dec 125 106 = some (12, .iload_n 3, 1) := by decide +kernel
theorem i_125_107 : q_dec 125 107 = some (12, .if_icmp .gt (43), 3) := by decide +kernel
theorem i_125_110 : q_dec 125 110 = some (12, .iconst 0, 1) := by decide +kernel
theorem i_125_111 : q_dec 125 111 = some (12, .istore 6, 2) := by decide +kernel
theorem i_125_113 : q_dec 125 113 = some (12, .aload_n 0, 1) := by decide +kernel
theorem i_125_114 : q_dec 125 114 = some (12, .iload 4, 2) := by decide +kernel
theorem i_125_116 : q_dec 125 116 = some (12, .iload 6, 2) := by decide +kernel
theorem i_125_118 : q_dec 125 118 = some (12, .invokevirtual 217, 3) := by decide +kernel
theorem i_125_121 : q_dec 125 121 = some (12, .ifCond .ne (9), 3) := by decide +kernel
theorem i_125_124 : q_dec 125 124 = some (12, .iinc 6 1, 3) := by decide +kernel
theorem i_125_127 : q_dec 125 127 = some (12, .goto (-14), 3) := by decide +kernel
theorem i_125_130 : q_dec 125 130 = some (12, .aload_n 0, 1) := by decide +kernel
theorem i_125_131 : q_dec 125 131 = some (12, .iload 4, 2) := by decide +kernel
theorem i_125_133 : q_dec 125 133 = some (12, .iload 6, 2) := by decide +kernel
theorem i_125_135 : q_dec 125 135 = some (12, .aload_n 0, 1) := by decide +kernel
theorem i_125_136 : q_dec 125 136 = some (12, .getfield 167, 3) := by decide +kernel
theorem i_125_139 : q_dec 125 139 = some (12, .invokevirtual 206, 3) := by decide +kernel
theorem i_125_142 : q_dec 125 142 = some (12, .istore 4, 2) := by decide +kernel
theorem i_125_144 : q_dec 125 144 = some (12, .iinc 7 1, 3) := by decide +kernel
theorem i_125_147 : q_dec 125 147 = some (12, .goto (-43), 3) := by decide +kernel
theorem i_125_150 : q_dec 125 150 = some (12, .iload 6, 2) := by decide +kernel
theorem i_125_152 : q_dec 125 152 = some (12, .ireturn, 1) := by decide +kernel
theorem i_126_0 : q_dec 126 0 = some (12, .aload_n 0, 1) := by decide +kernel
theorem i_126_1 : q_dec 126 1 = some (12, .iload_n 1, 1) := by decide +kernel
theorem i_126_2 : q_dec 126 2 = some (12, .invokevirtual 182, 3) := by decide +kernel
theorem i_126_5 : q_dec 126 5 = some (12, .ifCond .eq (15), 3) := by decide +kernel
theorem i_126_8 : q_dec 126 8 = some (12, .aload_n 0, 1) := by decide +kernel
theorem i_126_9 : q_dec 126 9 = some (12, .iload_n 2, 1) := by decide +kernel
theorem i_126_10 : q_dec 126 10 = some (12, .invokevirtual 182, 3) := by decide +kernel
theorem i_126_13 : q_dec 126 13 = some (12, .ifCond .eq (7), 3) := by decide +kernel
theorem i_126_16 : q_dec 126 16 = some (12, .iconst 1, 1) := by decide +kernel
theorem i_126_17 : q_dec 126 17 = some (12, .goto 4, 3) := by decide +kernel
theorem i_126_20 : q_dec 126 20 = some (12, .iconst 0, 1) := by decide +kernel
theorem i_126_21 : q_dec 126 21 = some (12, .ireturn, 1) := by decide +kernel
theorem i_127_0 : q_dec 127 0 = some (12, .bipush 17, 2) := by decide +kernel
theorem i_127_2 : q_dec 127 2 = some (12, .aload_n 0, 1) := by decide +kernel
theorem i_127_3 : q_dec 127 3 = some (12, .getfield 7, 3) := by decide +kernel
theorem i_127_6 : q_dec 127 6 = some (12, .imul, 1) := by decide +kernel
theorem i_127_7 : q_dec 127 7 = some (12, .aload_n 0, 1) := by decide +kernel
theorem i_127_8 : q_dec 127 8 = some (12, .getfield 13, 3) := by decide +kernel
theorem i_127_11 : q_dec 127 11 = some (12, .imul, 1) := by decide +kernel
theorem i_127_12 : q_dec 127 12 = some (12, .istore_n 3, 1) := by decide +kernel
theorem i_127_13 : q_dec 127 13 = some (12, .iconst 0, 1) := by decide +kernel
theorem i_127_14 : q_dec 127 14 = some (12, .istore 4, 2) := by decide +kernel
theorem i_127_16 : q_dec 127 16 = some (12, .iload 4, 2) := by decide +kernel
theorem i_127_18 : q_dec 127 18 = some (12, .iload_n 3, 1) := by decide +kernel
theorem i_127_19 : q_dec 127 19 = some (12, .if_icmp .ge (31), 3) := by decide +kernel
theorem i_127_22 : q_dec 127 22 = some (12, .aload_n 0, 1) := by decide +kernel
theorem i_127_23 : q_dec 127 23 = some (12, .getfield 45, 3) := by decide +kernel
theorem i_127_26 : q_dec 127 26 = some (12, .iload 4, 2) := by decide +kernel
theorem i_127_28 : q_dec 127 28 = some (12, .iload 4, 2) := by decide +kernel
theorem i_127_30 : q_dec 127 30 = some (12, .bipush 17, 2) := by decide +kernel
theorem i_127_32 : q_dec 127 32 = some (12, .idiv, 1) := by decide +kernel
theorem i_127_33 : q_dec 127 33 = some (12, .iload_n 1, 1) := by decide +kernel
theorem i_127_34 : q_dec 127 34 = some (12, .if_icmp .ne (7), 3) := by decide +kernel
theorem i_127_37 : q_dec 127 37 = some (12, .iconst 0, 1) := by decide +kernel
theorem i_127_38 : q_dec 127 38 = some (12, .goto 5, 3) := by decide +kernel
theorem i_127_41 : q_dec 127 41 = some (12, .ldc 202, 2) := by decide +kernel
theorem i_127_43 : q_dec 127 43 = some (12, .iastore, 1) := by decide +kernel
theorem i_127_44 : q_dec 127 44 = some (12, .iinc 4 1, 3) := by decide +kernel
theorem i_127_47 : q_dec 127 47 = some (12, .goto (-31), 3) := by decide +kernel
theorem i_127_50 : q_dec 127 50 = some (12, .iconst 1, 1) := by decide +kernel
theorem i_127_51 : q_dec 127 51 = some (12, .istore 4, 2) := by decide +kernel
theorem i_127_53 : q_dec 127 53 = some (12, .iload 4, 2) := by decide +kernel
theorem i_127_55 : q_dec 127 55 = some (12, .ifCond .eq (174), 3) := by decide +kernel
theorem i_127_58 : q_dec 127 58 = some (12, .iconst 0, 1) := by decide +kernel
theorem i_127_59 : q_dec 127 59 = some (12, .istore 4, 2) := by decide +kernel
theorem i_127_61 : q_dec 127 61 = some (12, .iload_n 3, 1) := by decide +kernel
theorem i_127_62 : q_dec 127 62 = some (12, .iconst 1, 1) := by decide +kernel
theorem i_127_63 : q_dec 127 63 = some (12, .isub, 1) := by decide +kernel
theorem i_127_64 : q_dec 127 64 = some (12, .istore 5, 2) := by decide +kernel
theorem i_127_66 : q_dec 127 66 = some (12, .iload 5, 2) := by decide +kernel
theorem i_127_68 : q_dec 127 68 = some (12, .ifCond .lt (158), 3) := by decide +kernel
theorem i_127_71 : q_dec 127 71 = some (12, .iload 5, 2) := by decide +kernel
theorem i_127_73 : q_dec 127 73 = some (12, .bipush 17, 2) := by decide +kernel
theorem i_127_75 : q_dec 127 75 = some (12, .idiv, 1) := by decide +kernel
theorem i_127_76 : q_dec 127 76 = some (12, .iload_n 1, 1) := by decide +kernel
theorem i_127_77 : q_dec 127 77 = some (12, .if_icmp .eq (143), 3) := by decide +kernel
theorem i_127_80 : q_dec 127 80 = some (12, .aload_n 0, 1) := by decide +kernel
theorem i_127_81 : q_dec 127 81 = some (12, .getfield 80, 3) := by decide +kernel
theorem i_127_84 : q_dec 127 84 = some (12, .iload 5, 2) := by decide +kernel
theorem i_127_86 : q_dec 127 86 = some (12, .bipush 17, 2) := by decide +kernel
theorem i_127_88 : q_dec 127 88 = some (12, .idiv, 1) := by decide +kernel
theorem i_127_89 : q_dec 127 89 = some (12, .invokestatic 83, 3) := by decide +kernel
theorem i_127_92 : q_dec 127 92 = some (12, .ifCond .ne (128), 3) := by decide +kernel
theorem i_127_95 : q_dec 127 95 = some (12, .aload_n 0, 1) := by decide +kernel
theorem i_127_96 : q_dec 127 96 = some (12, .getfield 45, 3) := by decide +kernel
theorem i_127_99 : q_dec 127 99 = some (12, .iload 5, 2) := by decide +kernel
theorem i_127_101 : q_dec 127 101 = some (12, .iaload, 1) := by decide +kernel
theorem i_127_102 : q_dec 127 102 = some (12, .istore 6, 2) := by decide +kernel
theorem i_127_104 : q_dec 127 104 = some (12, .iconst 0, 1) := by decide +kernel
theorem i_127_105 : q_dec 127 105 = some (12, .istore 7, 2) := by decide +kernel
theorem i_127_107 : q_dec 127 107 = some (12, .iload 7, 2) := by decide +kernel
theorem i_127_109 : q_dec 127 109 = some (12, .iconst 4, 1) := by decide +kernel
theorem i_127_110 : q_dec 127 110 = some (12, .if_icmp .ge (77), 3) := by decide +kernel
theorem i_127_113 : q_dec 127 113 = some (12, .aload_n 0, 1) := by decide +kernel
theorem i_127_114 : q_dec 127 114 = some (12, .iload 5, 2) := by decide +kernel
theorem i_127_116 : q_dec 127 116 = some (12, .iload 7, 2) := by decide +kernel
theorem i_127_118 : q_dec 127 118 = some (12, .invokevirtual 203, 3) := by decide +kernel
theorem i_127_121 : q_dec 127 121 = some (12, .istore 8, 2) := by decide +kernel
theorem i_127_123 : q_dec 127 123 = some (12, .iload 8, 2) := by decide +kernel
theorem i_127_125 : q_dec 127 125 = some (12, .iconst 4, 1) := by decide +kernel
theorem i_127_126 : q_dec 127 126 = some (12, .if_icmp .le (7), 3) := by decide +kernel
theorem i_127_129 : q_dec 127 129 = some (12, .iconst (-1), 1) := by decide +kernel
theorem i_127_130 : q_dec 127 130 = some (12, .goto 12, 3) := by decide +kernel
theorem i_127_133 : q_dec 127 133 = some (12, .aload_n 0, 1) := by decide +kernel
theorem i_127_134 : q_dec 127 134 = some (12, .iload 5, 2) := by decide +kernel
theorem i_127_136 : q_dec 127 136 = some (12, .iload 7, 2) := by decide +kernel
theorem i_127_138 : q_dec 127 138 = some (12, .iload_n 2, 1) := by decide +kernel
theorem i_127_139 : q_dec 127 139 = some (12, .invokevirtual 206, 3) := by decide +kernel
theorem i_127_142 : q_dec 127 142 = some (12, .istore 9, 2) := by decide +kernel
theorem i_127_144 : q_dec 127 144 = some (12, .iload 9, 2) := by decide +kernel
theorem i_127_146 : q_dec 127 146 = some (12, .ifCond .ge (8), 3) := by decide +kernel
theorem i_127_149 : q_dec 127 149 = some (12, .iload 6, 2) := by decide +kernel
theorem i_127_151 : q_dec 127 151 = some (12, .goto 28, 3) := by decide +kernel
theorem i_127_154 : q_dec 127 154 = some (12, .iload 6, 2) := by decide +kernel
theorem i_127_156 : q_dec 127 156 = some (12, .aload_n 0, 1) := by decide +kernel
theorem i_127_157 : q_dec 127 157 = some (12, .getfield 45, 3) := by decide +kernel
theorem i_127_160 : q_dec 127 160 = some (12, .iload 9, 2) := by decide +kernel
theorem i_127_162 : q_dec 127 162 = some (12, .iaload, 1) := by decide +kernel
theorem i_127_163 : q_dec 127 163 = some (12, .sipush 1000, 3) := by decide +kernel
end
section
theorem i_127_166 : q_dec 127 166 = some (12, .aload_n 0, 1) := by decide +kernel
theorem i_127_167 : q_dec 127 167 = some (12, .iload 8, 2) := by decide +kernel
theorem i_127_169 : q_dec 127 169 = some (12, .invokevirtual 194, 3) := by decide +kernel
theorem i_127_172 : q_dec 127 172 = some (12, .imul, 1) := by decide +kernel
theorem i_127_173 : q_dec 127 173 = some (12, .iadd, 1) := by decide +kernel
theorem i_127_174 : q_dec 127 174 = some (12, .iconst 1, 1) := by decide +kernel
theorem i_127_175 : q_dec 127 175 = some (12, .iadd, 1) := by decide +kernel
theorem i_127_176 : q_dec 127 176 = some (12, .invokestatic 108, 3) := by decide +kernel
theorem i_127_179 : q_dec 127 179 = some (12, .istore 6, 2) := by decide +kernel
theorem i_127_181 : q_dec 127 181 = some (12, .iinc 7 1, 3) := by decide +kernel
theorem i_127_184 : q_dec 127 184 = some (12, .goto (-77), 3) := by decide +kernel
theorem i_127_187 : q_dec 127 187 = some (12, .iload 4, 2) := by decide +kernel
theorem i_127_189 : q_dec 127 189 = some (12, .ifCond .ne (15), 3) := by decide +kernel
theorem i_127_192 : q_dec 127 192 = some (12, .iload 6, 2) := by decide +kernel
theorem i_127_194 : q_dec 127 194 = some (12, .aload_n 0, 1) := by decide +kernel
theorem i_127_195 : q_dec 127 195 = some (12, .getfield 45, 3) := by decide +kernel
theorem i_127_198 : q_dec 127 198 = some (12, .iload 5, 2) := by decide +kernel
theorem i_127_200 : q_dec 127 200 = some (12, .iaload, 1) := by decide +kernel
theorem i_127_201 : q_dec 127 201 = some (12, .if_icmp .ge (7), 3) := by decide +kernel
theorem i_127_204 : q_dec 127 204 = some (12, .iconst 1, 1) := by decide +kernel
theorem i_127_205 : q_dec 127 205 = some (12, .goto 4, 3) := by decide +kernel
theorem i_127_208 : q_dec 127 208 = some (12, .iconst 0, 1) := by decide +kernel
theorem i_127_209 : q_dec 127 209 = some (12, .istore 4, 2) := by decide +kernel
theorem i_127_211 : q_dec 127 211 = some (12, .aload_n 0, 1) := by decide +kernel
theorem i_127_212 : q_dec 127 212 = some (12, .getfield 45, 3) := by decide +kernel
theorem i_127_215 : q_dec 127 215 = some (12, .iload 5, 2) := by decide +kernel
theorem i_127_217 : q_dec 127 217 = some (12, .iload 6, 2) := by decide +kernel
theorem i_127_219 : q_dec 127 219 = some (12, .iastore, 1) := by decide +kernel
theorem i_127_220 : q_dec 127 220 = some (12, .iinc 5 (-1), 3) := by decide +kernel
theorem i_127_223 : q_dec 127 223 = some (12, .goto (-157), 3) := by decide +kernel
theorem i_127_226 : q_dec 127 226 = some (12, .goto (-173), 3) := by decide +kernel
theorem i_127_229 : q_dec 127 229 = some (12, .return_, 1) := by decide +kernel
theorem i_128_0 : q_dec 128 0 = some (12, .iload_n 1, 1) := by decide +kernel
theorem i_128_1 : q_dec 128 1 = some (12, .bipush 17, 2) := by decide +kernel
theorem i_128_3 : q_dec 128 3 = some (12, .irem, 1) := by decide +kernel
theorem i_128_4 : q_dec 128 4 = some (12, .istore_n 3, 1) := by decide +kernel
theorem i_128_5 : q_dec 128 5 = some (12, .iload_n 3, 1) := by decide +kernel
theorem i_128_6 : q_dec 128 6 = some (12, .bipush 16, 2) := by decide +kernel
theorem i_128_8 : q_dec 128 8 = some (12, .if_icmp .ge (18), 3) := by decide +kernel
theorem i_128_11 : q_dec 128 11 = some (12, .iload_n 3, 1) := by decide +kernel
theorem i_128_12 : q_dec 128 12 = some (12, .iconst 4, 1) := by decide +kernel
theorem i_128_13 : q_dec 128 13 = some (12, .idiv, 1) := by decide +kernel
theorem i_128_14 : q_dec 128 14 = some (12, .iload_n 2, 1) := by decide +kernel
theorem i_128_15 : q_dec 128 15 = some (12, .if_icmp .ne (11), 3) := by decide +kernel
theorem i_128_18 : q_dec 128 18 = some (12, .iload_n 3, 1) := by decide +kernel
theorem i_128_19 : q_dec 128 19 = some (12, .iconst 4, 1) := by decide +kernel
theorem i_128_20 : q_dec 128 20 = some (12, .irem, 1) := by decide +kernel
theorem i_128_21 : q_dec 128 21 = some (12, .iconst 2, 1) := by decide +kernel
theorem i_128_22 : q_dec 128 22 = some (12, .iadd, 1) := by decide +kernel
theorem i_128_23 : q_dec 128 23 = some (12, .goto 4, 3) := by decide +kernel
theorem i_128_26 : q_dec 128 26 = some (12, .iconst 1, 1) := by decide +kernel
theorem i_128_27 : q_dec 128 27 = some (12, .ireturn, 1) := by decide +kernel
theorem i_129_0 : q_dec 129 0 = some (12, .iload_n 1, 1) := by decide +kernel
theorem i_129_1 : q_dec 129 1 = some (12, .bipush 17, 2) := by decide +kernel
theorem i_129_3 : q_dec 129 3 = some (12, .idiv, 1) := by decide +kernel
theorem i_129_4 : q_dec 129 4 = some (12, .istore 4, 2) := by decide +kernel
theorem i_129_6 : q_dec 129 6 = some (12, .iload_n 1, 1) := by decide +kernel
theorem i_129_7 : q_dec 129 7 = some (12, .bipush 17, 2) := by decide +kernel
theorem i_129_9 : q_dec 129 9 = some (12, .irem, 1) := by decide +kernel
theorem i_129_10 : q_dec 129 10 = some (12, .istore 5, 2) := by decide +kernel
theorem i_129_12 : q_dec 129 12 = some (12, .aload_n 0, 1) := by decide +kernel
theorem i_129_13 : q_dec 129 13 = some (12, .iload 4, 2) := by decide +kernel
theorem i_129_15 : q_dec 129 15 = some (12, .iload_n 2, 1) := by decide +kernel
theorem i_129_16 : q_dec 129 16 = some (12, .invokevirtual 187, 3) := by decide +kernel
theorem i_129_19 : q_dec 129 19 = some (12, .istore 6, 2) := by decide +kernel
theorem i_129_21 : q_dec 129 21 = some (12, .iload 6, 2) := by decide +kernel
theorem i_129_23 : q_dec 129 23 = some (12, .ifCond .ge (5), 3) := by decide +kernel
theorem i_129_26 : q_dec 129 26 = some (12, .iconst (-1), 1) := by decide +kernel
theorem i_129_27 : q_dec 129 27 = some (12, .ireturn, 1) := by decide +kernel
theorem i_129_28 : q_dec 129 28 = some (12, .iload 5, 2) := by decide +kernel
theorem i_129_30 : q_dec 129 30 = some (12, .bipush 16, 2) := by decide +kernel
theorem i_129_32 : q_dec 129 32 = some (12, .if_icmp .ge (20), 3) := by decide +kernel
theorem i_129_35 : q_dec 129 35 = some (12, .iload 5, 2) := by decide +kernel
theorem i_129_37 : q_dec 129 37 = some (12, .iconst 4, 1) := by decide +kernel
theorem i_129_38 : q_dec 129 38 = some (12, .idiv, 1) := by decide +kernel
theorem i_129_39 : q_dec 129 39 = some (12, .iload_n 2, 1) := by decide +kernel
theorem i_129_40 : q_dec 129 40 = some (12, .if_icmp .ne (12), 3) := by decide +kernel
theorem i_129_43 : q_dec 129 43 = some (12, .iload 5, 2) := by decide +kernel
theorem i_129_45 : q_dec 129 45 = some (12, .iconst 4, 1) := by decide +kernel
theorem i_129_46 : q_dec 129 46 = some (12, .irem, 1) := by decide +kernel
theorem i_129_47 : q_dec 129 47 = some (12, .iconst 1, 1) := by decide +kernel
theorem i_129_48 : q_dec 129 48 = some (12, .iadd, 1) := by decide +kernel
theorem i_129_49 : q_dec 129 49 = some (12, .goto 4, 3) := by decide +kernel
theorem i_129_52 : q_dec 129 52 = some (12, .iconst 0, 1) := by decide +kernel
theorem i_129_53 : q_dec 129 53 = some (12, .istore 7, 2) := by decide +kernel
theorem i_129_55 : q_dec 129 55 = some (12, .bipush 17, 2) := by decide +kernel
theorem i_129_57 : q_dec 129 57 = some (12, .iload 6, 2) := by decide +kernel
theorem i_129_59 : q_dec 129 59 = some (12, .imul, 1) := by decide +kernel
theorem i_129_60 : q_dec 129 60 = some (12, .iload_n 3, 1) := by decide +kernel
theorem i_129_61 : q_dec 129 61 = some (12, .iload 6, 2) := by decide +kernel
theorem i_129_63 : q_dec 129 63 = some (12, .invokestatic 83, 3) := by decide +kernel
theorem i_129_66 : q_dec 129 66 = some (12, .ifCond .eq (8), 3) := by decide +kernel
theorem i_129_69 : q_dec 129 69 = some (12, .bipush 16, 2) := by decide +kernel
theorem i_129_71 : q_dec 129 71 = some (12, .goto 9, 3) := by decide +kernel
theorem i_129_74 : q_dec 129 74 = some (12, .iconst 4, 1) := by decide +kernel
theorem i_129_75 : q_dec 129 75 = some (12, .iload_n 2, 1) := by decide +kernel
theorem i_129_76 : q_dec 129 76 = some (12, .imul, 1) := by decide +kernel
theorem i_129_77 : q_dec 129 77 = some (12, .iload 7, 2) := by decide +kernel
theorem i_129_79 : q_dec 129 79 = some (12, .iadd, 1) := by decide +kernel
theorem i_129_80 : q_dec 129 80 = some (12, .iadd, 1) := by decide +kernel
theorem i_129_81 : q_dec 129 81 = some (12, .ireturn, 1) := by decide +kernel
theorem i_130_0 : q_dec 130 0 = some (12, .aload_n 0, 1) := by decide +kernel
theorem i_130_1 : q_dec 130 1 = some (12, .iload_n 1, 1) := by decide +kernel
theorem i_130_2 : q_dec 130 2 = some (12, .iload_n 2, 1) := by decide +kernel
theorem i_130_3 : q_dec 130 3 = some (12, .invokevirtual 203, 3) := by decide +kernel
theorem i_130_6 : q_dec 130 6 = some (12, .istore_n 3, 1) := by decide +kernel
theorem i_130_7 : q_dec 130 7 = some (12, .iload_n 3, 1) := by decide +kernel
theorem i_130_8 : q_dec 130 8 = some (12, .iconst 4, 1) := by decide +kernel
theorem i_130_9 : q_dec 130 9 = some (12, .if_icmp .le (7), 3) := by decide +kernel
theorem i_130_12 : q_dec 130 12 = some (12, .iconst (-1), 1) := by decide +kernel
theorem i_130_13 : q_dec 130 13 = some (12, .goto 13, 3) := by decide +kernel
theorem i_130_16 : q_dec 130 16 = some (12, .aload_n 0, 1) := by decide +kernel
theorem i_130_17 : q_dec 130 17 = some (12, .iload_n 1, 1) := by decide +kernel
theorem i_130_18 : q_dec 130 18 = some (12, .iload_n 2, 1) := by decide +kernel
theorem i_130_19 : q_dec 130 19 = some (12, .aload_n 0, 1) := by decide +kernel
theorem i_130_20 : q_dec 130 20 = some (12, .getfield 167, 3) := by decide +kernel
theorem i_130_23 : q_dec 130 23 = some (12, .invokevirtual 206, 3) := by decide +kernel
theorem i_130_26 : q_dec 130 26 = some (12, .istore 4, 2) := by decide +kernel
theorem i_130_28 : q_dec 130 28 = some (12, .iload 4, 2) := by decide +kernel
theorem i_130_30 : q_dec 130 30 = some (12, .ifCond .lt (35), 3) := by decide +kernel
theorem i_130_33 : q_dec 130 33 = some (12, .aload_n 0, 1) := by decide +kernel
theorem i_130_34 : q_dec 130 34 = some (12, .getfield 45, 3) := by decide +kernel
theorem i_130_37 : q_dec 130 37 = some (12, .iload 4, 2) := by decide +kernel
theorem i_130_39 : q_dec 130 39 = some (12, .iaload, 1) := by decide +kernel
theorem i_130_40 : q_dec 130 40 = some (12, .sipush 1000, 3) := by decide +kernel
theorem i_130_43 : q_dec 130 43 = some (12, .aload_n 0, 1) := by decide +kernel
theorem i_130_44 : q_dec 130 44 = some (12, .iload_n 3, 1) := by decide +kernel
theorem i_130_45 : q_dec 130 45 = some (12, .invokevirtual 194, 3) := by decide +kernel
theorem i_130_48 : q_dec 130 48 = some (12, .imul, 1) := by decide +kernel
theorem i_130_49 : q_dec 130 49 = some (12, .iadd, 1) := by decide +kernel
theorem i_130_50 : q_dec 130 50 = some (12, .iconst 1, 1) := by decide +kernel
theorem i_130_51 : q_dec 130 51 = some (12, .iadd, 1) := by decide +kernel
theorem i_130_52 : q_dec 130 52 = some (12, .aload_n 0, 1) := by decide +kernel
theorem i_130_53 : q_dec 130 53 = some (12, .getfield 45, 3) := by decide +kernel
theorem i_130_56 : q_dec 130 56 = some (12, .iload_n 1, 1) := by decide +kernel
theorem i_130_57 : q_dec 130 57 = some (12, .iaload, 1) := by decide +kernel
theorem i_130_58 : q_dec 130 58 = some (12, .if_icmp .ne (7), 3) := by decide +kernel
theorem i_130_61 : q_dec 130 61 = some (12, .iconst 1, 1) := by decide +kernel
theorem i_130_62 : q_dec 130 62 = some (12, .goto 4, 3) := by decide +kernel
theorem i_130_65 : q_dec 130 65 = some (12, .iconst 0, 1) := by decide +kernel
theorem i_130_66 : q_dec 130 66 = some (12, .ireturn, 1) := by decide +kernel
theorem i_131_0 : q_dec 131 0 = some (12, .aload_n 0, 1) := by decide +kernel
theorem i_131_1 : q_dec 131 1 = some (12, .iload_n 1, 1) := by decide +kernel
theorem i_131_2 : q_dec 131 2 = some (12, .iload_n 2, 1) := by decide +kernel
theorem i_131_3 : q_dec 131 3 = some (12, .invokevirtual 210, 3) := by decide +kernel
theorem i_131_6 : q_dec 131 6 = some (12, .ifCond .eq (7), 3) := by decide +kernel
theorem i_131_9 : q_dec 131 9 = some (12, .iload_n 3, 1) := by decide +kernel
theorem i_131_10 : q_dec 131 10 = some (12, .ifCond .ge (5), 3) := by decide +kernel
theorem i_131_13 : q_dec 131 13 = some (12, .iconst (-1), 1) := by decide +kernel
theorem i_131_14 : q_dec 131 14 = some (12, .ireturn, 1) := by decide +kernel
theorem i_131_15 : q_dec 131 15 = some (12, .aload_n 0, 1) := by decide +kernel
theorem i_131_16 : q_dec 131 16 = some (12, .iload_n 1, 1) := by decide +kernel
theorem i_131_17 : q_dec 131 17 = some (12, .iload_n 2, 1) := by decide +kernel
theorem i_131_18 : q_dec 131 18 = some (12, .invokevirtual 220, 3) := by decide +kernel
theorem i_131_21 : q_dec 131 21 = some (12, .iconst 0, 1) := by decide +kernel
theorem i_131_22 : q_dec 131 22 = some (12, .istore 4, 2) := by decide +kernel
theorem i_131_24 : q_dec 131 24 = some (12, .iload 4, 2) := by decide +kernel
theorem i_131_26 : q_dec 131 26 = some (12, .bipush 60, 2) := by decide +kernel
theorem i_131_28 : q_dec 131 28 = some (12, .if_icmp .gt (35), 3) := by decide +kernel
theorem i_131_31 : q_dec 131 31 = some (12, .aload_n 0, 1) := by decide +kernel
theorem i_131_32 : q_dec 131 32 = some (12, .getfield 51, 3) := by decide +kernel
theorem i_131_35 : q_dec 131 35 = some (12, .iload 4, 2) := by decide +kernel
theorem i_131_37 : q_dec 131 37 = some (12, .iaload, 1) := by decide +kernel
theorem i_131_38 : q_dec 131 38 = some (12, .ldc 202, 2) := by decide +kernel
theorem i_131_40 : q_dec 131 40 = some (12, .if_icmp .ge (17), 3) := by decide +kernel
theorem i_131_43 : q_dec 131 43 = some (12, .aload_n 0, 1) := by decide +kernel
theorem i_131_44 : q_dec 131 44 = some (12, .getfield 51, 3) := by decide +kernel
theorem i_131_47 : q_dec 131 47 = some (12, .iload 4, 2) := by decide +kernel
theorem i_131_49 : q_dec 131 49 = some (12, .iaload, 1) := by decide +kernel
theorem i_131_50 : q_dec 131 50 = some (12, .iload_n 3, 1) := by decide +kernel
theorem i_131_51 : q_dec 131 51 = some (12, .if_icmp .gt (6), 3) := by decide +kernel
theorem i_131_54 : q_dec 131 54 = some (12, .iload 4, 2) := by decide +kernel
theorem i_131_56 : q_dec 131 56 = some (12, .ireturn, 1) := by decide +kernel
theorem i_131_57 : q_dec 131 57 = some (12, .iinc 4 1, 3) := by decide +kernel
theorem i_131_60 : q_dec 131 60 = some (12, .goto (-36), 3) := by decide +kernel
theorem i_131_63 : q_dec 131 63 = some (12, .bipush (-9), 2) := by decide +kernel
theorem i_131_65 : q_dec 131 65 = some (12, .ireturn, 1) := by decide +kernel
theorem i_132_0 : q_dec 132 0 = some (12, .bipush 17, 2) := by decide +kernel
theorem i_132_2 : q_dec 132 2 = some (12, .aload_n 0, 1) := by decide +kernel
theorem i_132_3 : q_dec 132 3 = some (12, .getfield 7, 3) := by decide +kernel
theorem i_132_6 : q_dec 132 6 = some (12, .imul, 1) := by decide +kernel
theorem i_132_7 : q_dec 132 7 = some (12, .aload_n 0, 1) := by decide +kernel
theorem i_132_8 : q_dec 132 8 = some (12, .getfield 13, 3) := by decide +kernel
theorem i_132_11 : q_dec 132 11 = some (12, .imul, 1) := by decide +kernel
theorem i_132_12 : q_dec 132 12 = some (12, .istore_n 3, 1) := by decide +kernel
theorem i_132_13 : q_dec 132 13 = some (12, .iconst 0, 1) := by decide +kernel
theorem i_132_14 : q_dec 132 14 = some (12, .istore 4, 2) := by decide +kernel
theorem i_132_16 : q_dec 132 16 = some (12, .iload 4, 2) := by decide +kernel
theorem i_132_18 : q_dec 132 18 = some (12, .iload_n 3, 1) := by decide +kernel
theorem i_132_19 : q_dec 132 19 = some (12, .if_icmp .ge (34), 3) := by decide +kernel
theorem i_132_22 : q_dec 132 22 = some (12, .aload_n 0, 1) := by decide +kernel
theorem i_132_23 : q_dec 132 23 = some (12, .getfield 45, 3) := by decide +kernel
theorem i_132_26 : q_dec 132 26 = some (12, .iload 4, 2) := by decide +kernel
theorem i_132_28 : q_dec 132 28 = some (12, .iload 4, 2) := by decide +kernel
theorem i_132_30 : q_dec 132 30 = some (12, .bipush 17, 2) := by decide +kernel
theorem i_132_32 : q_dec 132 32 = some (12, .iload_n 1, 1) := by decide +kernel
theorem i_132_33 : q_dec 132 33 = some (12, .imul, 1) := by decide +kernel
theorem i_132_34 : q_dec 132 34 = some (12, .bipush 16, 2) := by decide +kernel
theorem i_132_36 : q_dec 132 36 = some (12, .iadd, 1) := by decide +kernel
theorem i_132_37 : q_dec 132 37 = some (12, .if_icmp .ne (7), 3) := by decide +kernel
theorem i_132_40 : q_dec 132 40 = some (12, .iconst 0, 1) := by decide +kernel
theorem i_132_41 : q_dec 132 41 = some (12, .goto 5, 3) := by decide +kernel
theorem i_132_44 : q_dec 132 44 = some (12, .ldc 202, 2) := by decide +kernel
theorem i_132_46 : q_dec 132 46 = some (12, .iastore, 1) := by decide +kernel
theorem i_132_47 : q_dec 132 47 = some (12, .iinc 4 1, 3) := by decide +kernel
theorem i_132_50 : q_dec 132 50 = some (12, .goto (-34), 3) := by decide +kernel
theorem i_132_53 : q_dec 132 53 = some (12, .iconst 0, 1) := by decide +kernel
theorem i_132_54 : q_dec 132 54 = some (12, .istore 4, 2) := by decide +kernel
theorem i_132_56 : q_dec 132 56 = some (12, .iload 4, 2) := by decide +kernel
theorem i_132_58 : q_dec 132 58 = some (12, .bipush 60, 2) := by decide +kernel
theorem i_132_60 : q_dec 132 60 = some (12, .if_icmp .gt (230), 3) := by decide +kernel
theorem i_132_63 : q_dec 132 63 = some (12, .aload_n 0, 1) := by decide +kernel
theorem i_132_64 : q_dec 132 64 = some (12, .getfield 51, 3) := by decide +kernel
theorem i_132_67 : q_dec 132 67 = some (12, .iload 4, 2) := by decide +kernel
theorem i_132_69 : q_dec 132 69 = some (12, .ldc 202, 2) := by decide +kernel
theorem i_132_71 : q_dec 132 71 = some (12, .iastore, 1) := by decide +kernel
theorem i_132_72 : q_dec 132 72 = some (12, .bipush 17, 2) := by decide +kernel
theorem i_132_74 : q_dec 132 74 = some (12, .iload_n 2, 1) := by decide +kernel
theorem i_132_75 : q_dec 132 75 = some (12, .imul, 1) := by decide +kernel
theorem i_132_76 : q_dec 132 76 = some (12, .istore 5, 2) := by decide +kernel
theorem i_132_78 : q_dec 132 78 = some (12, .iload 5, 2) := by decide +kernel
theorem i_132_80 : q_dec 132 80 = some (12, .bipush 17, 2) := by decide +kernel
theorem i_132_82 : q_dec 132 82 = some (12, .iload_n 2, 1) := by decide +kernel
theorem i_132_83 : q_dec 132 83 = some (12, .iconst 1, 1) := by decide +kernel
theorem i_132_84 : q_dec 132 84 = some (12, .iadd, 1) := by decide +kernel
theorem i_132_85 : q_dec 132 85 = some (12, .imul, 1) := by decide +kernel
theorem i_132_86 : q_dec 132 86 = some (12, .if_icmp .ge (33), 3) := by decide +kernel
theorem i_132_89 : q_dec 132 89 = some (12, .aload_n 0, 1) := by decide +kernel
theorem i_132_90 : q_dec 132 90 = some (12, .getfield 51, 3) := by decide +kernel
theorem i_132_93 : q_dec 132 93 = some (12, .iload 4, 2) := by decide +kernel
theorem i_132_95 : q_dec 132 95 = some (12, .aload_n 0, 1) := by decide +kernel
theorem i_132_96 : q_dec 132 96 = some (12, .getfield 51, 3) := by decide +kernel
theorem i_132_99 : q_dec 132 99 = some (12, .iload 4, 2) := by decide +kernel
theorem i_132_101 : q_dec 132 101 = some (12, .iaload, 1) := by decide +kernel
theorem i_132_102 : q_dec 132 102 = some (12, .aload_n 0, 1) := by decide +kernel
theorem i_132_103 : q_dec 132 103 = some (12, .getfield 45, 3) := by decide +kernel
theorem i_132_106 : q_dec 132 106 = some (12, .iload 5, 2) := by decide +kernel
theorem i_132_108 : q_dec 132 108 = some (12, .iaload, 1) := by decide +kernel
theorem i_132_109 : q_dec 132 109 = some (12, .invokestatic 108, 3) := by decide +kernel
theorem i_132_112 : q_dec 132 112 = some (12, .iastore, 1) := by decide +kernel
theorem i_132_113 : q_dec 132 113 = some (12, .iinc 5 1, 3) := by decide +kernel
theorem i_132_116 : q_dec 132 116 = some (12, .goto (-38), 3) := by decide +kernel
theorem i_132_119 : q_dec 132 119 = some (12, .iconst 0, 1) := by decide +kernel
theorem i_132_120 : q_dec 132 120 = some (12, .istore 5, 2) := by decide +kernel
theorem i_132_122 : q_dec 132 122 = some (12, .iload 5, 2) := by decide +kernel
theorem i_132_124 : q_dec 132 124 = some (12, .iload_n 3, 1) := by decide +kernel
theorem i_132_125 : q_dec 132 125 = some (12, .if_icmp .ge (18), 3) := by decide +kernel
theorem i_132_128 : q_dec 132 128 = some (12, .aload_n 0, 1) := by decide +kernel
theorem i_132_129 : q_dec 132 129 = some (12, .getfield 48, 3) := by decide +kernel
theorem i_132_132 : q_dec 132 132 = some (12, .iload 5, 2) := by decide +kernel
theorem i_132_134 : q_dec 132 134 = some (12, .ldc 202, 2) := by decide +kernel
theorem i_132_136 : q_dec 132 136 = some (12, .iastore, 1) := by decide +kernel
theorem i_132_137 : q_dec 132 137 = some (12, .iinc 5 1, 3) := by decide +kernel
theorem i_132_140 : q_dec 132 140 = some (12, .goto (-18), 3) := by decide +kernel
theorem i_132_143 : q_dec 132 143 = some (12, .iconst 0, 1) := by decide +kernel
theorem i_132_144 : q_dec 132 144 = some (12, .istore 5, 2) := by decide +kernel
theorem i_132_146 : q_dec 132 146 = some (12, .iload 5, 2) := by decide +kernel
theorem i_132_148 : q_dec 132 148 = some (12, .iload_n 3, 1) := by decide +kernel
theorem i_132_149 : q_dec 132 149 = some (12, .if_icmp .ge (106), 3) := by decide +kernel
theorem i_132_152 : q_dec 132 152 = some (12, .iconst 0, 1) := by decide +kernel
theorem i_132_153 : q_dec 132 153 = some (12, .istore 6, 2) := by decide +kernel
theorem i_132_155 : q_dec 132 155 = some (12, .iload 6, 2) := by decide +kernel
theorem i_132_157 : q_dec 132 157 = some (12, .iconst 4, 1) := by decide +kernel
theorem i_132_158 : q_dec 132 158 = some (12, .if_icmp .ge (91), 3) := by decide +kernel
theorem i_132_161 : q_dec 132 161 = some (12, .aload_n 0, 1) := by decide +kernel
theorem i_132_162 : q_dec 132 162 = some (12, .getfield 45, 3) := by decide +kernel
theorem i_132_165 : q_dec 132 165 = some (12, .iload 5, 2) := by decide +kernel
theorem i_132_167 : q_dec 132 167 = some (12, .iaload, 1) := by decide +kernel
theorem i_132_168 : q_dec 132 168 = some (12, .ldc 202, 2) := by decide +kernel
theorem i_132_170 : q_dec 132 170 = some (12, .if_icmp .ge (79), 3) := by decide +kernel
theorem i_132_173 : q_dec 132 173 = some (12, .aload_n 0, 1) := by decide +kernel
theorem i_132_174 : q_dec 132 174 = some (12, .iload 5, 2) := by decide +kernel
theorem i_132_176 : q_dec 132 176 = some (12, .iload 6, 2) := by decide +kernel
theorem i_132_178 : q_dec 132 178 = some (12, .invokevirtual 203, 3) := by decide +kernel
theorem i_132_181 : q_dec 132 181 = some (12, .istore 7, 2) := by decide +kernel
theorem i_132_183 : q_dec 132 183 = some (12, .iload 7, 2) := by decide +kernel
theorem i_132_185 : q_dec 132 185 = some (12, .iconst 4, 1) := by decide +kernel
theorem i_132_186 : q_dec 132 186 = some (12, .if_icmp .le (7), 3) := by decide +kernel
theorem i_132_189 : q_dec 132 189 = some (12, .iconst (-1), 1) := by decide +kernel
theorem i_132_190 : q_dec 132 190 = some (12, .goto 15, 3) := by decide +kernel
theorem i_132_193 : q_dec 132 193 = some (12, .aload_n 0, 1) := by decide +kernel
theorem i_132_194 : q_dec 132 194 = some (12, .iload 5, 2) := by decide +kernel
theorem i_132_196 : q_dec 132 196 = some (12, .iload 6, 2) := by decide +kernel
theorem i_132_198 : q_dec 132 198 = some (12, .aload_n 0, 1) := by decide +kernel
theorem i_132_199 : q_dec 132 199 = some (12, .getfield 167, 3) := by decide +kernel
theorem i_132_202 : q_dec 132 202 = some (12, .invokevirtual 206, 3) := by decide +kernel
theorem i_132_205 : q_dec 132 205 = some (12, .istore 8, 2) := by decide +kernel
theorem i_132_207 : q_dec 132 207 = some (12, .iload 8, 2) := by decide +kernel
theorem i_132_209 : q_dec 132 209 = some (12, .ifCond .lt (34), 3) := by decide +kernel
theorem i_132_212 : q_dec 132 212 = some (12, .aload_n 0, 1) := by decide +kernel
theorem i_132_213 : q_dec 132 213 = some (12, .getfield 48, 3) := by decide +kernel
theorem i_132_216 : q_dec 132 216 = some (12, .iload 8, 2) := by decide +kernel
theorem i_132_218 : q_dec 132 218 = some (12, .aload_n 0, 1) := by decide +kernel
theorem i_132_219 : q_dec 132 219 = some (12, .getfield 48, 3) := by decide +kernel
theorem i_132_222 : q_dec 132 222 = some (12, .iload 8, 2) := by decide +kernel
theorem i_132_224 : q_dec 132 224 = some (12, .iaload, 1) := by decide +kernel
theorem i_132_225 : q_dec 132 225 = some (12, .aload_n 0, 1) := by decide +kernel
theorem i_132_226 : q_dec 132 226 = some (12, .getfield 45, 3) := by decide +kernel
theorem i_132_229 : q_dec 132 229 = some (12, .iload 5, 2) := by decide +kernel
theorem i_132_231 : q_dec 132 231 = some (12, .iaload, 1) := by decide +kernel
theorem i_132_232 : q_dec 132 232 = some (12, .aload_n 0, 1) := by decide +kernel
theorem i_132_233 : q_dec 132 233 = some (12, .iload 7, 2) := by decide +kernel
theorem i_132_235 : q_dec 132 235 = some (12, .invokevirtual 194, 3) := by decide +kernel
theorem i_132_238 : q_dec 132 238 = some (12, .iadd, 1) := by decide +kernel
theorem i_132_239 : q_dec 132 239 = some (12, .invokestatic 108, 3) := by decide +kernel
theorem i_132_242 : q_dec 132 242 = some (12, .iastore, 1) := by decide +kernel
theorem i_132_243 : q_dec 132 243 = some (12, .iinc 6 1, 3) := by decide +kernel
theorem i_132_246 : q_dec 132 246 = some (12, .goto (-91), 3) := by decide +kernel
theorem i_132_249 : q_dec 132 249 = some (12, .iinc 5 1, 3) := by decide +kernel
theorem i_132_252 : q_dec 132 252 = some (12, .goto (-106), 3) := by decide +kernel
theorem i_132_255 : q_dec 132 255 = some (12, .iconst 0, 1) := by decide +kernel
theorem i_132_256 : q_dec 132 256 = some (12, .istore 5, 2) := by decide +kernel
theorem i_132_258 : q_dec 132 258 = some (12, .iload 5, 2) := by decide +kernel
theorem i_132_260 : q_dec 132 260 = some (12, .iload_n 3, 1) := by decide +kernel
theorem i_132_261 : q_dec 132 261 = some (12, .if_icmp .ge (23), 3) := by decide +kernel
theorem i_132_264 : q_dec 132 264 = some (12, .aload_n 0, 1) := by decide +kernel
theorem i_132_265 : q_dec 132 265 = some (12, .getfield 45, 3) := by decide +kernel
theorem i_132_268 : q_dec 132 268 = some (12, .iload 5, 2) := by decide +kernel
theorem i_132_270 : q_dec 132 270 = some (12, .aload_n 0, 1) := by decide +kernel
theorem i_132_271 : q_dec 132 271 = some (12, .getfield 48, 3) := by decide +kernel
theorem i_132_274 : q_dec 132 274 = some (12, .iload 5, 2) := by decide +kernel
theorem i_132_276 : q_dec 132 276 = some (12, .iaload, 1) := by decide +kernel
theorem i_132_277 : q_dec 132 277 = some (12, .iastore, 1) := by decide +kernel
theorem i_132_278 : q_dec 132 278 = some (12, .iinc 5 1, 3) := by decide +kernel
theorem i_132_281 : q_dec 132 281 = some (12, .goto (-23), 3) := by decide +kernel
theorem i_132_284 : q_dec 132 284 = some (12, .iinc 4 1, 3) := by decide +kernel
theorem i_132_287 : q_dec 132 287 = some (12, .goto (-231), 3) := by decide +kernel
theorem i_132_290 : q_dec 132 290 = some (12, .return_, 1) := by decide +kernel
theorem i_133_0 : q_dec 133 0 = some (12, .aload_n 0, 1) := by decide +kernel
theorem i_133_1 : q_dec 133 1 = some (12, .iload_n 1, 1) := by decide +kernel
theorem i_133_2 : q_dec 133 2 = some (12, .iload_n 2, 1) := by decide +kernel
theorem i_133_3 : q_dec 133 3 = some (12, .invokevirtual 210, 3) := by decide +kernel
theorem i_133_6 : q_dec 133 6 = some (12, .ifCond .eq (19), 3) := by decide +kernel
theorem i_133_9 : q_dec 133 9 = some (12, .iload_n 3, 1) := by decide +kernel
theorem i_133_10 : q_dec 133 10 = some (12, .iconst (-1), 1) := by decide +kernel
theorem i_133_11 : q_dec 133 11 = some (12, .if_icmp .lt (14), 3) := by decide +kernel
theorem i_133_14 : q_dec 133 14 = some (12, .iload 4, 2) := by decide +kernel
theorem i_133_16 : q_dec 133 16 = some (12, .i2l, 1) := by decide +kernel
theorem i_133_17 : q_dec 133 17 = some (12, .lconst 0, 1) := by decide +kernel
theorem i_133_18 : q_dec 133 18 = some (12, .lconst 1, 1) := by decide +kernel
theorem i_133_19 : q_dec 133 19 = some (12, .invokestatic 72, 3) := by decide +kernel
theorem i_133_22 : q_dec 133 22 = some (12, .ifCond .ne (5), 3) := by decide +kernel
theorem i_133_25 : q_dec 133 25 = some (12, .iconst (-1), 1) := by decide +kernel
theorem i_133_26 : q_dec 133 26 = some (12, .ireturn, 1) := by decide +kernel
theorem i_133_27 : q_dec 133 27 = some (12, .aload_n 0, 1) := by decide +kernel
theorem i_133_28 : q_dec 133 28 = some (12, .iload_n 1, 1) := by decide +kernel
theorem i_133_29 : q_dec 133 29 = some (12, .iload_n 2, 1) := by decide +kernel
theorem i_133_30 : q_dec 133 30 = some (12, .invokevirtual 220, 3) := by decide +kernel
theorem i_133_33 : q_dec 133 33 = some (12, .iconst 0, 1) := by decide +kernel
theorem i_133_34 : q_dec 133 34 = some (12, .istore 5, 2) := by decide +kernel
theorem i_133_36 : q_dec 133 36 = some (12, .ldc 202, 2) := by decide +kernel
theorem i_133_38 : q_dec 133 38 = some (12, .istore 6, 2) := by decide +kernel
theorem i_133_40 : q_dec 133 40 = some (12, .iconst 0, 1) := by decide +kernel
theorem i_133_41 : q_dec 133 41 = some (12, .istore 7, 2) := by decide +kernel
theorem i_133_43 : q_dec 133 43 = some (12, .iload 7, 2) := by decide +kernel
theorem i_133_45 : q_dec 133 45 = some (12, .bipush 60, 2) := by decide +kernel
theorem i_133_47 : q_dec 133 47 = some (12, .if_icmp .gt (57), 3) := by decide +kernel
theorem i_133_50 : q_dec 133 50 = some (12, .aload_n 0, 1) := by decide +kernel
theorem i_133_51 : q_dec 133 51 = some (12, .getfield 51, 3) := by decide +kernel
theorem i_133_54 : q_dec 133 54 = some (12, .iload 7, 2) := by decide +kernel
theorem i_133_56 : q_dec 133 56 = some (12, .iaload, 1) := by decide +kernel
theorem i_133_57 : q_dec 133 57 = some (12, .iload 6, 2) := by decide +kernel
theorem i_133_59 : q_dec 133 59 = some (12, .if_icmp .ge (39), 3) := by decide +kernel
theorem i_133_62 : q_dec 133 62 = some (12, .iload 5, 2) := by decide +kernel
theorem i_133_64 : q_dec 133 64 = some (12, .iload_n 3, 1) := by decide +kernel
theorem i_133_65 : q_dec 133 65 = some (12, .if_icmp .ne (21), 3) := by decide +kernel
theorem i_133_68 : q_dec 133 68 = some (12, .iload 4, 2) := by decide +kernel
theorem i_133_70 : q_dec 133 70 = some (12, .ifCond .ne (8), 3) := by decide +kernel
theorem i_133_73 : q_dec 133 73 = some (12, .iload 7, 2) := by decide +kernel
theorem i_133_75 : q_dec 133 75 = some (12, .goto 10, 3) := by decide +kernel
theorem i_133_78 : q_dec 133 78 = some (12, .aload_n 0, 1) := by decide +kernel
theorem i_133_79 : q_dec 133 79 = some (12, .getfield 51, 3) := by decide +kernel
theorem i_133_82 : q_dec 133 82 = some (12, .iload 7, 2) := by decide +kernel
theorem i_133_84 : q_dec 133 84 = some (12, .iaload, 1) := by decide +kernel
theorem i_133_85 : q_dec 133 85 = some (12, .ireturn, 1) := by decide +kernel
theorem i_133_86 : q_dec 133 86 = some (12, .aload_n 0, 1) := by decide +kernel
theorem i_133_87 : q_dec 133 87 = some (12, .getfield 51, 3) := by decide +kernel
theorem i_133_90 : q_dec 133 90 = some (12, .iload 7, 2) := by decide +kernel
theorem i_133_92 : q_dec 133 92 = some (12, .iaload, 1) := by decide +kernel
theorem i_133_93 : q_dec 133 93 = some (12, .istore 6, 2) := by decide +kernel
theorem i_133_95 : q_dec 133 95 = some (12, .iinc 5 1, 3) := by decide +kernel
theorem i_133_98 : q_dec 133 98 = some (12, .iinc 7 1, 3) := by decide +kernel
theorem i_133_101 : q_dec 133 101 = some (12, .goto (-58), 3) := by decide +kernel
theorem i_133_104 : q_dec 133 104 = some (12, .iload_n 3, 1) := by decide +kernel
theorem i_133_105 : q_dec 133 105 = some (12, .ifCond .ge (8), 3) := by decide +kernel
theorem i_133_108 : q_dec 133 108 = some (12, .iload 5, 2) := by decide +kernel
theorem i_133_110 : q_dec 133 110 = some (12, .goto 5, 3) := by decide +kernel
theorem i_133_113 : q_dec 133 113 = some (12, .bipush (-5), 2) := by decide +kernel
theorem i_133_115 : q_dec 133 115 = some (12, .ireturn, 1) := by decide +kernel
theorem i_134_0 : q_dec 134 0 = some (12, .aload_n 0, 1) := by decide +kernel
theorem i_134_1 : q_dec 134 1 = some (12, .iload_n 1, 1) := by decide +kernel
theorem i_134_2 : q_dec 134 2 = some (12, .iload_n 2, 1) := by decide +kernel
theorem i_134_3 : q_dec 134 3 = some (12, .invokevirtual 210, 3) := by decide +kernel
theorem i_134_6 : q_dec 134 6 = some (12, .ifCond .ne (5), 3) := by decide +kernel
theorem i_134_9 : q_dec 134 9 = some (12, .iconst (-1), 1) := by decide +kernel
theorem i_134_10 : q_dec 134 10 = some (12, .ireturn, 1) := by decide +kernel
theorem i_134_11 : q_dec 134 11 = some (12, .iconst 1, 1) := by decide +kernel
theorem i_134_12 : q_dec 134 12 = some (12, .iload_n 1, 1) := by decide +kernel
theorem i_134_13 : q_dec 134 13 = some (12, .ishl, 1) := by decide +kernel
theorem i_134_14 : q_dec 134 14 = some (12, .istore_n 3, 1) := by decide +kernel
theorem i_134_15 : q_dec 134 15 = some (12, .iconst (-1), 1) := by decide +kernel
theorem i_134_16 : q_dec 134 16 = some (12, .istore 4, 2) := by decide +kernel
theorem i_134_18 : q_dec 134 18 = some (12, .iload_n 3, 1) := by decide +kernel
theorem i_134_19 : q_dec 134 19 = some (12, .iload_n 2, 1) := by decide +kernel
theorem i_134_20 : q_dec 134 20 = some (12, .invokestatic 83, 3) := by decide +kernel
theorem i_134_23 : q_dec 134 23 = some (12, .ifCond .ne (108), 3) := by decide +kernel
theorem i_134_26 : q_dec 134 26 = some (12, .iload_n 3, 1) := by decide +kernel
theorem i_134_27 : q_dec 134 27 = some (12, .istore 5, 2) := by decide +kernel
theorem i_134_29 : q_dec 134 29 = some (12, .iconst 0, 1) := by decide +kernel
theorem i_134_30 : q_dec 134 30 = some (12, .istore 6, 2) := by decide +kernel
theorem i_134_32 : q_dec 134 32 = some (12, .iload 6, 2) := by decide +kernel
theorem i_134_34 : q_dec 134 34 = some (12, .aload_n 0, 1) := by decide +kernel
theorem i_134_35 : q_dec 134 35 = some (12, .getfield 7, 3) := by decide +kernel
theorem i_134_38 : q_dec 134 38 = some (12, .aload_n 0, 1) := by decide +kernel
theorem i_134_39 : q_dec 134 39 = some (12, .getfield 13, 3) := by decide +kernel
theorem i_134_42 : q_dec 134 42 = some (12, .imul, 1) := by decide +kernel
theorem i_134_43 : q_dec 134 43 = some (12, .if_icmp .ge (70), 3) := by decide +kernel
theorem i_134_46 : q_dec 134 46 = some (12, .iconst 0, 1) := by decide +kernel
theorem i_134_47 : q_dec 134 47 = some (12, .istore 7, 2) := by decide +kernel
theorem i_134_49 : q_dec 134 49 = some (12, .iload 7, 2) := by decide +kernel
theorem i_134_51 : q_dec 134 51 = some (12, .iconst 4, 1) := by decide +kernel
theorem i_134_52 : q_dec 134 52 = some (12, .if_icmp .ge (55), 3) := by decide +kernel
theorem i_134_55 : q_dec 134 55 = some (12, .iload_n 3, 1) := by decide +kernel
theorem i_134_56 : q_dec 134 56 = some (12, .iload 6, 2) := by decide +kernel
theorem i_134_58 : q_dec 134 58 = some (12, .invokestatic 83, 3) := by decide +kernel
theorem i_134_61 : q_dec 134 61 = some (12, .ifCond .eq (46), 3) := by decide +kernel
theorem i_134_64 : q_dec 134 64 = some (12, .aload_n 0, 1) := by decide +kernel
theorem i_134_65 : q_dec 134 65 = some (12, .iload 6, 2) := by decide +kernel
theorem i_134_67 : q_dec 134 67 = some (12, .iload 7, 2) := by decide +kernel
theorem i_134_69 : q_dec 134 69 = some (12, .invokevirtual 187, 3) := by decide +kernel
theorem i_134_72 : q_dec 134 72 = some (12, .istore 8, 2) := by decide +kernel
theorem i_134_74 : q_dec 134 74 = some (12, .iload 8, 2) := by decide +kernel
theorem i_134_76 : q_dec 134 76 = some (12, .ifCond .lt (25), 3) := by decide +kernel
theorem i_134_79 : q_dec 134 79 = some (12, .iload 5, 2) := by decide +kernel
theorem i_134_81 : q_dec 134 81 = some (12, .iconst 1, 1) := by decide +kernel
theorem i_134_82 : q_dec 134 82 = some (12, .iload 8, 2) := by decide +kernel
theorem i_134_84 : q_dec 134 84 = some (12, .ishl, 1) := by decide +kernel
theorem i_134_85 : q_dec 134 85 = some (12, .ior, 1) := by decide +kernel
theorem i_134_86 : q_dec 134 86 = some (12, .istore 5, 2) := by decide +kernel
theorem i_134_88 : q_dec 134 88 = some (12, .aload_n 0, 1) := by decide +kernel
theorem i_134_89 : q_dec 134 89 = some (12, .iload 8, 2) := by decide +kernel
theorem i_134_91 : q_dec 134 91 = some (12, .iload 7, 2) := by decide +kernel
theorem i_134_93 : q_dec 134 93 = some (12, .invokevirtual 187, 3) := by decide +kernel
theorem i_134_96 : q_dec 134 96 = some (12, .istore 8, 2) := by decide +kernel
theorem i_134_98 : q_dec 134 98 = some (12, .goto (-24), 3) := by decide +kernel
theorem i_134_101 : q_dec 134 101 = some (12, .iinc 7 1, 3) := by decide +kernel
theorem i_134_104 : q_dec 134 104 = some (12, .goto (-55), 3) := by decide +kernel
theorem i_134_107 : q_dec 134 107 = some (12, .iinc 6 1, 3) := by decide +kernel
theorem i_134_110 : q_dec 134 110 = some (12, .goto (-78), 3) := by decide +kernel
theorem i_134_113 : q_dec 134 113 = some (12, .iload 5, 2) := by decide +kernel
theorem i_134_115 : q_dec 134 115 = some (12, .iload_n 3, 1) := by decide +kernel
theorem i_134_116 : q_dec 134 116 = some (12, .if_icmp .ne (6), 3) := by decide +kernel
theorem i_134_119 : q_dec 134 119 = some (12, .bipush (-9), 2) := by decide +kernel
theorem i_134_121 : q_dec 134 121 = some (12, .ireturn, 1) := by decide +kernel
theorem i_134_122 : q_dec 134 122 = some (12, .iload 5, 2) := by decide +kernel
theorem i_134_124 : q_dec 134 124 = some (12, .istore_n 3, 1) := by decide +kernel
theorem i_134_125 : q_dec 134 125 = some (12, .iinc 4 1, 3) := by decide +kernel
theorem i_134_128 : q_dec 134 128 = some (12, .goto (-110), 3) := by decide +kernel
theorem i_134_131 : q_dec 134 131 = some (12, .iload 4, 2) := by decide +kernel
theorem i_134_133 : q_dec 134 133 = some (12, .ifCond .ge (7), 3) := by decide +kernel
theorem i_134_136 : q_dec 134 136 = some (12, .iconst 0, 1) := by decide +kernel
theorem i_134_137 : q_dec 134 137 = some (12, .goto 5, 3) := by decide +kernel
theorem i_134_140 : q_dec 134 140 = some (12, .iload 4, 2) := by decide +kernel
theorem i_134_142 : q_dec 134 142 = some (12, .ireturn, 1) := by decide +kernel
theorem i_135_0 : q_dec 135 0 = some (12, .aload_n 0, 1) := by decide +kernel
theorem i_135_1 : q_dec 135 1 = some (12, .iload_n 1, 1) := by decide +kernel
theorem i_135_2 : q_dec 135 2 = some (12, .invokevirtual 182, 3) := by decide +kernel
theorem i_135_5 : q_dec 135 5 = some (12, .ifCond .eq (43), 3) := by decide +kernel
theorem i_135_8 : q_dec 135 8 = some (12, .iload_n 2, 1) := by decide +kernel
theorem i_135_9 : q_dec 135 9 = some (12, .i2l, 1) := by decide +kernel
theorem i_135_10 : q_dec 135 10 = some (12, .lconst 0, 1) := by decide +kernel
theorem i_135_11 : q_dec 135 11 = some (12, .iconst 1, 1) := by decide +kernel
theorem i_135_12 : q_dec 135 12 = some (12, .aload_n 0, 1) := by decide +kernel
theorem i_135_13 : q_dec 135 13 = some (12, .getfield 7, 3) := by decide +kernel
theorem i_135_16 : q_dec 135 16 = some (12, .aload_n 0, 1) := by decide +kernel
theorem i_135_17 : q_dec 135 17 = some (12, .getfield 13, 3) := by decide +kernel
theorem i_135_20 : q_dec 135 20 = some (12, .imul, 1) := by decide +kernel
theorem i_135_21 : q_dec 135 21 = some (12, .ishl, 1) := by decide +kernel
theorem i_135_22 : q_dec 135 22 = some (12, .iconst 1, 1) := by decide +kernel
theorem i_135_23 : q_dec 135 23 = some (12, .isub, 1) := by decide +kernel
theorem i_135_24 : q_dec 135 24 = some (12, .i2l, 1) := by decide +kernel
theorem i_135_25 : q_dec 135 25 = some (12, .invokestatic 72, 3) := by decide +kernel
theorem i_135_28 : q_dec 135 28 = some (12, .ifCond .eq (20), 3) := by decide +kernel
theorem i_135_31 : q_dec 135 31 = some (12, .iload_n 2, 1) := by decide +kernel
theorem i_135_32 : q_dec 135 32 = some (12, .aload_n 0, 1) := by decide +kernel
theorem i_135_33 : q_dec 135 33 = some (12, .getfield 80, 3) := by decide +kernel
theorem i_135_36 : q_dec 135 36 = some (12, .iand, 1) := by decide +kernel
theorem i_135_37 : q_dec 135 37 = some (12, .ifCond .ne (11), 3) := by decide +kernel
theorem i_135_40 : q_dec 135 40 = some (12, .iload_n 2, 1) := by decide +kernel
theorem i_135_41 : q_dec 135 41 = some (12, .invokestatic 223, 3) := by decide +kernel
theorem i_135_44 : q_dec 135 44 = some (12, .iconst 4, 1) := by decide +kernel
theorem i_135_45 : q_dec 135 45 = some (12, .if_icmp .le (5), 3) := by decide +kernel
theorem i_135_48 : q_dec 135 48 = some (12, .iconst (-1), 1) := by decide +kernel
theorem i_135_49 : q_dec 135 49 = some (12, .ireturn, 1) := by decide +kernel
theorem i_135_50 : q_dec 135 50 = some (12, .iconst 0, 1) := by decide +kernel
theorem i_135_51 : q_dec 135 51 = some (12, .istore_n 3, 1) := by decide +kernel
theorem i_135_52 : q_dec 135 52 = some (12, .iconst 0, 1) := by decide +kernel
theorem i_135_53 : q_dec 135 53 = some (12, .istore 4, 2) := by decide +kernel
theorem i_135_55 : q_dec 135 55 = some (12, .iload 4, 2) := by decide +kernel
theorem i_135_57 : q_dec 135 57 = some (12, .aload_n 0, 1) := by decide +kernel
theorem i_135_58 : q_dec 135 58 = some (12, .getfield 7, 3) := by decide +kernel
theorem i_135_61 : q_dec 135 61 = some (12, .aload_n 0, 1) := by decide +kernel
theorem i_135_62 : q_dec 135 62 = some (12, .getfield 13, 3) := by decide +kernel
theorem i_135_65 : q_dec 135 65 = some (12, .imul, 1) := by decide +kernel
theorem i_135_66 : q_dec 135 66 = some (12, .if_icmp .ge (29), 3) := by decide +kernel
theorem i_135_69 : q_dec 135 69 = some (12, .iload_n 2, 1) := by decide +kernel
theorem i_135_70 : q_dec 135 70 = some (12, .iload 4, 2) := by decide +kernel
theorem i_135_72 : q_dec 135 72 = some (12, .invokestatic 83, 3) := by decide +kernel
theorem i_135_75 : q_dec 135 75 = some (12, .ifCond .eq (14), 3) := by decide +kernel
theorem i_135_78 : q_dec 135 78 = some (12, .aload_n 0, 1) := by decide +kernel
theorem i_135_79 : q_dec 135 79 = some (12, .getfield 54, 3) := by decide +kernel
theorem i_135_82 : q_dec 135 82 = some (12, .iload_n 3, 1) := by decide +kernel
theorem i_135_83 : q_dec 135 83 = some (12, .iload 4, 2) := by decide +kernel
theorem i_135_85 : q_dec 135 85 = some (12, .iastore, 1) := by decide +kernel
theorem i_135_86 : q_dec 135 86 = some (12, .iinc 3 1, 3) := by decide +kernel
theorem i_135_89 : q_dec 135 89 = some (12, .iinc 4 1, 3) := by decide +kernel
theorem i_135_92 : q_dec 135 92 = some (12, .goto (-37), 3) := by decide +kernel
theorem i_135_95 : q_dec 135 95 = some (12, .aload_n 0, 1) := by decide +kernel
theorem i_135_96 : q_dec 135 96 = some (12, .getfield 54, 3) := by decide +kernel
theorem i_135_99 : q_dec 135 99 = some (12, .iload_n 3, 1) := by decide +kernel
theorem i_135_100 : q_dec 135 100 = some (12, .iload_n 1, 1) := by decide +kernel
theorem i_135_101 : q_dec 135 101 = some (12, .iastore, 1) := by decide +kernel
theorem i_135_102 : q_dec 135 102 = some (12, .iconst 0, 1) := by decide +kernel
theorem i_135_103 : q_dec 135 103 = some (12, .istore 4, 2) := by decide +kernel
theorem i_135_105 : q_dec 135 105 = some (12, .iload 4, 2) := by decide +kernel
theorem i_135_107 : q_dec 135 107 = some (12, .iload_n 3, 1) := by decide +kernel
theorem i_135_108 : q_dec 135 108 = some (12, .if_icmp .gt (58), 3) := by decide +kernel
theorem i_135_111 : q_dec 135 111 = some (12, .iconst 0, 1) := by decide +kernel
theorem i_135_112 : q_dec 135 112 = some (12, .istore 5, 2) := by decide +kernel
theorem i_135_114 : q_dec 135 114 = some (12, .iload 5, 2) := by decide +kernel
theorem i_135_116 : q_dec 135 116 = some (12, .iload_n 3, 1) := by decide +kernel
theorem i_135_117 : q_dec 135 117 = some (12, .if_icmp .gt (43), 3) := by decide +kernel
theorem i_135_120 : q_dec 135 120 = some (12, .aload_n 0, 1) := by decide +kernel
theorem i_135_121 : q_dec 135 121 = some (12, .getfield 57, 3) := by decide +kernel
theorem i_135_124 : q_dec 135 124 = some (12, .iconst 5, 1) := by decide +kernel
theorem i_135_125 : q_dec 135 125 = some (12, .iload 4, 2) := by decide +kernel
theorem i_135_127 : q_dec 135 127 = some (12, .imul, 1) := by decide +kernel
theorem i_135_128 : q_dec 135 128 = some (12, .iload 5, 2) := by decide +kernel
theorem i_135_130 : q_dec 135 130 = some (12, .iadd, 1) := by decide +kernel
theorem i_135_131 : q_dec 135 131 = some (12, .aload_n 0, 1) := by decide +kernel
theorem i_135_132 : q_dec 135 132 = some (12, .aload_n 0, 1) := by decide +kernel
theorem i_135_133 : q_dec 135 133 = some (12, .getfield 54, 3) := by decide +kernel
theorem i_135_136 : q_dec 135 136 = some (12, .iload 4, 2) := by decide +kernel
theorem i_135_138 : q_dec 135 138 = some (12, .iaload, 1) := by decide +kernel
theorem i_135_139 : q_dec 135 139 = some (12, .aload_n 0, 1) := by decide +kernel
theorem i_135_140 : q_dec 135 140 = some (12, .getfield 54, 3) := by decide +kernel
theorem i_135_143 : q_dec 135 143 = some (12, .iload 5, 2) := by decide +kernel
theorem i_135_145 : q_dec 135 145 = some (12, .iaload, 1) := by decide +kernel
theorem i_135_146 : q_dec 135 146 = some (12, .aload_n 0, 1) := by decide +kernel
theorem i_135_147 : q_dec 135 147 = some (12, .getfield 167, 3) := by decide +kernel
theorem i_135_150 : q_dec 135 150 = some (12, .invokevirtual 226, 3) := by decide +kernel
theorem i_135_153 : q_dec 135 153 = some (12, .iastore, 1) := by decide +kernel
theorem i_135_154 : q_dec 135 154 = some (12, .iinc 5 1, 3) := by decide +kernel
theorem i_135_157 : q_dec 135 157 = some (12, .goto (-43), 3) := by decide +kernel
theorem i_135_160 : q_dec 135 160 = some (12, .iinc 4 1, 3) := by decide +kernel
theorem i_135_163 : q_dec 135 163 = some (12, .goto (-58), 3) := by decide +kernel
theorem i_135_166 : q_dec 135 166 = some (12, .iconst 0, 1) := by decide +kernel
theorem i_135_167 : q_dec 135 167 = some (12, .istore 4, 2) := by decide +kernel
theorem i_135_169 : q_dec 135 169 = some (12, .iload 4, 2) := by decide +kernel
theorem i_135_171 : q_dec 135 171 = some (12, .iconst 1, 1) := by decide +kernel
theorem i_135_172 : q_dec 135 172 = some (12, .iload_n 3, 1) := by decide +kernel
theorem i_135_173 : q_dec 135 173 = some (12, .ishl, 1) := by decide +kernel
theorem i_135_174 : q_dec 135 174 = some (12, .if_icmp .ge (125), 3) := by decide +kernel
theorem i_135_177 : q_dec 135 177 = some (12, .iconst 0, 1) := by decide +kernel
theorem i_135_178 : q_dec 135 178 = some (12, .istore 5, 2) := by decide +kernel
theorem i_135_180 : q_dec 135 180 = some (12, .iload 5, 2) := by decide +kernel
theorem i_135_182 : q_dec 135 182 = some (12, .iload_n 3, 1) := by decide +kernel
theorem i_135_183 : q_dec 135 183 = some (12, .if_icmp .gt (110), 3) := by decide +kernel
theorem i_135_186 : q_dec 135 186 = some (12, .iload 4, 2) := by decide +kernel
theorem i_135_188 : q_dec 135 188 = some (12, .ifCond .ne (17), 3) := by decide +kernel
theorem i_135_191 : q_dec 135 191 = some (12, .aload_n 0, 1) := by decide +kernel
theorem i_135_192 : q_dec 135 192 = some (12, .getfield 57, 3) := by decide +kernel
theorem i_135_195 : q_dec 135 195 = some (12, .iconst 5, 1) := by decide +kernel
theorem i_135_196 : q_dec 135 196 = some (12, .iload 5, 2) := by decide +kernel
theorem i_135_198 : q_dec 135 198 = some (12, .imul, 1) := by decide +kernel
theorem i_135_199 : q_dec 135 199 = some (12, .iload_n 3, 1) := by decide +kernel
theorem i_135_200 : q_dec 135 200 = some (12, .iadd, 1) := by decide +kernel
theorem i_135_201 : q_dec 135 201 = some (12, .iaload, 1) := by decide +kernel
theorem i_135_202 : q_dec 135 202 = some (12, .goto 5, 3) := by decide +kernel
theorem i_135_205 : q_dec 135 205 = some (12, .ldc 202, 2) := by decide +kernel
theorem i_135_207 : q_dec 135 207 = some (12, .istore 6, 2) := by decide +kernel
theorem i_135_209 : q_dec 135 209 = some (12, .iconst 0, 1) := by decide +kernel
theorem i_135_210 : q_dec 135 210 = some (12, .istore 7, 2) := by decide +kernel
theorem i_135_212 : q_dec 135 212 = some (12, .iload 7, 2) := by decide +kernel
theorem i_135_214 : q_dec 135 214 = some (12, .iload_n 3, 1) := by decide +kernel
theorem i_135_215 : q_dec 135 215 = some (12, .if_icmp .ge (58), 3) := by decide +kernel
theorem i_135_218 : q_dec 135 218 = some (12, .iload 4, 2) := by decide +kernel
theorem i_135_220 : q_dec 135 220 = some (12, .iload 7, 2) := by decide +kernel
theorem i_135_222 : q_dec 135 222 = some (12, .invokestatic 83, 3) := by decide +kernel
theorem i_135_225 : q_dec 135 225 = some (12, .ifCond .eq (42), 3) := by decide +kernel
theorem i_135_228 : q_dec 135 228 = some (12, .iload 6, 2) := by decide +kernel
theorem i_135_230 : q_dec 135 230 = some (12, .aload_n 0, 1) := by decide +kernel
theorem i_135_231 : q_dec 135 231 = some (12, .getfield 57, 3) := by decide +kernel
theorem i_135_234 : q_dec 135 234 = some (12, .iconst 5, 1) := by decide +kernel
theorem i_135_235 : q_dec 135 235 = some (12, .iload 5, 2) := by decide +kernel
theorem i_135_237 : q_dec 135 237 = some (12, .imul, 1) := by decide +kernel
theorem i_135_238 : q_dec 135 238 = some (12, .iload 7, 2) := by decide +kernel
theorem i_135_240 : q_dec 135 240 = some (12, .iadd, 1) := by decide +kernel
theorem i_135_241 : q_dec 135 241 = some (12, .iaload, 1) := by decide +kernel
theorem i_135_242 : q_dec 135 242 = some (12, .aload_n 0, 1) := by decide +kernel
theorem i_135_243 : q_dec 135 243 = some (12, .getfield 60, 3) := by decide +kernel
theorem i_135_246 : q_dec 135 246 = some (12, .iconst 5, 1) := by decide +kernel
theorem i_135_247 : q_dec 135 247 = some (12, .iload 4, 2) := by decide +kernel
theorem i_135_249 : q_dec 135 249 = some (12, .iconst 1, 1) := by decide +kernel
theorem i_135_250 : q_dec 135 250 = some (12, .iload 7, 2) := by decide +kernel
theorem i_135_252 : q_dec 135 252 = some (12, .ishl, 1) := by decide +kernel
theorem i_135_253 : q_dec 135 253 = some (12, .iconst (-1), 1) := by decide +kernel
theorem i_135_254 : q_dec 135 254 = some (12, .ixor, 1) := by decide +kernel
theorem i_135_255 : q_dec 135 255 = some (12, .iand, 1) := by decide +kernel
theorem i_135_256 : q_dec 135 256 = some (12, .imul, 1) := by decide +kernel
theorem i_135_257 : q_dec 135 257 = some (12, .iload 7, 2) := by decide +kernel
theorem i_135_259 : q_dec 135 259 = some (12, .iadd, 1) := by decide +kernel
theorem i_135_260 : q_dec 135 260 = some (12, .iaload, 1) := by decide +kernel
theorem i_135_261 : q_dec 135 261 = some (12, .iadd, 1) := by decide +kernel
theorem i_135_262 : q_dec 135 262 = some (12, .invokestatic 108, 3) := by decide +kernel
theorem i_135_265 : q_dec 135 265 = some (12, .istore 6, 2) := by decide +kernel
theorem i_135_267 : q_dec 135 267 = some (12, .iinc 7 1, 3) := by decide +kernel
theorem i_135_270 : q_dec 135 270 = some (12, .goto (-58), 3) := by decide +kernel
theorem i_135_273 : q_dec 135 273 = some (12, .aload_n 0, 1) := by decide +kernel
theorem i_135_274 : q_dec 135 274 = some (12, .getfield 60, 3) := by decide +kernel
theorem i_135_277 : q_dec 135 277 = some (12, .iconst 5, 1) := by decide +kernel
theorem i_135_278 : q_dec 135 278 = some (12, .iload 4, 2) := by decide +kernel
theorem i_135_280 : q_dec 135 280 = some (12, .imul, 1) := by decide +kernel
theorem i_135_281 : q_dec 135 281 = some (12, .iload 5, 2) := by decide +kernel
theorem i_135_283 : q_dec 135 283 = some (12, .iadd, 1) := by decide +kernel
theorem i_135_284 : q_dec 135 284 = some (12, .iload 6, 2) := by decide +kernel
theorem i_135_286 : q_dec 135 286 = some (12, .iastore, 1) := by decide +kernel
theorem i_135_287 : q_dec 135 287 = some (12, .iinc 5 1, 3) := by decide +kernel
theorem i_135_290 : q_dec 135 290 = some (12, .goto (-110), 3) := by decide +kernel
theorem i_135_293 : q_dec 135 293 = some (12, .iinc 4 1, 3) := by decide +kernel
theorem i_135_296 : q_dec 135 296 = some (12, .goto (-127), 3) := by decide +kernel
theorem i_135_299 : q_dec 135 299 = some (12, .aload_n 0, 1) := by decide +kernel
theorem i_135_300 : q_dec 135 300 = some (12, .getfield 60, 3) := by decide +kernel
theorem i_135_303 : q_dec 135 303 = some (12, .iconst 5, 1) := by decide +kernel
theorem i_135_304 : q_dec 135 304 = some (12, .iconst 1, 1) := by decide +kernel
theorem i_135_305 : q_dec 135 305 = some (12, .iload_n 3, 1) := by decide +kernel
theorem i_135_306 : q_dec 135 306 = some (12, .ishl, 1) := by decide +kernel
theorem i_135_307 : q_dec 135 307 = some (12, .iconst 1, 1) := by decide +kernel
theorem i_135_308 : q_dec 135 308 = some (12, .isub, 1) := by decide +kernel
theorem i_135_309 : q_dec 135 309 = some (12, .imul, 1) := by decide +kernel
theorem i_135_310 : q_dec 135 310 = some (12, .iload_n 3, 1) := by decide +kernel
theorem i_135_311 : q_dec 135 311 = some (12, .iadd, 1) := by decide +kernel
theorem i_135_312 : q_dec 135 312 = some (12, .iaload, 1) := by decide +kernel
theorem i_135_313 : q_dec 135 313 = some (12, .istore 4, 2) := by decide +kernel
theorem i_135_315 : q_dec 135 315 = some (12, .iload 4, 2) := by decide +kernel
theorem i_135_317 : q_dec 135 317 = some (12, .ldc 202, 2) := by decide +kernel
theorem i_135_319 : q_dec 135 319 = some (12, .if_icmp .lt (8), 3) := by decide +kernel
theorem i_135_322 : q_dec 135 322 = some (12, .bipush (-9), 2) := by decide +kernel
theorem i_135_324 : q_dec 135 324 = some (12, .goto 5, 3) := by decide +kernel
theorem i_135_327 : q_dec 135 327 = some (12, .iload 4, 2) := by decide +kernel
theorem i_135_329 : q_dec 135 329 = some (12, .ireturn, 1) := by decide +kernel
theorem i_136_0 : q_dec 136 0 = some (12, .iconst 0, 1) := by decide +kernel
theorem i_136_1 : q_dec 136 1 = some (12, .istore_n 1, 1) := by decide +kernel
theorem i_136_2 : q_dec 136 2 = some (12, .iconst 0, 1) := by decide +kernel
theorem i_136_3 : q_dec 136 3 = some (12, .istore_n 2, 1) := by decide +kernel
theorem i_136_4 : q_dec 136 4 = some (12, .iload_n 2, 1) := by decide +kernel
theorem i_136_5 : q_dec 136 5 = some (12, .bipush 20, 2) := by decide +kernel
theorem i_136_7 : q_dec 136 7 = some (12, .if_icmp .ge (17), 3) := by decide +kernel
theorem i_136_10 : q_dec 136 10 = some (12, .iload_n 1, 1) := by decide +kernel
theorem i_136_11 : q_dec 136 11 = some (12, .iload_n 0, 1) := by decide +kernel
theorem i_136_12 : q_dec 136 12 = some (12, .iload_n 2, 1) := by decide +kernel
theorem i_136_13 : q_dec 136 13 = some (12, .ishr, 1) := by decide +kernel
theorem i_136_14 : q_dec 136 14 = some (12, .iconst 1, 1) := by decide +kernel
theorem i_136_15 : q_dec 136 15 = some (12, .iand, 1) := by decide +kernel
theorem i_136_16 : q_dec 136 16 = some (12, .iadd, 1) := by decide +kernel
theorem i_136_17 : q_dec 136 17 = some (12, .istore_n 1, 1) := by decide +kernel
theorem i_136_18 : q_dec 136 18 = some (12, .iinc 2 1, 3) := by decide +kernel
theorem i_136_21 : q_dec 136 21 = some (12, .goto (-17), 3) := by decide +kernel
theorem i_136_24 : q_dec 136 24 = some (12, .iload_n 1, 1) := by decide +kernel
theorem i_136_25 : q_dec 136 25 = some (12, .ireturn, 1) := by decide +kernel
theorem i_137_0 : q_dec 137 0 = some (12, .aload_n 0, 1) := by decide +kernel
theorem i_137_1 : q_dec 137 1 = some (12, .iload_n 2, 1) := by decide +kernel
theorem i_137_2 : q_dec 137 2 = some (12, .iload_n 3, 1) := by decide +kernel
theorem i_137_3 : q_dec 137 3 = some (12, .invokevirtual 213, 3) := by decide +kernel
theorem i_137_6 : q_dec 137 6 = some (12, .aload_n 0, 1) := by decide +kernel
theorem i_137_7 : q_dec 137 7 = some (12, .getfield 45, 3) := by decide +kernel
theorem i_137_10 : q_dec 137 10 = some (12, .bipush 17, 2) := by decide +kernel
theorem i_137_12 : q_dec 137 12 = some (12, .iload_n 1, 1) := by decide +kernel
theorem i_137_13 : q_dec 137 13 = some (12, .imul, 1) := by decide +kernel
theorem i_137_14 : q_dec 137 14 = some (12, .bipush 16, 2) := by decide +kernel
theorem i_137_16 : q_dec 137 16 = some (12, .iadd, 1) := by decide +kernel
theorem i_137_17 : q_dec 137 17 = some (12, .iaload, 1) := by decide +kernel
theorem i_137_18 : q_dec 137 18 = some (12, .istore 4, 2) := by decide +kernel
theorem i_137_20 : q_dec 137 20 = some (12, .iload 4, 2) := by decide +kernel
theorem i_137_22 : q_dec 137 22 = some (12, .ldc 202, 2) := by decide +kernel
theorem i_137_24 : q_dec 137 24 = some (12, .if_icmp .lt (8), 3) := by decide +kernel
theorem i_137_27 : q_dec 137 27 = some (12, .ldc 202, 2) := by decide +kernel
theorem i_137_29 : q_dec 137 29 = some (12, .goto 9, 3) := by decide +kernel
theorem i_137_32 : q_dec 137 32 = some (12, .iload 4, 2) := by decide +kernel
theorem i_137_34 : q_dec 137 34 = some (12, .sipush 1000, 3) := by decide +kernel
theorem i_137_37 : q_dec 137 37 = some (12, .idiv, 1) := by decide +kernel
theorem i_137_38 : q_dec 137 38 = some (12, .ireturn, 1) := by decide +kernel
theorem i_138_0 : q_dec 138 0 = some (12, .aload_n 0, 1) := by decide +kernel
theorem i_138_1 : q_dec 138 1 = some (12, .iload_n 1, 1) := by decide +kernel
theorem i_138_2 : q_dec 138 2 = some (12, .iload_n 2, 1) := by decide +kernel
theorem i_138_3 : q_dec 138 3 = some (12, .invokevirtual 210, 3) := by decide +kernel
theorem i_138_6 : q_dec 138 6 = some (12, .ifCond .ne (5), 3) := by decide +kernel
theorem i_138_9 : q_dec 138 9 = some (12, .iconst (-1), 1) := by decide +kernel
theorem i_138_10 : q_dec 138 10 = some (12, .ireturn, 1) := by decide +kernel
theorem i_138_11 : q_dec 138 11 = some (12, .aload_n 0, 1) := by decide +kernel
theorem i_138_12 : q_dec 138 12 = some (12, .getfield 176, 3) := by decide +kernel
theorem i_138_15 : q_dec 138 15 = some (12, .bipush 6, 2) := by decide +kernel
theorem i_138_17 : q_dec 138 17 = some (12, .if_icmp .ne (6), 3) := by decide +kernel
theorem i_138_20 : q_dec 138 20 = some (12, .bipush (-3), 2) := by decide +kernel
theorem i_138_22 : q_dec 138 22 = some (12, .ireturn, 1) := by decide +kernel
theorem i_138_23 : q_dec 138 23 = some (12, .aload_n 0, 1) := by decide +kernel
theorem i_138_24 : q_dec 138 24 = some (12, .getfield 36, 3) := by decide +kernel
theorem i_138_27 : q_dec 138 27 = some (12, .aload_n 0, 1) := by decide +kernel
theorem i_138_28 : q_dec 138 28 = some (12, .getfield 176, 3) := by decide +kernel
theorem i_138_31 : q_dec 138 31 = some (12, .iload_n 1, 1) := by decide +kernel
theorem i_138_32 : q_dec 138 32 = some (12, .iastore, 1) := by decide +kernel
theorem i_138_33 : q_dec 138 33 = some (12, .aload_n 0, 1) := by decide +kernel
theorem i_138_34 : q_dec 138 34 = some (12, .getfield 39, 3) := by decide +kernel
theorem i_138_37 : q_dec 138 37 = some (12, .aload_n 0, 1) := by decide +kernel
theorem i_138_38 : q_dec 138 38 = some (12, .getfield 176, 3) := by decide +kernel
theorem i_138_41 : q_dec 138 41 = some (12, .iload_n 2, 1) := by decide +kernel
theorem i_138_42 : q_dec 138 42 = some (12, .iastore, 1) := by decide +kernel
theorem i_138_43 : q_dec 138 43 = some (12, .aload_n 0, 1) := by decide +kernel
theorem i_138_44 : q_dec 138 44 = some (12, .dup, 1) := by decide +kernel
theorem i_138_45 : q_dec 138 45 = some (12, .getfield 176, 3) := by decide +kernel
theorem i_138_48 : q_dec 138 48 = some (12, .iconst 1, 1) := by decide +kernel
theorem i_138_49 : q_dec 138 49 = some (12, .iadd, 1) := by decide +kernel
theorem i_138_50 : q_dec 138 50 = some (12, .putfield 176, 3) := by decide +kernel
theorem i_138_53 : q_dec 138 53 = some (12, .aload_n 0, 1) := by decide +kernel
theorem i_138_54 : q_dec 138 54 = some (12, .getfield 176, 3) := by decide +kernel
theorem i_138_57 : q_dec 138 57 = some (12, .ireturn, 1) := by decide +kernel
theorem i_139_0 : q_dec 139 0 = some (12, .aload_n 0, 1) := by decide +kernel
theorem i_139_1 : q_dec 139 1 = some (12, .getfield 176, 3) := by decide +kernel
theorem i_139_4 : q_dec 139 4 = some (12, .istore_n 1, 1) := by decide +kernel
theorem i_139_5 : q_dec 139 5 = some (12, .aload_n 0, 1) := by decide +kernel
theorem i_139_6 : q_dec 139 6 = some (12, .iconst 0, 1) := by decide +kernel
theorem i_139_7 : q_dec 139 7 = some (12, .putfield 176, 3) := by decide +kernel
theorem i_139_10 : q_dec 139 10 = some (12, .iload_n 1, 1) := by decide +kernel
theorem i_139_11 : q_dec 139 11 = some (12, .ireturn, 1) := by decide +kernel
theorem i_140_0 : q_dec 140 0 = some (12, .iload_n 1, 1) := by decide +kernel
theorem i_140_1 : q_dec 140 1 = some (12, .i2l, 1) := by decide +kernel
theorem i_140_2 : q_dec 140 2 = some (12, .lconst 0, 1) := by decide +kernel
theorem i_140_3 : q_dec 140 3 = some (12, .lconst 1, 1) := by decide +kernel
theorem i_140_4 : q_dec 140 4 = some (12, .invokestatic 72, 3) := by decide +kernel
theorem i_140_7 : q_dec 140 7 = some (12, .ifCond .ne (5), 3) := by decide +kernel
theorem i_140_10 : q_dec 140 10 = some (12, .iconst (-1), 1) := by decide +kernel
theorem i_140_11 : q_dec 140 11 = some (12, .ireturn, 1) := by decide +kernel
theorem i_140_12 : q_dec 140 12 = some (12, .bipush (-9), 2) := by decide +kernel
theorem i_140_14 : q_dec 140 14 = some (12, .istore_n 2, 1) := by decide +kernel
theorem i_140_15 : q_dec 140 15 = some (12, .ldc 202, 2) := by decide +kernel
theorem i_140_17 : q_dec 140 17 = some (12, .istore_n 3, 1) := by decide +kernel
theorem i_140_18 : q_dec 140 18 = some (12, .iconst 0, 1) := by decide +kernel
theorem i_140_19 : q_dec 140 19 = some (12, .istore 4, 2) := by decide +kernel
theorem i_140_21 : q_dec 140 21 = some (12, .iload 4, 2) := by decide +kernel
theorem i_140_23 : q_dec 140 23 = some (12, .aload_n 0, 1) := by decide +kernel
theorem i_140_24 : q_dec 140 24 = some (12, .getfield 7, 3) := by decide +kernel
theorem i_140_27 : q_dec 140 27 = some (12, .aload_n 0, 1) := by decide +kernel
theorem i_140_28 : q_dec 140 28 = some (12, .getfield 13, 3) := by decide +kernel
theorem i_140_31 : q_dec 140 31 = some (12, .imul, 1) := by decide +kernel
theorem i_140_32 : q_dec 140 32 = some (12, .if_icmp .ge (104), 3) := by decide +kernel
theorem i_140_35 : q_dec 140 35 = some (12, .aload_n 0, 1) := by decide +kernel
theorem i_140_36 : q_dec 140 36 = some (12, .getfield 80, 3) := by decide +kernel
theorem i_140_39 : q_dec 140 39 = some (12, .aload_n 0, 1) := by decide +kernel
theorem i_140_40 : q_dec 140 40 = some (12, .getfield 167, 3) := by decide +kernel
theorem i_140_43 : q_dec 140 43 = some (12, .ior, 1) := by decide +kernel
theorem i_140_44 : q_dec 140 44 = some (12, .iload 4, 2) := by decide +kernel
theorem i_140_46 : q_dec 140 46 = some (12, .invokestatic 83, 3) := by decide +kernel
theorem i_140_49 : q_dec 140 49 = some (12, .ifCond .ne (81), 3) := by decide +kernel
theorem i_140_52 : q_dec 140 52 = some (12, .iconst 0, 1) := by decide +kernel
theorem i_140_53 : q_dec 140 53 = some (12, .istore 5, 2) := by decide +kernel
theorem i_140_55 : q_dec 140 55 = some (12, .iconst 0, 1) := by decide +kernel
theorem i_140_56 : q_dec 140 56 = some (12, .istore 6, 2) := by decide +kernel
theorem i_140_58 : q_dec 140 58 = some (12, .iload 6, 2) := by decide +kernel
theorem i_140_60 : q_dec 140 60 = some (12, .aload_n 0, 1) := by decide +kernel
theorem i_140_61 : q_dec 140 61 = some (12, .getfield 176, 3) := by decide +kernel
theorem i_140_64 : q_dec 140 64 = some (12, .if_icmp .ge (46), 3) := by decide +kernel
theorem i_140_67 : q_dec 140 67 = some (12, .ldc 202, 2) := by decide +kernel
theorem i_140_69 : q_dec 140 69 = some (12, .iload 5, 2) := by decide +kernel
theorem i_140_71 : q_dec 140 71 = some (12, .aload_n 0, 1) := by decide +kernel
theorem i_140_72 : q_dec 140 72 = some (12, .aload_n 0, 1) := by decide +kernel
theorem i_140_73 : q_dec 140 73 = some (12, .getfield 36, 3) := by decide +kernel
theorem i_140_76 : q_dec 140 76 = some (12, .iload 6, 2) := by decide +kernel
theorem i_140_78 : q_dec 140 78 = some (12, .iaload, 1) := by decide +kernel
theorem i_140_79 : q_dec 140 79 = some (12, .aload_n 0, 1) := by decide +kernel
theorem i_140_80 : q_dec 140 80 = some (12, .getfield 39, 3) := by decide +kernel
theorem i_140_83 : q_dec 140 83 = some (12, .iload 6, 2) := by decide +kernel
theorem i_140_85 : q_dec 140 85 = some (12, .iaload, 1) := by decide +kernel
theorem i_140_86 : q_dec 140 86 = some (12, .aload_n 0, 1) := by decide +kernel
theorem i_140_87 : q_dec 140 87 = some (12, .getfield 167, 3) := by decide +kernel
theorem i_140_90 : q_dec 140 90 = some (12, .iconst 1, 1) := by decide +kernel
theorem i_140_91 : q_dec 140 91 = some (12, .iload 4, 2) := by decide +kernel
theorem i_140_93 : q_dec 140 93 = some (12, .ishl, 1) := by decide +kernel
theorem i_140_94 : q_dec 140 94 = some (12, .ior, 1) := by decide +kernel
theorem i_140_95 : q_dec 140 95 = some (12, .invokevirtual 226, 3) := by decide +kernel
theorem i_140_98 : q_dec 140 98 = some (12, .iadd, 1) := by decide +kernel
theorem i_140_99 : q_dec 140 99 = some (12, .invokestatic 108, 3) := by decide +kernel
theorem i_140_102 : q_dec 140 102 = some (12, .istore 5, 2) := by decide +kernel
theorem i_140_104 : q_dec 140 104 = some (12, .iinc 6 1, 3) := by decide +kernel
theorem i_140_107 : q_dec 140 107 = some (12, .goto (-49), 3) := by decide +kernel
theorem i_140_110 : q_dec 140 110 = some (12, .iload 5, 2) := by decide +kernel
theorem i_140_112 : q_dec 140 112 = some (12, .iload_n 3, 1) := by decide +kernel
theorem i_140_113 : q_dec 140 113 = some (12, .if_icmp .ge (8), 3) := by decide +kernel
theorem i_140_116 : q_dec 140 116 = some (12, .iload 4, 2) := by decide +kernel
theorem i_140_118 : q_dec 140 118 = some (12, .goto 4, 3) := by decide +kernel
theorem i_140_121 : q_dec 140 121 = some (12, .iload_n 2, 1) := by decide +kernel
theorem i_140_122 : q_dec 140 122 = some (12, .istore_n 2, 1) := by decide +kernel
theorem i_140_123 : q_dec 140 123 = some (12, .iload_n 3, 1) := by decide +kernel
theorem i_140_124 : q_dec 140 124 = some (12, .iload 5, 2) := by decide +kernel
theorem i_140_126 : q_dec 140 126 = some (12, .invokestatic 108, 3) := by decide +kernel
theorem i_140_129 : q_dec 140 129 = some (12, .istore_n 3, 1) := by decide +kernel
theorem i_140_130 : q_dec 140 130 = some (12, .iinc 4 1, 3) := by decide +kernel
theorem i_140_133 : q_dec 140 133 = some (12, .goto (-112), 3) := by decide +kernel
theorem i_140_136 : q_dec 140 136 = some (12, .iload_n 2, 1) := by decide +kernel
theorem i_140_137 : q_dec 140 137 = some (12, .bipush (-9), 2) := by decide +kernel
theorem i_140_139 : q_dec 140 139 = some (12, .if_icmp .ne (8), 3) := by decide +kernel
theorem i_140_142 : q_dec 140 142 = some (12, .bipush (-9), 2) := by decide +kernel
theorem i_140_144 : q_dec 140 144 = some (12, .goto 12, 3) := by decide +kernel
theorem i_140_147 : q_dec 140 147 = some (12, .iload_n 1, 1) := by decide +kernel
theorem i_140_148 : q_dec 140 148 = some (12, .ifCond .ne (7), 3) := by decide +kernel
theorem i_140_151 : q_dec 140 151 = some (12, .iload_n 2, 1) := by decide +kernel
theorem i_140_152 : q_dec 140 152 = some (12, .goto 4, 3) := by decide +kernel
theorem i_140_155 : q_dec 140 155 = some (12, .iload_n 3, 1) := by decide +kernel
theorem i_140_156 : q_dec 140 156 = some (12, .ireturn, 1) := by decide +kernel
theorem i_141_0 : q_dec 141 0 = some (12, .aload_n 0, 1) := by decide +kernel
theorem i_141_1 : q_dec 141 1 = some (12, .iload_n 1, 1) := by decide +kernel
theorem i_141_2 : q_dec 141 2 = some (12, .iload_n 2, 1) := by decide +kernel
theorem i_141_3 : q_dec 141 3 = some (12, .invokevirtual 210, 3) := by decide +kernel
theorem i_141_6 : q_dec 141 6 = some (12, .ifCond .eq (20), 3) := by decide +kernel
theorem i_141_9 : q_dec 141 9 = some (12, .iload_n 3, 1) := by decide +kernel
theorem i_141_10 : q_dec 141 10 = some (12, .i2l, 1) := by decide +kernel
theorem i_141_11 : q_dec 141 11 = some (12, .lconst 0, 1) := by decide +kernel
theorem i_141_12 : q_dec 141 12 = some (12, .ldc2_w 87, 3) := by decide +kernel
theorem i_141_15 : q_dec 141 15 = some (12, .invokestatic 72, 3) := by decide +kernel
theorem i_141_18 : q_dec 141 18 = some (12, .ifCond .eq (8), 3) := by decide +kernel
theorem i_141_21 : q_dec 141 21 = some (12, .iload 4, 2) := by decide +kernel
theorem i_141_23 : q_dec 141 23 = some (12, .ifCond .ge (5), 3) := by decide +kernel
theorem i_141_26 : q_dec 141 26 = some (12, .iconst (-1), 1) := by decide +kernel
theorem i_141_27 : q_dec 141 27 = some (12, .ireturn, 1) := by decide +kernel
theorem i_141_28 : q_dec 141 28 = some (12, .iconst 0, 1) := by decide +kernel
theorem i_141_29 : q_dec 141 29 = some (12, .istore 5, 2) := by decide +kernel
theorem i_141_31 : q_dec 141 31 = some (12, .iconst 0, 1) := by decide +kernel
theorem i_141_32 : q_dec 141 32 = some (12, .istore 6, 2) := by decide +kernel
theorem i_141_34 : q_dec 141 34 = some (12, .aload_n 0, 1) := by decide +kernel
theorem i_141_35 : q_dec 141 35 = some (12, .getfield 66, 3) := by decide +kernel
theorem i_141_38 : q_dec 141 38 = some (12, .iconst 0, 1) := by decide +kernel
theorem i_141_39 : q_dec 141 39 = some (12, .bipush 17, 2) := by decide +kernel
theorem i_141_41 : q_dec 141 41 = some (12, .iload_n 1, 1) := by decide +kernel
theorem i_141_42 : q_dec 141 42 = some (12, .imul, 1) := by decide +kernel
theorem i_141_43 : q_dec 141 43 = some (12, .bipush 16, 2) := by decide +kernel
theorem i_141_45 : q_dec 141 45 = some (12, .iadd, 1) := by decide +kernel
theorem i_141_46 : q_dec 141 46 = some (12, .iastore, 1) := by decide +kernel
theorem i_141_47 : q_dec 141 47 = some (12, .aload_n 0, 1) := by decide +kernel
theorem i_141_48 : q_dec 141 48 = some (12, .getfield 69, 3) := by decide +kernel
theorem i_141_51 : q_dec 141 51 = some (12, .iconst 0, 1) := by decide +kernel
theorem i_141_52 : q_dec 141 52 = some (12, .iconst 0, 1) := by decide +kernel
theorem i_141_53 : q_dec 141 53 = some (12, .iastore, 1) := by decide +kernel
theorem i_141_54 : q_dec 141 54 = some (12, .aload_n 0, 1) := by decide +kernel
theorem i_141_55 : q_dec 141 55 = some (12, .getfield 63, 3) := by decide +kernel
theorem i_141_58 : q_dec 141 58 = some (12, .iconst 0, 1) := by decide +kernel
theorem i_141_59 : q_dec 141 59 = some (12, .iconst 0, 1) := by decide +kernel
theorem i_141_60 : q_dec 141 60 = some (12, .iastore, 1) := by decide +kernel
theorem i_141_61 : q_dec 141 61 = some (12, .iload 6, 2) := by decide +kernel
theorem i_141_63 : q_dec 141 63 = some (12, .ifCond .lt (205), 3) := by decide +kernel
theorem i_141_66 : q_dec 141 66 = some (12, .iload 6, 2) := by decide +kernel
theorem i_141_68 : q_dec 141 68 = some (12, .iload_n 3, 1) := by decide +kernel
theorem i_141_69 : q_dec 141 69 = some (12, .if_icmp .eq (14), 3) := by decide +kernel
theorem i_141_72 : q_dec 141 72 = some (12, .aload_n 0, 1) := by decide +kernel
theorem i_141_73 : q_dec 141 73 = some (12, .getfield 63, 3) := by decide +kernel
theorem i_141_76 : q_dec 141 76 = some (12, .iload 6, 2) := by decide +kernel
theorem i_141_78 : q_dec 141 78 = some (12, .iaload, 1) := by decide +kernel
theorem i_141_79 : q_dec 141 79 = some (12, .iconst 4, 1) := by decide +kernel
theorem i_141_80 : q_dec 141 80 = some (12, .if_icmp .ne (67), 3) := by decide +kernel
theorem i_141_83 : q_dec 141 83 = some (12, .iload 5, 2) := by decide +kernel
theorem i_141_85 : q_dec 141 85 = some (12, .iload 6, 2) := by decide +kernel
theorem i_141_87 : q_dec 141 87 = some (12, .iload_n 3, 1) := by decide +kernel
theorem i_141_88 : q_dec 141 88 = some (12, .if_icmp .ne (33), 3) := by decide +kernel
theorem i_141_91 : q_dec 141 91 = some (12, .aload_n 0, 1) := by decide +kernel
theorem i_141_92 : q_dec 141 92 = some (12, .getfield 66, 3) := by decide +kernel
theorem i_141_95 : q_dec 141 95 = some (12, .iload 6, 2) := by decide +kernel
theorem i_141_97 : q_dec 141 97 = some (12, .iaload, 1) := by decide +kernel
theorem i_141_98 : q_dec 141 98 = some (12, .bipush 17, 2) := by decide +kernel
theorem i_141_100 : q_dec 141 100 = some (12, .idiv, 1) := by decide +kernel
theorem i_141_101 : q_dec 141 101 = some (12, .iload_n 2, 1) := by decide +kernel
theorem i_141_102 : q_dec 141 102 = some (12, .if_icmp .ne (19), 3) := by decide +kernel
theorem i_141_105 : q_dec 141 105 = some (12, .aload_n 0, 1) := by decide +kernel
theorem i_141_106 : q_dec 141 106 = some (12, .getfield 69, 3) := by decide +kernel
theorem i_141_109 : q_dec 141 109 = some (12, .iload 6, 2) := by decide +kernel
theorem i_141_111 : q_dec 141 111 = some (12, .iaload, 1) := by decide +kernel
theorem i_141_112 : q_dec 141 112 = some (12, .iload 4, 2) := by decide +kernel
theorem i_141_114 : q_dec 141 114 = some (12, .if_icmp .ne (7), 3) := by decide +kernel
theorem i_141_117 : q_dec 141 117 = some (12, .iconst 1, 1) := by decide +kernel
theorem i_141_118 : q_dec 141 118 = some (12, .goto 4, 3) := by decide +kernel
theorem i_141_121 : q_dec 141 121 = some (12, .iconst 0, 1) := by decide +kernel
theorem i_141_122 : q_dec 141 122 = some (12, .iadd, 1) := by decide +kernel
theorem i_141_123 : q_dec 141 123 = some (12, .istore 5, 2) := by decide +kernel
theorem i_141_125 : q_dec 141 125 = some (12, .iinc 6 (-1), 3) := by decide +kernel
theorem i_141_128 : q_dec 141 128 = some (12, .iload 6, 2) := by decide +kernel
theorem i_141_130 : q_dec 141 130 = some (12, .ifCond .lt (-69), 3) := by decide +kernel
theorem i_141_133 : q_dec 141 133 = some (12, .aload_n 0, 1) := by decide +kernel
theorem i_141_134 : q_dec 141 134 = some (12, .getfield 63, 3) := by decide +kernel
theorem i_141_137 : q_dec 141 137 = some (12, .iload 6, 2) := by decide +kernel
theorem i_141_139 : q_dec 141 139 = some (12, .dup2, 1) := by decide +kernel
theorem i_141_140 : q_dec 141 140 = some (12, .iaload, 1) := by decide +kernel
theorem i_141_141 : q_dec 141 141 = some (12, .iconst 1, 1) := by decide +kernel
theorem i_141_142 : q_dec 141 142 = some (12, .iadd, 1) := by decide +kernel
theorem i_141_143 : q_dec 141 143 = some (12, .iastore, 1) := by decide +kernel
theorem i_141_144 : q_dec 141 144 = some (12, .goto (-83), 3) := by decide +kernel
theorem i_141_147 : q_dec 141 147 = some (12, .aload_n 0, 1) := by decide +kernel
theorem i_141_148 : q_dec 141 148 = some (12, .aload_n 0, 1) := by decide +kernel
theorem i_141_149 : q_dec 141 149 = some (12, .getfield 66, 3) := by decide +kernel
theorem i_141_152 : q_dec 141 152 = some (12, .iload 6, 2) := by decide +kernel
theorem i_141_154 : q_dec 141 154 = some (12, .iaload, 1) := by decide +kernel
theorem i_141_155 : q_dec 141 155 = some (12, .aload_n 0, 1) := by decide +kernel
theorem i_141_156 : q_dec 141 156 = some (12, .getfield 63, 3) := by decide +kernel
theorem i_141_159 : q_dec 141 159 = some (12, .iload 6, 2) := by decide +kernel
theorem i_141_161 : q_dec 141 161 = some (12, .iaload, 1) := by decide +kernel
theorem i_141_162 : q_dec 141 162 = some (12, .invokevirtual 203, 3) := by decide +kernel
theorem i_141_165 : q_dec 141 165 = some (12, .istore 7, 2) := by decide +kernel
theorem i_141_167 : q_dec 141 167 = some (12, .iload 7, 2) := by decide +kernel
theorem i_141_169 : q_dec 141 169 = some (12, .iconst 4, 1) := by decide +kernel
theorem i_141_170 : q_dec 141 170 = some (12, .if_icmp .le (7), 3) := by decide +kernel
theorem i_141_173 : q_dec 141 173 = some (12, .iconst (-1), 1) := by decide +kernel
theorem i_141_174 : q_dec 141 174 = some (12, .goto 25, 3) := by decide +kernel
theorem i_141_177 : q_dec 141 177 = some (12, .aload_n 0, 1) := by decide +kernel
theorem i_141_178 : q_dec 141 178 = some (12, .aload_n 0, 1) := by decide +kernel
theorem i_141_179 : q_dec 141 179 = some (12, .getfield 66, 3) := by decide +kernel
theorem i_141_182 : q_dec 141 182 = some (12, .iload 6, 2) := by decide +kernel
theorem i_141_184 : q_dec 141 184 = some (12, .iaload, 1) := by decide +kernel
theorem i_141_185 : q_dec 141 185 = some (12, .aload_n 0, 1) := by decide +kernel
theorem i_141_186 : q_dec 141 186 = some (12, .getfield 63, 3) := by decide +kernel
theorem i_141_189 : q_dec 141 189 = some (12, .iload 6, 2) := by decide +kernel
theorem i_141_191 : q_dec 141 191 = some (12, .iaload, 1) := by decide +kernel
theorem i_141_192 : q_dec 141 192 = some (12, .aload_n 0, 1) := by decide +kernel
theorem i_141_193 : q_dec 141 193 = some (12, .getfield 167, 3) := by decide +kernel
theorem i_141_196 : q_dec 141 196 = some (12, .invokevirtual 206, 3) := by decide +kernel
theorem i_141_199 : q_dec 141 199 = some (12, .istore 8, 2) := by decide +kernel
theorem i_141_201 : q_dec 141 201 = some (12, .iload 8, 2) := by decide +kernel
theorem i_141_203 : q_dec 141 203 = some (12, .ifCond .ge (17), 3) := by decide +kernel
theorem i_141_206 : q_dec 141 206 = some (12, .aload_n 0, 1) := by decide +kernel
theorem i_141_207 : q_dec 141 207 = some (12, .getfield 63, 3) := by decide +kernel
theorem i_141_210 : q_dec 141 210 = some (12, .iload 6, 2) := by decide +kernel
theorem i_141_212 : q_dec 141 212 = some (12, .dup2, 1) := by decide +kernel
theorem i_141_213 : q_dec 141 213 = some (12, .iaload, 1) := by decide +kernel
theorem i_141_214 : q_dec 141 214 = some (12, .iconst 1, 1) := by decide +kernel
theorem i_141_215 : q_dec 141 215 = some (12, .iadd, 1) := by decide +kernel
theorem i_141_216 : q_dec 141 216 = some (12, .iastore, 1) := by decide +kernel
theorem i_141_217 : q_dec 141 217 = some (12, .goto (-156), 3) := by decide +kernel
theorem i_141_220 : q_dec 141 220 = some (12, .aload_n 0, 1) := by decide +kernel
theorem i_141_221 : q_dec 141 221 = some (12, .getfield 66, 3) := by decide +kernel
theorem i_141_224 : q_dec 141 224 = some (12, .iload 6, 2) := by decide +kernel
theorem i_141_226 : q_dec 141 226 = some (12, .iconst 1, 1) := by decide +kernel
theorem i_141_227 : q_dec 141 227 = some (12, .iadd, 1) := by decide +kernel
theorem i_141_228 : q_dec 141 228 = some (12, .iload 8, 2) := by decide +kernel
theorem i_141_230 : q_dec 141 230 = some (12, .iastore, 1) := by decide +kernel
theorem i_141_231 : q_dec 141 231 = some (12, .aload_n 0, 1) := by decide +kernel
theorem i_141_232 : q_dec 141 232 = some (12, .getfield 69, 3) := by decide +kernel
theorem i_141_235 : q_dec 141 235 = some (12, .iload 6, 2) := by decide +kernel
theorem i_141_237 : q_dec 141 237 = some (12, .iconst 1, 1) := by decide +kernel
theorem i_141_238 : q_dec 141 238 = some (12, .iadd, 1) := by decide +kernel
theorem i_141_239 : q_dec 141 239 = some (12, .aload_n 0, 1) := by decide +kernel
theorem i_141_240 : q_dec 141 240 = some (12, .getfield 69, 3) := by decide +kernel
theorem i_141_243 : q_dec 141 243 = some (12, .iload 6, 2) := by decide +kernel
theorem i_141_245 : q_dec 141 245 = some (12, .iaload, 1) := by decide +kernel
theorem i_141_246 : q_dec 141 246 = some (12, .aload_n 0, 1) := by decide +kernel
theorem i_141_247 : q_dec 141 247 = some (12, .iload 7, 2) := by decide +kernel
theorem i_141_249 : q_dec 141 249 = some (12, .invokevirtual 194, 3) := by decide +kernel
theorem i_141_252 : q_dec 141 252 = some (12, .iadd, 1) := by decide +kernel
theorem i_141_253 : q_dec 141 253 = some (12, .iastore, 1) := by decide +kernel
theorem i_141_254 : q_dec 141 254 = some (12, .iinc 6 1, 3) := by decide +kernel
theorem i_141_257 : q_dec 141 257 = some (12, .aload_n 0, 1) := by decide +kernel
theorem i_141_258 : q_dec 141 258 = some (12, .getfield 63, 3) := by decide +kernel
theorem i_141_261 : q_dec 141 261 = some (12, .iload 6, 2) := by decide +kernel
theorem i_141_263 : q_dec 141 263 = some (12, .iconst 0, 1) := by decide +kernel
theorem i_141_264 : q_dec 141 264 = some (12, .iastore, 1) := by decide +kernel
theorem i_141_265 : q_dec 141 265 = some (12, .goto (-204), 3) := by decide +kernel
theorem i_141_268 : q_dec 141 268 = some (12, .iload 5, 2) := by decide +kernel
theorem i_141_270 : q_dec 141 270 = some (12, .ireturn, 1) := by decide +kernel
theorem i_142_0 : q_dec 142 0 = some (12, .iload_n 1, 1) := by decide +kernel
theorem i_142_1 : q_dec 142 1 = some (12, .tableswitch (204) (0) (5) #[39, 56, 82, 106, 134, 180], 39) := by decide +kernel
theorem i_142_40 : q_dec 142 40 = some (12, .aload_n 0, 1) := by decide +kernel
theorem i_142_41 : q_dec 142 41 = some (12, .dup, 1) := by decide +kernel
theorem i_142_42 : q_dec 142 42 = some (12, .getfield 229, 3) := by decide +kernel
theorem i_142_45 : q_dec 142 45 = some (12, .lconst 1, 1) := by decide +kernel
theorem i_142_46 : q_dec 142 46 = some (12, .ladd, 1) := by decide +kernel
theorem i_142_47 : q_dec 142 47 = some (12, .putfield 229, 3) := by decide +kernel
theorem i_142_50 : q_dec 142 50 = some (12, .aload_n 0, 1) := by decide +kernel
theorem i_142_51 : q_dec 142 51 = some (12, .getfield 29, 3) := by decide +kernel
theorem i_142_54 : q_dec 142 54 = some (12, .iconst 1, 1) := by decide +kernel
theorem i_142_55 : q_dec 142 55 = some (12, .iaload, 1) := by decide +kernel
theorem i_142_56 : q_dec 142 56 = some (12, .ireturn, 1) := by decide +kernel
theorem i_142_57 : q_dec 142 57 = some (12, .aload_n 0, 1) := by decide +kernel
theorem i_142_58 : q_dec 142 58 = some (12, .dup, 1) := by decide +kernel
theorem i_142_59 : q_dec 142 59 = some (12, .getfield 229, 3) := by decide +kernel
theorem i_142_62 : q_dec 142 62 = some (12, .ldc2_w 233, 3) := by decide +kernel
theorem i_142_65 : q_dec 142 65 = some (12, .ladd, 1) := by decide +kernel
theorem i_142_66 : q_dec 142 66 = some (12, .putfield 229, 3) := by decide +kernel
theorem i_142_69 : q_dec 142 69 = some (12, .aload_n 0, 1) := by decide +kernel
theorem i_142_70 : q_dec 142 70 = some (12, .getfield 29, 3) := by decide +kernel
theorem i_142_73 : q_dec 142 73 = some (12, .iconst 1, 1) := by decide +kernel
theorem i_142_74 : q_dec 142 74 = some (12, .iaload, 1) := by decide +kernel
theorem i_142_75 : q_dec 142 75 = some (12, .aload_n 0, 1) := by decide +kernel
theorem i_142_76 : q_dec 142 76 = some (12, .getfield 29, 3) := by decide +kernel
theorem i_142_79 : q_dec 142 79 = some (12, .iconst 3, 1) := by decide +kernel
theorem i_142_80 : q_dec 142 80 = some (12, .iaload, 1) := by decide +kernel
theorem i_142_81 : q_dec 142 81 = some (12, .iadd, 1) := by decide +kernel
theorem i_142_82 : q_dec 142 82 = some (12, .ireturn, 1) := by decide +kernel
theorem i_142_83 : q_dec 142 83 = some (12, .aload_n 0, 1) := by decide +kernel
theorem i_142_84 : q_dec 142 84 = some (12, .dup, 1) := by decide +kernel
theorem i_142_85 : q_dec 142 85 = some (12, .getfield 229, 3) := by decide +kernel
theorem i_142_88 : q_dec 142 88 = some (12, .ldc2_w 235, 3) := by decide +kernel
theorem i_142_91 : q_dec 142 91 = some (12, .ladd, 1) := by decide +kernel
theorem i_142_92 : q_dec 142 92 = some (12, .putfield 229, 3) := by decide +kernel
theorem i_142_95 : q_dec 142 95 = some (12, .aload_n 0, 1) := by decide +kernel
theorem i_142_96 : q_dec 142 96 = some (12, .getfield 29, 3) := by decide +kernel
theorem i_142_99 : q_dec 142 99 = some (12, .iconst 1, 1) := by decide +kernel
theorem i_142_100 : q_dec 142 100 = some (12, .iaload, 1) := by decide +kernel
theorem i_142_101 : q_dec 142 101 = some (12, .aload_n 0, 1) := by decide +kernel
theorem i_142_102 : q_dec 142 102 = some (12, .invokevirtual 190, 3) := by decide +kernel
theorem i_142_105 : q_dec 142 105 = some (12, .isub, 1) := by decide +kernel
theorem i_142_106 : q_dec 142 106 = some (12, .ireturn, 1) := by decide +kernel
theorem i_142_107 : q_dec 142 107 = some (12, .aload_n 0, 1) := by decide +kernel
theorem i_142_108 : q_dec 142 108 = some (12, .dup, 1) := by decide +kernel
theorem i_142_109 : q_dec 142 109 = some (12, .getfield 229, 3) := by decide +kernel
theorem i_142_112 : q_dec 142 112 = some (12, .ldc2_w 237, 3) := by decide +kernel
theorem i_142_115 : q_dec 142 115 = some (12, .ladd, 1) := by decide +kernel
theorem i_142_116 : q_dec 142 116 = some (12, .putfield 229, 3) := by decide +kernel
theorem i_142_119 : q_dec 142 119 = some (12, .iconst 2, 1) := by decide +kernel
theorem i_142_120 : q_dec 142 120 = some (12, .aload_n 0, 1) := by decide +kernel
theorem i_142_121 : q_dec 142 121 = some (12, .getfield 29, 3) := by decide +kernel
theorem i_142_124 : q_dec 142 124 = some (12, .iconst 1, 1) := by decide +kernel
theorem i_142_125 : q_dec 142 125 = some (12, .iaload, 1) := by decide +kernel
theorem i_142_126 : q_dec 142 126 = some (12, .aload_n 0, 1) := by decide +kernel
theorem i_142_127 : q_dec 142 127 = some (12, .getfield 29, 3) := by decide +kernel
theorem i_142_130 : q_dec 142 130 = some (12, .iconst 3, 1) := by decide +kernel
theorem i_142_131 : q_dec 142 131 = some (12, .iaload, 1) := by decide +kernel
theorem i_142_132 : q_dec 142 132 = some (12, .iadd, 1) := by decide +kernel
theorem i_142_133 : q_dec 142 133 = some (12, .imul, 1) := by decide +kernel
theorem i_142_134 : q_dec 142 134 = some (12, .ireturn, 1) := by decide +kernel
theorem i_142_135 : q_dec 142 135 = some (12, .aload_n 0, 1) := by decide +kernel
theorem i_142_136 : q_dec 142 136 = some (12, .dup, 1) := by decide +kernel
theorem i_142_137 : q_dec 142 137 = some (12, .getfield 229, 3) := by decide +kernel
theorem i_142_140 : q_dec 142 140 = some (12, .ldc2_w 239, 3) := by decide +kernel
theorem i_142_143 : q_dec 142 143 = some (12, .ladd, 1) := by decide +kernel
theorem i_142_144 : q_dec 142 144 = some (12, .putfield 229, 3) := by decide +kernel
theorem i_142_147 : q_dec 142 147 = some (12, .aload_n 0, 1) := by decide +kernel
theorem i_142_148 : q_dec 142 148 = some (12, .getfield 29, 3) := by decide +kernel
theorem i_142_151 : q_dec 142 151 = some (12, .iconst 1, 1) := by decide +kernel
theorem i_142_152 : q_dec 142 152 = some (12, .iaload, 1) := by decide +kernel
theorem i_142_153 : q_dec 142 153 = some (12, .aload_n 0, 1) := by decide +kernel
theorem i_142_154 : q_dec 142 154 = some (12, .invokevirtual 190, 3) := by decide +kernel
theorem i_142_157 : q_dec 142 157 = some (12, .isub, 1) := by decide +kernel
theorem i_142_158 : q_dec 142 158 = some (12, .aload_n 0, 1) := by decide +kernel
theorem i_142_159 : q_dec 142 159 = some (12, .getfield 29, 3) := by decide +kernel
theorem i_142_162 : q_dec 142 162 = some (12, .iconst 0, 1) := by decide +kernel
theorem i_142_163 : q_dec 142 163 = some (12, .iaload, 1) := by decide +kernel
theorem i_142_164 : q_dec 142 164 = some (12, .bipush (-9), 2) := by decide +kernel
theorem i_142_166 : q_dec 142 166 = some (12, .if_icmp .ne (7), 3) := by decide +kernel
theorem i_142_169 : q_dec 142 169 = some (12, .iconst 0, 1) := by decide +kernel
theorem i_142_170 : q_dec 142 170 = some (12, .goto 9, 3) := by decide +kernel
theorem i_142_173 : q_dec 142 173 = some (12, .aload_n 0, 1) := by decide +kernel
theorem i_142_174 : q_dec 142 174 = some (12, .getfield 29, 3) := by decide +kernel
theorem i_142_177 : q_dec 142 177 = some (12, .iconst 0, 1) := by decide +kernel
theorem i_142_178 : q_dec 142 178 = some (12, .iaload, 1) := by decide +kernel
theorem i_142_179 : q_dec 142 179 = some (12, .iadd, 1) := by decide +kernel
theorem i_142_180 : q_dec 142 180 = some (12, .ireturn, 1) := by decide +kernel
theorem i_142_181 : q_dec 142 181 = some (12, .aload_n 0, 1) := by decide +kernel
theorem i_142_182 : q_dec 142 182 = some (12, .dup, 1) := by decide +kernel
theorem i_142_183 : q_dec 142 183 = some (12, .getfield 229, 3) := by decide +kernel
theorem i_142_186 : q_dec 142 186 = some (12, .ldc2_w 241, 3) := by decide +kernel
theorem i_142_189 : q_dec 142 189 = some (12, .ladd, 1) := by decide +kernel
theorem i_142_190 : q_dec 142 190 = some (12, .putfield 229, 3) := by decide +kernel
theorem i_142_193 : q_dec 142 193 = some (12, .aload_n 0, 1) := by decide +kernel
theorem i_142_194 : q_dec 142 194 = some (12, .getfield 29, 3) := by decide +kernel
theorem i_142_197 : q_dec 142 197 = some (12, .iconst 1, 1) := by decide +kernel
theorem i_142_198 : q_dec 142 198 = some (12, .iaload, 1) := by decide +kernel
theorem i_142_199 : q_dec 142 199 = some (12, .aload_n 0, 1) := by decide +kernel
theorem i_142_200 : q_dec 142 200 = some (12, .getfield 176, 3) := by decide +kernel
theorem i_142_203 : q_dec 142 203 = some (12, .iadd, 1) := by decide +kernel
theorem i_142_204 : q_dec 142 204 = some (12, .ireturn, 1) := by decide +kernel
theorem i_142_205 : q_dec 142 205 = some (12, .ldc 243, 2) := by decide +kernel
theorem i_142_207 : q_dec 142 207 = some (12, .ireturn, 1) := by decide +kernel
theorem i_143_0 : q_dec 143 0 = some (12, .iload_n 1, 1) := by decide +kernel
theorem i_143_1 : q_dec 143 1 = some (12, .i2l, 1) := by decide +kernel
theorem i_143_2 : q_dec 143 2 = some (12, .lconst 0, 1) := by decide +kernel
theorem i_143_3 : q_dec 143 3 = some (12, .lconst 1, 1) := by decide +kernel
theorem i_143_4 : q_dec 143 4 = some (12, .invokestatic 72, 3) := by decide +kernel
theorem i_143_7 : q_dec 143 7 = some (12, .ifCond .ne (5), 3) := by decide +kernel
theorem i_143_10 : q_dec 143 10 = some (12, .iconst (-1), 1) := by decide +kernel
theorem i_143_11 : q_dec 143 11 = some (12, .ireturn, 1) := by decide +kernel
theorem i_143_12 : q_dec 143 12 = some (12, .aload_n 0, 1) := by decide +kernel
theorem i_143_13 : q_dec 143 13 = some (12, .iconst 0, 1) := by decide +kernel
theorem i_143_14 : q_dec 143 14 = some (12, .sipush 130, 3) := by decide +kernel
theorem i_143_17 : q_dec 143 17 = some (12, .iconst 1, 1) := by decide +kernel
theorem i_143_18 : q_dec 143 18 = some (12, .iload_n 1, 1) := by decide +kernel
theorem i_143_19 : q_dec 143 19 = some (12, .iadd, 1) := by decide +kernel
theorem i_143_20 : q_dec 143 20 = some (12, .imul, 1) := by decide +kernel
theorem i_143_21 : q_dec 143 21 = some (12, .invokevirtual 244, 3) := by decide +kernel
theorem i_143_24 : q_dec 143 24 = some (12, .aload_n 0, 1) := by decide +kernel
theorem i_143_25 : q_dec 143 25 = some (12, .getfield 32, 3) := by decide +kernel
theorem i_143_28 : q_dec 143 28 = some (12, .iload_n 1, 1) := by decide +kernel
theorem i_143_29 : q_dec 143 29 = some (12, .iconst 1, 1) := by decide +kernel
theorem i_143_30 : q_dec 143 30 = some (12, .bastore, 1) := by decide +kernel
theorem i_143_31 : q_dec 143 31 = some (12, .aload_n 0, 1) := by decide +kernel
theorem i_143_32 : q_dec 143 32 = some (12, .getfield 29, 3) := by decide +kernel
theorem i_143_35 : q_dec 143 35 = some (12, .iconst 3, 1) := by decide +kernel
theorem i_143_36 : q_dec 143 36 = some (12, .iaload, 1) := by decide +kernel
theorem i_143_37 : q_dec 143 37 = some (12, .ireturn, 1) := by decide +kernel
theorem i_144_0 : q_dec 144 0 = some (12, .iconst 0, 1) := by decide +kernel
theorem i_144_1 : q_dec 144 1 = some (12, .istore_n 3, 1) := by decide +kernel
theorem i_144_2 : q_dec 144 2 = some (12, .iload_n 3, 1) := by decide +kernel
theorem i_144_3 : q_dec 144 3 = some (12, .sipush 130, 3) := by decide +kernel
theorem i_144_6 : q_dec 144 6 = some (12, .if_icmp .ge (25), 3) := by decide +kernel
theorem i_144_9 : q_dec 144 9 = some (12, .aload_n 0, 1) := by decide +kernel
theorem i_144_10 : q_dec 144 10 = some (12, .getfield 29, 3) := by decide +kernel
theorem i_144_13 : q_dec 144 13 = some (12, .iload_n 2, 1) := by decide +kernel
theorem i_144_14 : q_dec 144 14 = some (12, .iload_n 3, 1) := by decide +kernel
theorem i_144_15 : q_dec 144 15 = some (12, .iadd, 1) := by decide +kernel
theorem i_144_16 : q_dec 144 16 = some (12, .aload_n 0, 1) := by decide +kernel
theorem i_144_17 : q_dec 144 17 = some (12, .getfield 29, 3) := by decide +kernel
theorem i_144_20 : q_dec 144 20 = some (12, .iload_n 1, 1) := by decide +kernel
theorem i_144_21 : q_dec 144 21 = some (12, .iload_n 3, 1) := by decide +kernel
theorem i_144_22 : q_dec 144 22 = some (12, .iadd, 1) := by decide +kernel
theorem i_144_23 : q_dec 144 23 = some (12, .iaload, 1) := by decide +kernel
theorem i_144_24 : q_dec 144 24 = some (12, .iastore, 1) := by decide +kernel
theorem i_144_25 : q_dec 144 25 = some (12, .iinc 3 1, 3) := by decide +kernel
theorem i_144_28 : q_dec 144 28 = some (12, .goto (-26), 3) := by decide +kernel
theorem i_144_31 : q_dec 144 31 = some (12, .return_, 1) := by decide +kernel
theorem i_145_0 : q_dec 145 0 = some (12, .iload_n 1, 1) := by decide +kernel
theorem i_145_1 : q_dec 145 1 = some (12, .i2l, 1) := by decide +kernel
theorem i_145_2 : q_dec 145 2 = some (12, .lconst 0, 1) := by decide +kernel
theorem i_145_3 : q_dec 145 3 = some (12, .lconst 1, 1) := by decide +kernel
theorem i_145_4 : q_dec 145 4 = some (12, .invokestatic 72, 3) := by decide +kernel
theorem i_145_7 : q_dec 145 7 = some (12, .ifCond .ne (5), 3) := by decide +kernel
theorem i_145_10 : q_dec 145 10 = some (12, .iconst (-1), 1) := by decide +kernel
theorem i_145_11 : q_dec 145 11 = some (12, .ireturn, 1) := by decide +kernel
theorem i_145_12 : q_dec 145 12 = some (12, .aload_n 0, 1) := by decide +kernel
theorem i_145_13 : q_dec 145 13 = some (12, .getfield 32, 3) := by decide +kernel
theorem i_145_16 : q_dec 145 16 = some (12, .iload_n 1, 1) := by decide +kernel
theorem i_145_17 : q_dec 145 17 = some (12, .baload, 1) := by decide +kernel
theorem i_145_18 : q_dec 145 18 = some (12, .ifCond .ne (6), 3) := by decide +kernel
theorem i_145_21 : q_dec 145 21 = some (12, .bipush (-2), 2) := by decide +kernel
theorem i_145_23 : q_dec 145 23 = some (12, .ireturn, 1) := by decide +kernel
theorem i_145_24 : q_dec 145 24 = some (12, .aload_n 0, 1) := by decide +kernel
theorem i_145_25 : q_dec 145 25 = some (12, .sipush 130, 3) := by decide +kernel
theorem i_145_28 : q_dec 145 28 = some (12, .iconst 1, 1) := by decide +kernel
theorem i_145_29 : q_dec 145 29 = some (12, .iload_n 1, 1) := by decide +kernel
theorem i_145_30 : q_dec 145 30 = some (12, .iadd, 1) := by decide +kernel
theorem i_145_31 : q_dec 145 31 = some (12, .imul, 1) := by decide +kernel
theorem i_145_32 : q_dec 145 32 = some (12, .iconst 0, 1) := by decide +kernel
theorem i_145_33 : q_dec 145 33 = some (12, .invokevirtual 244, 3) := by decide +kernel
theorem i_145_36 : q_dec 145 36 = some (12, .aload_n 0, 1) := by decide +kernel
theorem i_145_37 : q_dec 145 37 = some (12, .getfield 29, 3) := by decide +kernel
theorem i_145_40 : q_dec 145 40 = some (12, .iconst 3, 1) := by decide +kernel
theorem i_145_41 : q_dec 145 41 = some (12, .iaload, 1) := by decide +kernel
theorem i_145_42 : q_dec 145 42 = some (12, .ireturn, 1) := by decide +kernel
theorem i_146_0 : q_dec 146 0 = some (12, .iload_n 1, 1) := by decide +kernel
theorem i_146_1 : q_dec 146 1 = some (12, .tableswitch (75) (0) (5) #[39, 44, 49, 57, 65, 70], 39) := by decide +kernel
theorem i_146_40 : q_dec 146 40 = some (12, .aload_n 0, 1) := by decide +kernel
theorem i_146_41 : q_dec 146 41 = some (12, .getfield 7, 3) := by decide +kernel
theorem i_146_44 : q_dec 146 44 = some (12, .ireturn, 1) := by decide +kernel
theorem i_146_45 : q_dec 146 45 = some (12, .aload_n 0, 1) := by decide +kernel
theorem i_146_46 : q_dec 146 46 = some (12, .getfield 13, 3) := by decide +kernel
theorem i_146_49 : q_dec 146 49 = some (12, .ireturn, 1) := by decide +kernel
theorem i_146_50 : q_dec 146 50 = some (12, .aload_n 0, 1) := by decide +kernel
theorem i_146_51 : q_dec 146 51 = some (12, .getfield 80, 3) := by decide +kernel
theorem i_146_54 : q_dec 146 54 = some (12, .invokestatic 223, 3) := by decide +kernel
theorem i_146_57 : q_dec 146 57 = some (12, .ireturn, 1) := by decide +kernel
theorem i_146_58 : q_dec 146 58 = some (12, .aload_n 0, 1) := by decide +kernel
theorem i_146_59 : q_dec 146 59 = some (12, .getfield 167, 3) := by decide +kernel
theorem i_146_62 : q_dec 146 62 = some (12, .invokestatic 223, 3) := by decide +kernel
theorem i_146_65 : q_dec 146 65 = some (12, .ireturn, 1) := by decide +kernel
theorem i_146_66 : q_dec 146 66 = some (12, .aload_n 0, 1) := by decide +kernel
theorem i_146_67 : q_dec 146 67 = some (12, .getfield 176, 3) := by decide +kernel
theorem i_146_70 : q_dec 146 70 = some (12, .ireturn, 1) := by decide +kernel
theorem i_146_71 : q_dec 146 71 = some (12, .aload_n 0, 1) := by decide +kernel
theorem i_146_72 : q_dec 146 72 = some (12, .getfield 89, 3) := by decide +kernel
theorem i_146_75 : q_dec 146 75 = some (12, .ireturn, 1) := by decide +kernel
theorem i_146_76 : q_dec 146 76 = some (12, .iconst (-1), 1) := by decide +kernel
theorem i_146_77 : q_dec 146 77 = some (12, .ireturn, 1) := by decide +kernel
theorem i_147_0 : q_dec 147 0 = some (12, .aload_n 0, 1) := by decide +kernel
theorem i_147_1 : q_dec 147 1 = some (12, .getfield 229, 3) := by decide +kernel
theorem i_147_4 : q_dec 147 4 = some (12, .lreturn, 1) := by decide +kernel
theorem i_148_0 : q_dec 148 0 = some (13, .aload_n 0, 1) := by decide +kernel
theorem i_148_1 : q_dec 148 1 = some (13, .getfield 9, 3) := by decide +kernel
theorem i_148_4 : q_dec 148 4 = some (13, .arraylength, 1) := by decide +kernel
theorem i_148_5 : q_dec 148 5 = some (13, .aload_n 0, 1) := by decide +kernel
theorem i_148_6 : q_dec 148 6 = some (13, .invokevirtual 335, 3) := by decide +kernel
theorem i_148_9 : q_dec 148 9 = some (13, .ishr, 1) := by decide +kernel
theorem i_148_10 : q_dec 148 10 = some (13, .ireturn, 1) := by decide +kernel
theorem i_149_0 : q_dec 149 0 = some (13, .getstatic 38, 3) := by decide +kernel
theorem i_149_3 : q_dec 149 3 = some (13, .ifCond .eq (10), 3) := by decide +kernel
theorem i_149_6 : q_dec 149 6 = some (13, .aload_n 0, 1) := by decide +kernel
theorem i_149_7 : q_dec 149 7 = some (13, .getfield 15, 3) := by decide +kernel
theorem i_149_10 : q_dec 149 10 = some (13, .goto 4, 3) := by decide +kernel
theorem i_149_13 : q_dec 149 13 = some (13, .iconst 1, 1) := by decide +kernel
theorem i_149_14 : q_dec 149 14 = some (13, .ireturn, 1) := by decide +kernel
theorem i_150_0 : q_dec 150 0 = some (13, .aload_n 0, 1) := by decide +kernel
theorem i_150_1 : q_dec 150 1 = some (13, .invokevirtual 492, 3) := by decide +kernel
theorem i_150_4 : q_dec 150 4 = some (13, .ifCond .eq (12), 3) := by decide +kernel
theorem i_150_7 : q_dec 150 7 = some (13, .aload_n 0, 1) := by decide +kernel
theorem i_150_8 : q_dec 150 8 = some (13, .getfield 9, 3) := by decide +kernel
theorem i_150_11 : q_dec 150 11 = some (13, .iload_n 1, 1) := by decide +kernel
theorem i_150_12 : q_dec 150 12 = some (13, .invokestatic 495, 3) := by decide +kernel
theorem i_150_15 : q_dec 150 15 = some (13, .ireturn, 1) := by decide +kernel
theorem i_150_16 : q_dec 150 16 = some (13, .aload_n 0, 1) := by decide +kernel
theorem i_150_17 : q_dec 150 17 = some (13, .getfield 9, 3) := by decide +kernel
theorem i_150_20 : q_dec 150 20 = some (13, .iload_n 1, 1) := by decide +kernel
theorem i_150_21 : q_dec 150 21 = some (13, .invokestatic 498, 3) := by decide +kernel
theorem i_150_24 : q_dec 150 24 = some (13, .ireturn, 1) := by decide +kernel
theorem i_151_0 : q_dec 151 0 = some (13, .getstatic 38, 3) := by decide +kernel
theorem i_151_3 : q_dec 151 3 = some (13, .ifCond .eq (14), 3) := by decide +kernel
theorem i_151_6 : q_dec 151 6 = some (13, .aload_n 0, 1) := by decide +kernel
theorem i_151_7 : q_dec 151 7 = some (13, .getfield 15, 3) := by decide +kernel
theorem i_151_10 : q_dec 151 10 = some (13, .ifCond .ne (7), 3) := by decide +kernel
theorem i_151_13 : q_dec 151 13 = some (13, .iconst 1, 1) := by decide +kernel
theorem i_151_14 : q_dec 151 14 = some (13, .goto 4, 3) := by decide +kernel
theorem i_151_17 : q_dec 151 17 = some (13, .iconst 0, 1) := by decide +kernel
theorem i_151_18 : q_dec 151 18 = some (13, .ireturn, 1) := by decide +kernel
theorem i_152_0 : q_dec 152 0 = some (13, .iload_n 0, 1) := by decide +kernel
theorem i_152_1 : q_dec 152 1 = some (13, .iload_n 1, 1) := by decide +kernel
theorem i_152_2 : q_dec 152 2 = some (13, .getstatic 1053, 3) := by decide +kernel
theorem i_152_5 : q_dec 152 5 = some (13, .invokestatic 1059, 3) := by decide +kernel
theorem i_152_8 : q_dec 152 8 = some (13, .pop, 1) := by decide +kernel
theorem i_152_9 : q_dec 152 9 = some (13, .return_, 1) := by decide +kernel
theorem i_153_0 : q_dec 153 0 = some (14, .iload_n 1, 1) := by decide +kernel
theorem i_153_1 : q_dec 153 1 = some (14, .aload_n 0, 1) := by decide +kernel
theorem i_153_2 : q_dec 153 2 = some (14, .arraylength, 1) := by decide +kernel
theorem i_153_3 : q_dec 153 3 = some (14, .invokestatic 9, 3) := by decide +kernel
theorem i_153_6 : q_dec 153 6 = some (14, .aload_n 0, 1) := by decide +kernel
theorem i_153_7 : q_dec 153 7 = some (14, .iload_n 1, 1) := by decide +kernel
theorem i_153_8 : q_dec 153 8 = some (14, .baload, 1) := by decide +kernel
theorem i_153_9 : q_dec 153 9 = some (14, .sipush 255, 3) := by decide +kernel
theorem i_153_12 : q_dec 153 12 = some (14, .iand, 1) := by decide +kernel
theorem i_153_13 : q_dec 153 13 = some (14, .i2c, 1) := by decide +kernel
theorem i_153_14 : q_dec 153 14 = some (14, .ireturn, 1) := by decide +kernel
theorem i_154_0 : q_dec 154 0 = some (15, .iload_n 0, 1) := by decide +kernel
theorem i_154_1 : q_dec 154 1 = some (15, .ifCond .lt (8), 3) := by decide +kernel
theorem i_154_4 : q_dec 154 4 = some (15, .iload_n 0, 1) := by decide +kernel
theorem i_154_5 : q_dec 154 5 = some (15, .iload_n 1, 1) := by decide +kernel
theorem i_154_6 : q_dec 154 6 = some (15, .if_icmp .lt (10), 3) := by decide +kernel
theorem i_154_9 : q_dec 154 9 = some (15, .aload_n 2, 1) := by decide +kernel
theorem i_154_10 : q_dec 154 10 = some (15, .iload_n 0, 1) := by decide +kernel
theorem i_154_11 : q_dec 154 11 = some (15, .iload_n 1, 1) := by decide +kernel
theorem i_154_12 : q_dec 154 12 = some (15, .invokestatic 95, 3) := by decide +kernel
theorem i_154_16 : q_dec 154 16 = some (15, .iload_n 0, 1) := by decide +kernel
theorem i_154_17 : q_dec 154 17 = some (15, .ireturn, 1) := by decide +kernel
theorem i_155_0 : q_dec 155 0 = some (16, .iload_n 0, 1) := by decide +kernel
theorem i_155_1 : q_dec 155 1 = some (16, .iload_n 1, 1) := by decide +kernel
theorem i_155_2 : q_dec 155 2 = some (16, .if_icmp .gt (7), 3) := by decide +kernel
theorem i_155_5 : q_dec 155 5 = some (16, .iload_n 0, 1) := by decide +kernel
theorem i_155_6 : q_dec 155 6 = some (16, .goto 4, 3) := by decide +kernel
theorem i_155_9 : q_dec 155 9 = some (16, .iload_n 1, 1) := by decide +kernel
theorem i_155_10 : q_dec 155 10 = some (16, .ireturn, 1) := by decide +kernel
theorem i_156_0 : q_dec 156 0 = some (16, .iload_n 0, 1) := by decide +kernel
theorem i_156_1 : q_dec 156 1 = some (16, .iload_n 1, 1) := by decide +kernel
theorem i_156_2 : q_dec 156 2 = some (16, .if_icmp .lt (7), 3) := by decide +kernel
theorem i_156_5 : q_dec 156 5 = some (16, .iload_n 0, 1) := by decide +kernel
theorem i_156_6 : q_dec 156 6 = some (16, .goto 4, 3) := by decide +kernel
theorem i_156_9 : q_dec 156 9 = some (16, .iload_n 1, 1) := by decide +kernel
theorem i_156_10 : q_dec 156 10 = some (16, .ireturn, 1) := by decide +kernel
theorem i_157_0 : q_dec 157 0 = some (17, .iload_n 0, 1) := by decide +kernel
theorem i_157_1 : q_dec 157 1 = some (17, .iload_n 0, 1) := by decide +kernel
theorem i_157_2 : q_dec 157 2 = some (17, .iconst 1, 1) := by decide +kernel
theorem i_157_3 : q_dec 157 3 = some (17, .iushr, 1) := by decide +kernel
theorem i_157_4 : q_dec 157 4 = some (17, .ldc_w 265, 3) := by decide +kernel
theorem i_157_7 : q_dec 157 7 = some (17, .iand, 1) := by decide +kernel
theorem i_157_8 : q_dec 157 8 = some (17, .isub, 1) := by decide +kernel
theorem i_157_9 : q_dec 157 9 = some (17, .istore_n 0, 1) := by decide +kernel
theorem i_157_10 : q_dec 157 10 = some (17, .iload_n 0, 1) := by decide +kernel
theorem i_157_11 : q_dec 157 11 = some (17, .ldc_w 266, 3) := by decide +kernel
theorem i_157_14 : q_dec 157 14 = some (17, .iand, 1) := by decide +kernel
theorem i_157_15 : q_dec 157 15 = some (17, .iload_n 0, 1) := by decide +kernel
theorem i_157_16 : q_dec 157 16 = some (17, .iconst 2, 1) := by decide +kernel
theorem i_157_17 : q_dec 157 17 = some (17, .iushr, 1) := by decide +kernel
theorem i_157_18 : q_dec 157 18 = some (17, .ldc_w 266, 3) := by decide +kernel
theorem i_157_21 : q_dec 157 21 = some (17, .iand, 1) := by decide +kernel
theorem i_157_22 : q_dec 157 22 = some (17, .iadd, 1) := by decide +kernel
theorem i_157_23 : q_dec 157 23 = some (17, .istore_n 0, 1) := by decide +kernel
theorem i_157_24 : q_dec 157 24 = some (17, .iload_n 0, 1) := by decide +kernel
theorem i_157_25 : q_dec 157 25 = some (17, .iload_n 0, 1) := by decide +kernel
theorem i_157_26 : q_dec 157 26 = some (17, .iconst 4, 1) := by decide +kernel
theorem i_157_27 : q_dec 157 27 = some (17, .iushr, 1) := by decide +kernel
theorem i_157_28 : q_dec 157 28 = some (17, .iadd, 1) := by decide +kernel
theorem i_157_29 : q_dec 157 29 = some (17, .ldc_w 267, 3) := by decide +kernel
theorem i_157_32 : q_dec 157 32 = some (17, .iand, 1) := by decide +kernel
theorem i_157_33 : q_dec 157 33 = some (17, .istore_n 0, 1) := by decide +kernel
theorem i_157_34 : q_dec 157 34 = some (17, .iload_n 0, 1) := by decide +kernel
theorem i_157_35 : q_dec 157 35 = some (17, .iload_n 0, 1) := by decide +kernel
theorem i_157_36 : q_dec 157 36 = some (17, .bipush 8, 2) := by decide +kernel
theorem i_157_38 : q_dec 157 38 = some (17, .iushr, 1) := by decide +kernel
theorem i_157_39 : q_dec 157 39 = some (17, .iadd, 1) := by decide +kernel
theorem i_157_40 : q_dec 157 40 = some (17, .istore_n 0, 1) := by decide +kernel
theorem i_157_41 : q_dec 157 41 = some (17, .iload_n 0, 1) := by decide +kernel
theorem i_157_42 : q_dec 157 42 = some (17, .iload_n 0, 1) := by decide +kernel
theorem i_157_43 : q_dec 157 43 = some (17, .bipush 16, 2) := by decide +kernel
theorem i_157_45 : q_dec 157 45 = some (17, .iushr, 1) := by decide +kernel
theorem i_157_46 : q_dec 157 46 = some (17, .iadd, 1) := by decide +kernel
theorem i_157_47 : q_dec 157 47 = some (17, .istore_n 0, 1) := by decide +kernel
theorem i_157_48 : q_dec 157 48 = some (17, .iload_n 0, 1) := by decide +kernel
theorem i_157_49 : q_dec 157 49 = some (17, .bipush 63, 2) := by decide +kernel
theorem i_157_51 : q_dec 157 51 = some (17, .iand, 1) := by decide +kernel
theorem i_157_52 : q_dec 157 52 = some (17, .ireturn, 1) := by decide +kernel
theorem i_158_0 : q_dec 158 0 = some (18, .iconst 0, 1) := by decide +kernel
theorem i_158_1 : q_dec 158 1 = some (18, .istore_n 2, 1) := by decide +kernel
theorem i_158_2 : q_dec 158 2 = some (18, .aload_n 0, 1) := by decide +kernel
theorem i_158_3 : q_dec 158 3 = some (18, .arraylength, 1) := by decide +kernel
theorem i_158_4 : q_dec 158 4 = some (18, .istore_n 3, 1) := by decide +kernel
theorem i_158_5 : q_dec 158 5 = some (18, .iload_n 2, 1) := by decide +kernel
theorem i_158_6 : q_dec 158 6 = some (18, .iload_n 3, 1) := by decide +kernel
theorem i_158_7 : q_dec 158 7 = some (18, .if_icmp .ge (13), 3) := by decide +kernel
theorem i_158_10 : q_dec 158 10 = some (18, .aload_n 0, 1) := by decide +kernel
theorem i_158_11 : q_dec 158 11 = some (18, .iload_n 2, 1) := by decide +kernel
theorem i_158_12 : q_dec 158 12 = some (18, .iload_n 1, 1) := by decide +kernel
theorem i_158_13 : q_dec 158 13 = some (18, .iastore, 1) := by decide +kernel
theorem i_158_14 : q_dec 158 14 = some (18, .iinc 2 1, 3) := by decide +kernel
theorem i_158_17 : q_dec 158 17 = some (18, .goto (-12), 3) := by decide +kernel
theorem i_158_20 : q_dec 158 20 = some (18, .return_, 1) := by decide +kernel
end
section
/-! CALLS, by how many they take -/
section KS
variable {sh : QH} {d j j2 pc o : Nat} {ls : QL} {S : QS} {Q Q2 : Option Value → QS → Prop}
theorem k_cvx {x c ci : Nat} {st As r : List Value} (hd : q_dec j pc = some (o, .invokevirtual x, 3)) (hl : q_lk qct o x = some (0, j2)) (hn : q_np j2 = As.length) (ho : q_own j2 = ci) (hs : q_cls sh c = some ci) (h8 : (r.map fun v => v.category).sum ≤ 8) (hst : st = As.reverse ++ .ref c :: r) (hk : KC sh d j2 (.ref c :: As) S Q2) (k : ∀ v S2, Q2 v S2 → K sh (d + 1) j (pc + 3) ls (v.toList ++ r) S2 Q) : K sh (d + 1) j pc ls st S Q := by
  refine k_call hd rfl ?_ hk k
  have h1 : st.drop (q_np j2) = .ref c :: r := by rw [hst, hn, ← List.length_reverse, List.drop_left]
  have h2 : st.take (q_np j2) = As.reverse := by rw [hst, hn, ← List.length_reverse, List.take_left]
  simp only [q_call, hl, h1, h2, List.reverse_reverse]
  rw [if_pos ⟨trivial, by rw [ho]; exact hs, h8⟩]
theorem q_cls_of {c ci n : Nat} (h : sh[c]? = some (ci, n)) : q_cls sh c = some ci := by unfold q_cls; rw [h]
theorem k_csx {x kd : Nat} {st As r : List Value} (hd : q_dec j pc = some (o, .invokestatic x, 3)) (hl : q_lk qct o x = some (kd, j2)) (hkd : kd = 1 ∨ kd = 2) (hn : q_np j2 = As.length) (h8 : (r.map fun v => v.category).sum ≤ 8) (hst : st = As.reverse ++ r) (hk : KC sh d j2 As S Q2) (k : ∀ v S2, Q2 v S2 → K sh (d + 1) j (pc + 3) ls (v.toList ++ r) S2 Q) : K sh (d + 1) j pc ls st S Q := by
  refine k_call hd rfl ?_ hk k
  have h1 : st.drop (q_np j2) = r := by rw [hst, hn, ← List.length_reverse, List.drop_left]
  have h2 : st.take (q_np j2) = As.reverse := by rw [hst, hn, ← List.length_reverse, List.take_left]
  have h3 : q_np j2 ≤ st.length := by rw [hst, hn, List.length_append, List.length_reverse]; omega
  rcases hkd with rfl | rfl
  · simp only [q_call, hl, h1, h2, List.reverse_reverse]
    rw [if_pos ⟨trivial, h3, h8⟩]
  · simp only [q_call, hl, h1, h2, List.reverse_reverse]
    rw [if_pos ⟨trivial, h3, h8⟩]
theorem k_sux {x c ci n : Nat} {st As r : List Value} (hd : q_dec j pc = some (o, .invokespecial x, 3)) (hl : q_lk qct o x = some (3, j2)) (hn : q_np j2 = As.length) (hs : sh[c]? = some (ci, n)) (hci : ci < 13) (h8 : (r.map fun v => v.category).sum ≤ 8) (hst : st = As.reverse ++ .ref c :: r) (hk : KC sh d j2 (.ref c :: As) S Q2) (k : ∀ v S2, Q2 v S2 → K sh (d + 1) j (pc + 3) ls (v.toList ++ r) S2 Q) : K sh (d + 1) j pc ls st S Q := by
  refine k_call hd rfl ?_ hk k
  have h1 : st.drop (q_np j2) = .ref c :: r := by rw [hst, hn, ← List.length_reverse, List.drop_left]
  have h2 : st.take (q_np j2) = As.reverse := by rw [hst, hn, ← List.length_reverse, List.take_left]
  simp only [q_call, hl, h1, h2, List.reverse_reverse, q_cls_of hs]
  rw [if_pos ⟨trivial, (q_getD hs).1, hci, h8⟩]
theorem k_dix {x c ci n j0 : Nat} {st As r : List Value} (hd : q_dec j pc = some (o, .invokevirtual x, 3)) (hl : q_lk qct o x = some (4, j0)) (hn : q_np j0 = As.length) (hs : sh[c]? = some (ci, n)) (hf : qdt.find? (fun e => e.1 == ci) = some (ci, j2)) (h8 : (r.map fun v => v.category).sum ≤ 8) (hst : st = As.reverse ++ .ref c :: r) (hk : KC sh d j2 (.ref c :: As) S Q2) (k : ∀ v S2, Q2 v S2 → K sh (d + 1) j (pc + 3) ls (v.toList ++ r) S2 Q) : K sh (d + 1) j pc ls st S Q := by
  refine k_call hd rfl ?_ hk k
  have h1 : st.drop (q_np j0) = .ref c :: r := by rw [hst, hn, ← List.length_reverse, List.drop_left]
  have h2 : st.take (q_np j0) = As.reverse := by rw [hst, hn, ← List.length_reverse, List.take_left]
  simp only [q_call, hl, h1, h2, List.reverse_reverse, q_cls_of hs, hf]
  rw [if_pos ⟨trivial, (q_getD hs).1, h8⟩]
theorem k_cv0 {x c ci n : Nat} {r : List Value} (hd : q_dec j pc = some (o, .invokevirtual x, 3)) (hl : q_lk qct o x = some (0, j2)) (hn : q_np j2 = 0) (ho : q_own j2 = ci) (hs : sh[c]? = some (ci, n)) (h8 : (r.map fun v => v.category).sum ≤ 8) (hk : KC sh d j2 (.ref c :: []) S Q2) (k : ∀ v S2, Q2 v S2 → K sh (d + 1) j (pc + 3) ls (v.toList ++ r) S2 Q) : K sh (d + 1) j pc ls (.ref c :: r) S Q := k_cvx (As := []) hd hl hn ho (q_cls_of hs) h8 rfl hk k
theorem k_cs0 {x kd : Nat} {r : List Value} (hd : q_dec j pc = some (o, .invokestatic x, 3)) (hl : q_lk qct o x = some (kd, j2)) (hkd : kd = 1 ∨ kd = 2) (hn : q_np j2 = 0) (h8 : (r.map fun v => v.category).sum ≤ 8) (hk : KC sh d j2 [] S Q2) (k : ∀ v S2, Q2 v S2 → K sh (d + 1) j (pc + 3) ls (v.toList ++ r) S2 Q) : K sh (d + 1) j pc ls (r) S Q := k_csx (As := []) hd hl hkd hn h8 rfl hk k
theorem k_cv1 {x c ci n : Nat} {a1 : Value} {r : List Value} (hd : q_dec j pc = some (o, .invokevirtual x, 3)) (hl : q_lk qct o x = some (0, j2)) (hn : q_np j2 = 1) (ho : q_own j2 = ci) (hs : sh[c]? = some (ci, n)) (h8 : (r.map fun v => v.category).sum ≤ 8) (hk : KC sh d j2 (.ref c :: [a1]) S Q2) (k : ∀ v S2, Q2 v S2 → K sh (d + 1) j (pc + 3) ls (v.toList ++ r) S2 Q) : K sh (d + 1) j pc ls (a1 :: .ref c :: r) S Q := k_cvx (As := [a1]) hd hl hn ho (q_cls_of hs) h8 rfl hk k
theorem k_cs1 {x kd : Nat} {a1 : Value} {r : List Value} (hd : q_dec j pc = some (o, .invokestatic x, 3)) (hl : q_lk qct o x = some (kd, j2)) (hkd : kd = 1 ∨ kd = 2) (hn : q_np j2 = 1) (h8 : (r.map fun v => v.category).sum ≤ 8) (hk : KC sh d j2 [a1] S Q2) (k : ∀ v S2, Q2 v S2 → K sh (d + 1) j (pc + 3) ls (v.toList ++ r) S2 Q) : K sh (d + 1) j pc ls (a1 :: r) S Q := k_csx (As := [a1]) hd hl hkd hn h8 rfl hk k
theorem k_cv2 {x c ci n : Nat} {a1 a2 : Value} {r : List Value} (hd : q_dec j pc = some (o, .invokevirtual x, 3)) (hl : q_lk qct o x = some (0, j2)) (hn : q_np j2 = 2) (ho : q_own j2 = ci) (hs : sh[c]? = some (ci, n)) (h8 : (r.map fun v => v.category).sum ≤ 8) (hk : KC sh d j2 (.ref c :: [a1, a2]) S Q2) (k : ∀ v S2, Q2 v S2 → K sh (d + 1) j (pc + 3) ls (v.toList ++ r) S2 Q) : K sh (d + 1) j pc ls (a2 :: a1 :: .ref c :: r) S Q := k_cvx (As := [a1, a2]) hd hl hn ho (q_cls_of hs) h8 rfl hk k
theorem k_cs2 {x kd : Nat} {a1 a2 : Value} {r : List Value} (hd : q_dec j pc = some (o, .invokestatic x, 3)) (hl : q_lk qct o x = some (kd, j2)) (hkd : kd = 1 ∨ kd = 2) (hn : q_np j2 = 2) (h8 : (r.map fun v => v.category).sum ≤ 8) (hk : KC sh d j2 [a1, a2] S Q2) (k : ∀ v S2, Q2 v S2 → K sh (d + 1) j (pc + 3) ls (v.toList ++ r) S2 Q) : K sh (d + 1) j pc ls (a2 :: a1 :: r) S Q := k_csx (As := [a1, a2]) hd hl hkd hn h8 rfl hk k
theorem k_cv3 {x c ci n : Nat} {a1 a2 a3 : Value} {r : List Value} (hd : q_dec j pc = some (o, .invokevirtual x, 3)) (hl : q_lk qct o x = some (0, j2)) (hn : q_np j2 = 3) (ho : q_own j2 = ci) (hs : sh[c]? = some (ci, n)) (h8 : (r.map fun v => v.category).sum ≤ 8) (hk : KC sh d j2 (.ref c :: [a1, a2, a3]) S Q2) (k : ∀ v S2, Q2 v S2 → K sh (d + 1) j (pc + 3) ls (v.toList ++ r) S2 Q) : K sh (d + 1) j pc ls (a3 :: a2 :: a1 :: .ref c :: r) S Q := k_cvx (As := [a1, a2, a3]) hd hl hn ho (q_cls_of hs) h8 rfl hk k
theorem k_cs3 {x kd : Nat} {a1 a2 a3 : Value} {r : List Value} (hd : q_dec j pc = some (o, .invokestatic x, 3)) (hl : q_lk qct o x = some (kd, j2)) (hkd : kd = 1 ∨ kd = 2) (hn : q_np j2 = 3) (h8 : (r.map fun v => v.category).sum ≤ 8) (hk : KC sh d j2 [a1, a2, a3] S Q2) (k : ∀ v S2, Q2 v S2 → K sh (d + 1) j (pc + 3) ls (v.toList ++ r) S2 Q) : K sh (d + 1) j pc ls (a3 :: a2 :: a1 :: r) S Q := k_csx (As := [a1, a2, a3]) hd hl hkd hn h8 rfl hk k
theorem k_cv4 {x c ci n : Nat} {a1 a2 a3 a4 : Value} {r : List Value} (hd : q_dec j pc = some (o, .invokevirtual x, 3)) (hl : q_lk qct o x = some (0, j2)) (hn : q_np j2 = 4) (ho : q_own j2 = ci) (hs : sh[c]? = some (ci, n)) (h8 : (r.map fun v => v.category).sum ≤ 8) (hk : KC sh d j2 (.ref c :: [a1, a2, a3, a4]) S Q2) (k : ∀ v S2, Q2 v S2 → K sh (d + 1) j (pc + 3) ls (v.toList ++ r) S2 Q) : K sh (d + 1) j pc ls (a4 :: a3 :: a2 :: a1 :: .ref c :: r) S Q := k_cvx (As := [a1, a2, a3, a4]) hd hl hn ho (q_cls_of hs) h8 rfl hk k
theorem k_cs4 {x kd : Nat} {a1 a2 a3 a4 : Value} {r : List Value} (hd : q_dec j pc = some (o, .invokestatic x, 3)) (hl : q_lk qct o x = some (kd, j2)) (hkd : kd = 1 ∨ kd = 2) (hn : q_np j2 = 4) (h8 : (r.map fun v => v.category).sum ≤ 8) (hk : KC sh d j2 [a1, a2, a3, a4] S Q2) (k : ∀ v S2, Q2 v S2 → K sh (d + 1) j (pc + 3) ls (v.toList ++ r) S2 Q) : K sh (d + 1) j pc ls (a4 :: a3 :: a2 :: a1 :: r) S Q := k_csx (As := [a1, a2, a3, a4]) hd hl hkd hn h8 rfl hk k
theorem k_cv5 {x c ci n : Nat} {a1 a2 a3 a4 a5 : Value} {r : List Value} (hd : q_dec j pc = some (o, .invokevirtual x, 3)) (hl : q_lk qct o x = some (0, j2)) (hn : q_np j2 = 5) (ho : q_own j2 = ci) (hs : sh[c]? = some (ci, n)) (h8 : (r.map fun v => v.category).sum ≤ 8) (hk : KC sh d j2 (.ref c :: [a1, a2, a3, a4, a5]) S Q2) (k : ∀ v S2, Q2 v S2 → K sh (d + 1) j (pc + 3) ls (v.toList ++ r) S2 Q) : K sh (d + 1) j pc ls (a5 :: a4 :: a3 :: a2 :: a1 :: .ref c :: r) S Q := k_cvx (As := [a1, a2, a3, a4, a5]) hd hl hn ho (q_cls_of hs) h8 rfl hk k
theorem k_cs5 {x kd : Nat} {a1 a2 a3 a4 a5 : Value} {r : List Value} (hd : q_dec j pc = some (o, .invokestatic x, 3)) (hl : q_lk qct o x = some (kd, j2)) (hkd : kd = 1 ∨ kd = 2) (hn : q_np j2 = 5) (h8 : (r.map fun v => v.category).sum ≤ 8) (hk : KC sh d j2 [a1, a2, a3, a4, a5] S Q2) (k : ∀ v S2, Q2 v S2 → K sh (d + 1) j (pc + 3) ls (v.toList ++ r) S2 Q) : K sh (d + 1) j pc ls (a5 :: a4 :: a3 :: a2 :: a1 :: r) S Q := k_csx (As := [a1, a2, a3, a4, a5]) hd hl hkd hn h8 rfl hk k
/-- a method that changes nothing -/
def KP (sh : QH) (d j : Nat) (as : List Value) (S : QS) (v : Value) : Prop := KC sh d j as S (fun r S2 => r = some v ∧ S2 = S)
theorem KP.deep {sh : QH} {d j : Nat} {as : List Value} {S : QS} {v : Value} (e : Nat) (h : KP sh d j as S v) : KP sh (d + e) j as S v := KC.deep e h
theorem k_vp0 {x c ci n : Nat} {w : Value} {r : List Value} (hd : q_dec j pc = some (o, .invokevirtual x, 3)) (hl : q_lk qct o x = some (0, j2)) (hn : q_np j2 = 0) (ho : q_own j2 = ci) (hs : sh[c]? = some (ci, n)) (h8 : (r.map fun v => v.category).sum ≤ 8) (hk : KP sh d j2 (.ref c :: []) S w) (k : K sh (d + 1) j (pc + 3) ls (w :: r) S Q) : K sh (d + 1) j pc ls (.ref c :: r) S Q := k_cv0 hd hl hn ho hs h8 hk (fun v S2 h => by obtain ⟨rfl, rfl⟩ := h; exact k)
theorem k_sp0 {x kd : Nat} {w : Value} {r : List Value} (hd : q_dec j pc = some (o, .invokestatic x, 3)) (hl : q_lk qct o x = some (kd, j2)) (hkd : kd = 1 ∨ kd = 2) (hn : q_np j2 = 0) (h8 : (r.map fun v => v.category).sum ≤ 8) (hk : KP sh d j2 [] S w) (k : K sh (d + 1) j (pc + 3) ls (w :: r) S Q) : K sh (d + 1) j pc ls (r) S Q := k_cs0 hd hl hkd hn h8 hk (fun v S2 h => by obtain ⟨rfl, rfl⟩ := h; exact k)
theorem k_vp1 {x c ci n : Nat} {w : Value} {a1 : Value} {r : List Value} (hd : q_dec j pc = some (o, .invokevirtual x, 3)) (hl : q_lk qct o x = some (0, j2)) (hn : q_np j2 = 1) (ho : q_own j2 = ci) (hs : sh[c]? = some (ci, n)) (h8 : (r.map fun v => v.category).sum ≤ 8) (hk : KP sh d j2 (.ref c :: [a1]) S w) (k : K sh (d + 1) j (pc + 3) ls (w :: r) S Q) : K sh (d + 1) j pc ls (a1 :: .ref c :: r) S Q := k_cv1 hd hl hn ho hs h8 hk (fun v S2 h => by obtain ⟨rfl, rfl⟩ := h; exact k)
theorem k_sp1 {x kd : Nat} {w : Value} {a1 : Value} {r : List Value} (hd : q_dec j pc = some (o, .invokestatic x, 3)) (hl : q_lk qct o x = some (kd, j2)) (hkd : kd = 1 ∨ kd = 2) (hn : q_np j2 = 1) (h8 : (r.map fun v => v.category).sum ≤ 8) (hk : KP sh d j2 [a1] S w) (k : K sh (d + 1) j (pc + 3) ls (w :: r) S Q) : K sh (d + 1) j pc ls (a1 :: r) S Q := k_cs1 hd hl hkd hn h8 hk (fun v S2 h => by obtain ⟨rfl, rfl⟩ := h; exact k)
theorem k_vp2 {x c ci n : Nat} {w : Value} {a1 a2 : Value} {r : List Value} (hd : q_dec j pc = some (o, .invokevirtual x, 3)) (hl : q_lk qct o x = some (0, j2)) (hn : q_np j2 = 2) (ho : q_own j2 = ci) (hs : sh[c]? = some (ci, n)) (h8 : (r.map fun v => v.category).sum ≤ 8) (hk : KP sh d j2 (.ref c :: [a1, a2]) S w) (k : K sh (d + 1) j (pc + 3) ls (w :: r) S Q) : K sh (d + 1) j pc ls (a2 :: a1 :: .ref c :: r) S Q := k_cv2 hd hl hn ho hs h8 hk (fun v S2 h => by obtain ⟨rfl, rfl⟩ := h; exact k)
theorem k_sp2 {x kd : Nat} {w : Value} {a1 a2 : Value} {r : List Value} (hd : q_dec j pc = some (o, .invokestatic x, 3)) (hl : q_lk qct o x = some (kd, j2)) (hkd : kd = 1 ∨ kd = 2) (hn : q_np j2 = 2) (h8 : (r.map fun v => v.category).sum ≤ 8) (hk : KP sh d j2 [a1, a2] S w) (k : K sh (d + 1) j (pc + 3) ls (w :: r) S Q) : K sh (d + 1) j pc ls (a2 :: a1 :: r) S Q := k_cs2 hd hl hkd hn h8 hk (fun v S2 h => by obtain ⟨rfl, rfl⟩ := h; exact k)
theorem k_vp3 {x c ci n : Nat} {w : Value} {a1 a2 a3 : Value} {r : List Value} (hd : q_dec j pc = some (o, .invokevirtual x, 3)) (hl : q_lk qct o x = some (0, j2)) (hn : q_np j2 = 3) (ho : q_own j2 = ci) (hs : sh[c]? = some (ci, n)) (h8 : (r.map fun v => v.category).sum ≤ 8) (hk : KP sh d j2 (.ref c :: [a1, a2, a3]) S w) (k : K sh (d + 1) j (pc + 3) ls (w :: r) S Q) : K sh (d + 1) j pc ls (a3 :: a2 :: a1 :: .ref c :: r) S Q := k_cv3 hd hl hn ho hs h8 hk (fun v S2 h => by obtain ⟨rfl, rfl⟩ := h; exact k)
theorem k_sp3 {x kd : Nat} {w : Value} {a1 a2 a3 : Value} {r : List Value} (hd : q_dec j pc = some (o, .invokestatic x, 3)) (hl : q_lk qct o x = some (kd, j2)) (hkd : kd = 1 ∨ kd = 2) (hn : q_np j2 = 3) (h8 : (r.map fun v => v.category).sum ≤ 8) (hk : KP sh d j2 [a1, a2, a3] S w) (k : K sh (d + 1) j (pc + 3) ls (w :: r) S Q) : K sh (d + 1) j pc ls (a3 :: a2 :: a1 :: r) S Q := k_cs3 hd hl hkd hn h8 hk (fun v S2 h => by obtain ⟨rfl, rfl⟩ := h; exact k)
theorem k_vp4 {x c ci n : Nat} {w : Value} {a1 a2 a3 a4 : Value} {r : List Value} (hd : q_dec j pc = some (o, .invokevirtual x, 3)) (hl : q_lk qct o x = some (0, j2)) (hn : q_np j2 = 4) (ho : q_own j2 = ci) (hs : sh[c]? = some (ci, n)) (h8 : (r.map fun v => v.category).sum ≤ 8) (hk : KP sh d j2 (.ref c :: [a1, a2, a3, a4]) S w) (k : K sh (d + 1) j (pc + 3) ls (w :: r) S Q) : K sh (d + 1) j pc ls (a4 :: a3 :: a2 :: a1 :: .ref c :: r) S Q := k_cv4 hd hl hn ho hs h8 hk (fun v S2 h => by obtain ⟨rfl, rfl⟩ := h; exact k)
theorem k_sp4 {x kd : Nat} {w : Value} {a1 a2 a3 a4 : Value} {r : List Value} (hd : q_dec j pc = some (o, .invokestatic x, 3)) (hl : q_lk qct o x = some (kd, j2)) (hkd : kd = 1 ∨ kd = 2) (hn : q_np j2 = 4) (h8 : (r.map fun v => v.category).sum ≤ 8) (hk : KP sh d j2 [a1, a2, a3, a4] S w) (k : K sh (d + 1) j (pc + 3) ls (w :: r) S Q) : K sh (d + 1) j pc ls (a4 :: a3 :: a2 :: a1 :: r) S Q := k_cs4 hd hl hkd hn h8 hk (fun v S2 h => by obtain ⟨rfl, rfl⟩ := h; exact k)
theorem k_vp5 {x c ci n : Nat} {w : Value} {a1 a2 a3 a4 a5 : Value} {r : List Value} (hd : q_dec j pc = some (o, .invokevirtual x, 3)) (hl : q_lk qct o x = some (0, j2)) (hn : q_np j2 = 5) (ho : q_own j2 = ci) (hs : sh[c]? = some (ci, n)) (h8 : (r.map fun v => v.category).sum ≤ 8) (hk : KP sh d j2 (.ref c :: [a1, a2, a3, a4, a5]) S w) (k : K sh (d + 1) j (pc + 3) ls (w :: r) S Q) : K sh (d + 1) j pc ls (a5 :: a4 :: a3 :: a2 :: a1 :: .ref c :: r) S Q := k_cv5 hd hl hn ho hs h8 hk (fun v S2 h => by obtain ⟨rfl, rfl⟩ := h; exact k)
theorem k_sp5 {x kd : Nat} {w : Value} {a1 a2 a3 a4 a5 : Value} {r : List Value} (hd : q_dec j pc = some (o, .invokestatic x, 3)) (hl : q_lk qct o x = some (kd, j2)) (hkd : kd = 1 ∨ kd = 2) (hn : q_np j2 = 5) (h8 : (r.map fun v => v.category).sum ≤ 8) (hk : KP sh d j2 [a1, a2, a3, a4, a5] S w) (k : K sh (d + 1) j (pc + 3) ls (w :: r) S Q) : K sh (d + 1) j pc ls (a5 :: a4 :: a3 :: a2 :: a1 :: r) S Q := k_cs5 hd hl hkd hn h8 hk (fun v S2 h => by obtain ⟨rfl, rfl⟩ := h; exact k)
theorem k_su1 {x c ci n : Nat} {a1 : Value} {r : List Value} (hd : q_dec j pc = some (o, .invokespecial x, 3)) (hl : q_lk qct o x = some (3, j2)) (hn : q_np j2 = 1) (hs : sh[c]? = some (ci, n)) (hci : ci < 13) (h8 : (r.map fun v => v.category).sum ≤ 8) (hk : KC sh d j2 [.ref c, a1] S Q2) (k : ∀ v S2, Q2 v S2 → K sh (d + 1) j (pc + 3) ls (v.toList ++ r) S2 Q) : K sh (d + 1) j pc ls (a1 :: .ref c :: r) S Q := k_sux (As := [a1]) hd hl hn hs hci h8 rfl hk k
theorem k_di1 {x c ci n j0 : Nat} {a1 : Value} {r : List Value} (hd : q_dec j pc = some (o, .invokevirtual x, 3)) (hl : q_lk qct o x = some (4, j0)) (hn : q_np j0 = 1) (hs : sh[c]? = some (ci, n)) (hf : qdt.find? (fun e => e.1 == ci) = some (ci, j2)) (h8 : (r.map fun v => v.category).sum ≤ 8) (hk : KC sh d j2 [.ref c, a1] S Q2) (k : ∀ v S2, Q2 v S2 → K sh (d + 1) j (pc + 3) ls (v.toList ++ r) S2 Q) : K sh (d + 1) j pc ls (a1 :: .ref c :: r) S Q := k_dix (As := [a1]) hd hl hn hs hf h8 rfl hk k
end KS
end
section
/-! BITS of numbers from 0 on -/
theorem J_nI (n : Nat) : J (n : Int) = nI n := (J_nat n).symm
theorem sh_l : ∀ n, n < 32 → ((nI n &&& 31).toBitVec.smod 32).toNat = n := by decide +kernel
theorem J_shr {m : Nat} (hm : m < 2 ^ 31) {c : Nat} (hc : c < 32) : J (m : Int) >>> (J (c : Int) &&& 31) = J ((m / 2 ^ c : Nat) : Int) := by
  rw [J_nI, J_nI, J_nI]
  exact pk_shrN hm _ c (sh_l c hc)
theorem J_shl {m : Nat} {c : Nat} (hc : c < 32) (h : m * 2 ^ c < 2 ^ 32) : J (m : Int) <<< (J (c : Int) &&& 31) = J ((m * 2 ^ c : Nat) : Int) := by
  rw [J_nI, J_nI, J_nI]
  exact pk_shlN _ c (sh_l c hc) h
theorem J_and1 {m : Nat} (hm : m < 2 ^ 32) : J (m : Int) &&& J 1 = J ((m % 2 : Nat) : Int) := by
  rw [J_nI, J_nI]
  exact pk_andN hm 1 (by decide)
theorem J_or (a b : Nat) : J (a : Int) ||| J (b : Int) = J ((a ||| b : Nat) : Int) := by
  rw [J_nI, J_nI, J_nI]
  unfold nI
  rw [← Int32.toBitVec_inj]
  simp [Int32.toBitVec_or, Int32.toBitVec_ofNat', BitVec.ofNat_or]
theorem J_and (a b : Nat) : J (a : Int) &&& J (b : Int) = J ((a &&& b : Nat) : Int) := by
  rw [J_nI, J_nI, J_nI]
  unfold nI
  rw [← Int32.toBitVec_inj]
  simp [Int32.toBitVec_and, Int32.toBitVec_ofNat', BitVec.ofNat_and]
theorem tb_mod (m c : Nat) : (m / 2 ^ c) % 2 = if m.testBit c then 1 else 0 := by
  rw [Nat.testBit_eq_decide_div_mod_eq]
  have h := Nat.mod_two_eq_zero_or_one (m / 2 ^ c)
  rcases h with h | h <;> simp [h]
/-- a set holds k: (m >> k & 1) -/
theorem J_bit {m : Nat} (hm : m < 2 ^ 31) {c : Nat} (hc : c < 32) : (J (m : Int) >>> (J (c : Int) &&& 31)) &&& J 1 = J (bi (m.testBit c)) := by
  rw [J_shr hm hc, J_and1 (Nat.lt_of_le_of_lt (Nat.div_le_self _ _) (by omega)), tb_mod]
  cases m.testBit c <;> rfl
end
section
/-! LONGS -/
abbrev JL (z : Int) : Int64 := Int64.ofInt z
abbrev inL (a : Int) : Prop := -9223372036854775808 ≤ a ∧ a < 9223372036854775808
theorem JL_toInt {a : Int} (h : inL a) : (JL a).toInt = a := Int64.toInt_ofInt_of_le (by simpa using h.1) (by simpa using h.2)
theorem JL_lt {a b : Int} (ha : inL a) (hb : inL b) : JL a < JL b ↔ a < b := by
  rw [Int64.lt_iff_toInt_lt, JL_toInt ha, JL_toInt hb]
theorem JL_eq {a b : Int} (ha : inL a) (hb : inL b) : JL a = JL b ↔ a = b := by
  rw [← Int64.toInt_inj, JL_toInt ha, JL_toInt hb]
theorem J_l {a : Int} (h : inJ a) : (J a).toInt64 = JL a := by
  rw [← Int64.toInt_inj, Int32.toInt_toInt64, J_toInt h.1 h.2, JL_toInt ⟨by omega, by omega⟩]
section KL
variable {sh : QH} {d j pc o : Nat} {ls : QL} {st : List Value} {S : QS} {Q : Option Value → QS → Prop}
theorem k_lconstJ {k : Fin 2} {a : Int} (hd : q_dec j pc = some (o, .lconst k, 1)) (hv : Int64.ofNat (k : Nat) = JL a) (kk : K sh d j (pc + 1) ls (.long (JL a) :: st) S Q) : K sh d j pc ls st S Q := by
  rw [← hv] at kk
  exact k_lconst hd kk
theorem k_ldc2J {x : Nat} {v : Int64} {a : Int} (hd : q_dec j pc = some (o, .ldc2_w x, 3)) (hc : q_lk qcj o x = some v) (hv : v = JL a) (kk : K sh d j (pc + 3) ls (.long (JL a) :: st) S Q) : K sh d j pc ls st S Q := by
  subst hv
  exact k_ldc2 hd hc kk
theorem k_i2lJ {a : Int} (hd : q_dec j pc = some (o, .i2l, 1)) (ha : inJ a) (kk : K sh d j (pc + 1) ls (.long (JL a) :: st) S Q) : K sh d j pc ls (.int (J a) :: st) S Q := by
  rw [← J_l ha] at kk
  exact k_i2l hd kk
theorem k_lc_lt {a b off : Int} {t : Nat} (hd : q_dec j pc = some (o, .ifCond .lt off, 3)) (ht : (pc : Int) + off = (t : Int)) (ha : inL a) (hb : inL b) (k1 : a < b → K sh d j t ls st S Q) (k2 : ¬ a < b → K sh d j (pc + 3) ls st S Q) : K sh d j pc ls (.int (lg_cmp (JL a) (JL b)) :: st) S Q :=
  k_ifx hd ht (fun h => k1 (by simpa [q_cd, lg_cmp_lt, JL_lt ha hb] using h)) (fun h => k2 (by simpa [q_cd, lg_cmp_lt, JL_lt ha hb] using h))
theorem k_lc_gt {a b off : Int} {t : Nat} (hd : q_dec j pc = some (o, .ifCond .gt off, 3)) (ht : (pc : Int) + off = (t : Int)) (ha : inL a) (hb : inL b) (k1 : b < a → K sh d j t ls st S Q) (k2 : ¬ b < a → K sh d j (pc + 3) ls st S Q) : K sh d j pc ls (.int (lg_cmp (JL a) (JL b)) :: st) S Q :=
  k_ifx hd ht (fun h => k1 (by simpa [q_cd, lg_cmp_gt, JL_lt hb ha] using h)) (fun h => k2 (by simpa [q_cd, lg_cmp_gt, JL_lt hb ha] using h))
theorem k_lc_ne {x y : Int64} {off : Int} {t : Nat} (hd : q_dec j pc = some (o, .ifCond .ne off, 3)) (ht : (pc : Int) + off = (t : Int)) (k1 : ¬ x = y → K sh d j t ls st S Q) (k2 : x = y → K sh d j (pc + 3) ls st S Q) : K sh d j pc ls (.int (lg_cmp x y) :: st) S Q :=
  k_ifx hd ht (fun h => k1 (by simpa [q_cd, lg_cmp_eq] using h)) (fun h => k2 (by simpa [q_cd, lg_cmp_eq] using h))
theorem k_lc_eq {x y : Int64} {off : Int} {t : Nat} (hd : q_dec j pc = some (o, .ifCond .eq off, 3)) (ht : (pc : Int) + off = (t : Int)) (k1 : x = y → K sh d j t ls st S Q) (k2 : ¬ x = y → K sh d j (pc + 3) ls st S Q) : K sh d j pc ls (.int (lg_cmp x y) :: st) S Q :=
  k_ifx hd ht (fun h => k1 (by simpa [q_cd, lg_cmp_eq] using h)) (fun h => k2 (by simpa [q_cd, lg_cmp_eq] using h))
end KL
end
section
/-! THE TOWN -/
abbrev Tn : Type := Int × Int × Int × Int × Int × Int × Int × (Nat → Int)
abbrev tW (T : Tn) : Int := T.1
abbrev tH (T : Tn) : Int := T.2.1
abbrev tF (T : Tn) : Int := T.2.2.1
abbrev tR (T : Tn) : Int := T.2.2.2.1
abbrev tM (T : Tn) : Int := T.2.2.2.2.1
abbrev tD (T : Tn) : Int := T.2.2.2.2.2.1
abbrev tA (T : Tn) : Int := T.2.2.2.2.2.2.1
abbrev tG (T : Tn) : Nat → Int := T.2.2.2.2.2.2.2
def tN (T : Tn) : Int := tW T * tH T
/-- as a text may tell it -/
def tWF (T : Tn) : Prop := (2 ≤ tW T ∧ tW T ≤ 5) ∧ (1 ≤ tH T ∧ tH T ≤ 4) ∧ (0 ≤ tF T ∧ tF T ≤ 4) ∧ (1 ≤ tR T ∧ tR T ≤ 9) ∧ (0 ≤ tM T ∧ tM T ≤ 2) ∧ (0 ≤ tD T ∧ tD T ≤ 1) ∧ (0 ≤ tA T ∧ tA T ≤ 9) ∧ ∀ c, 0 ≤ tG T c ∧ tG T c ≤ 2
theorem tN_le {T : Tn} (h : tWF T) : 2 ≤ tN T ∧ tN T ≤ 20 := by
  obtain ⟨⟨h1, h2⟩, ⟨h3, h4⟩, -⟩ := h
  unfold tN
  constructor
  · have := Int.mul_le_mul h1 h3 (by decide) (by omega)
    omega
  · have := Int.mul_le_mul h2 h4 (by omega) (by omega)
    omega
/-- where a town lies: its cell, its two rows behind it -/
def TAt (sh : QH) (S : QS) (t : Nat) (T : Tn) : Prop := sh[t]? = some (7, 9) ∧ sh[t + 1]? = some (100, 20) ∧ sh[t + 2]? = some (100, 80) ∧ S.2.2 t 7 = some (t + 1) ∧ S.2.2 t 8 = some (t + 2) ∧ S.1 t 0 = tW T ∧ S.1 t 1 = tH T ∧ S.1 t 2 = tF T ∧ S.1 t 3 = tR T ∧ S.1 t 4 = tM T ∧ S.1 t 5 = tD T ∧ S.1 t 6 = tA T ∧ (∀ c, c < 20 → S.1 (t + 1) c = tG T c)
def tHas (T : Tn) (c : Int) : Bool := decide (0 ≤ c ∧ c < tN T)
def tHeld (c : Int) : Bool := decide (0 ≤ c ∧ c < 20)
def tOn (T : Tn) (c : Int) : Int := if 0 ≤ c ∧ c < 20 then tG T c.toNat else 0
def tOpen (T : Tn) (c : Int) : Bool := tHas T c && decide (tOn T c ≠ 1)
def tElb (T : Tn) (c : Int) : Bool := decide (0 ≤ c ∧ c < 20 ∧ tG T c.toNat = 2)
def tPart (T : Tn) (o : Int) : Int := if tM T = 0 then tR T else if tM T = 1 then tR T * o else tR T * o * o
/-- what the r-th step of a run costs -/
def tPrice (T : Tn) (nt r : Int) : Int := tA T + (if r - tF T ≤ 0 then 0 else if nt = 1 ∧ tD T = 1 then 2 * tPart T (r - tF T) else tPart T (r - tF T))
def tRun (T : Tn) (c last run d : Int) : Int := if d = last ∧ tElb T c = false then run + 1 else 1
section TW
variable {sh : QH} {S : QS} {t d : Nat} {T : Tn}
-- method 30: StraightTax$Town.isHeld.(I)Z
theorem e_isHeld (c : Int) (hc : inJ c) : KP sh d 30 [.int (J c)] S (.int (J (bi (tHeld c)))) := by
  refine k_start ql_30 (Nat.le_of_ble_eq_true rfl) ?_
  simp only [q_en, List.replicate]
  refine k_iload_n i_30_0 rfl ?_
  refine k_if_lt (t := 14) i_30_1 rfl (by omega) (fun h1 => ?_) (fun h1 => ?_)
  · refine k_iconst i_30_14 ?_
    refine k_nret i_30_15 qt_30 (by first | exact bi_nar _ | rfl) ?_
    exact ⟨by simp only [tHeld]; congr 3; simp [bi]; omega, rfl⟩
  · refine k_iload_n i_30_4 rfl ?_
    refine k_bipush i_30_5 (by decide) ?_
    refine k_ic_ge (t := 14) i_30_7 rfl (by omega) (by omega) (fun h7 => ?_) (fun h7 => ?_)
    · refine k_iconst i_30_14 ?_
      refine k_nret i_30_15 qt_30 (by first | exact bi_nar _ | rfl) ?_
      exact ⟨by simp only [tHeld]; congr 3; simp [bi]; omega, rfl⟩
    · refine k_iconst i_30_10 ?_
      refine k_goto (t := 15) i_30_11 rfl ?_
      refine k_nret i_30_15 qt_30 (by first | exact bi_nar _ | rfl) ?_
      exact ⟨by simp only [tHeld]; congr 3; simp [bi]; omega, rfl⟩
-- method 28: StraightTax$Town.squares.()I
theorem e_squares (hT : TAt sh S t T) : KP sh d 28 [.ref t] S (.int (J (tN T))) := by
  obtain ⟨s1, s2, s3, r1, r2, a0, a1, a2, a3, a4, a5, a6, ag⟩ := id hT
  refine k_start ql_28 (Nat.le_of_ble_eq_true rfl) ?_
  simp only [q_en, List.replicate]
  refine k_aload_n i_28_0 rfl ?_
  refine k_gfI i_28_1 f_7_24 (by first | rfl | assumption | (rw [hR]; rfl) | (dsimp only; rw [hR]; rfl)) (by decide) (by decide) (Or.inl rfl) ?_
  refine k_aload_n i_28_4 rfl ?_
  refine k_gfI i_28_5 f_7_28 (by first | rfl | assumption | (rw [hR]; rfl) | (dsimp only; rw [hR]; rfl)) (by decide) (by decide) (Or.inl rfl) ?_
  refine k_imul i_28_8 ?_
  refine k_iret i_28_9 qt_28 ?_
  exact ⟨by rw [a0, a1]; rfl, rfl⟩
-- by 30 (e_isHeld _ (by omega))
-- by 28 (e_squares hT)
-- method 27: StraightTax$Town.has.(I)Z
theorem e_has (hT : TAt sh S t T) (hw : tWF T) (c : Int) (hc : inJ c) : KP sh (d + 1) 27 [.ref t, .int (J c)] S (.int (J (bi (tHas T c)))) := by
  obtain ⟨s1, s2, s3, r1, r2, a0, a1, a2, a3, a4, a5, a6, ag⟩ := id hT
  have hN := tN_le hw
  refine k_start ql_27 (Nat.le_of_ble_eq_true rfl) ?_
  simp only [q_en, List.replicate]
  refine k_iload_n i_27_0 rfl ?_
  refine k_if_lt (t := 16) i_27_1 rfl (by omega) (fun h1 => ?_) (fun h1 => ?_)
  · refine k_iconst i_27_16 ?_
    refine k_nret i_27_17 qt_27 (by first | exact bi_nar _ | rfl) ?_
    exact ⟨by simp only [tHas]; congr 3; simp [bi]; omega, rfl⟩
  · refine k_iload_n i_27_4 rfl ?_
    refine k_aload_n i_27_5 rfl ?_
    refine k_vp0 i_27_6 c_7_67 qp_28 qo_28 (by first | rfl | assumption | (rw [hR]; rfl) | (dsimp only; rw [hR]; rfl)) (Nat.le_of_ble_eq_true rfl) (e_squares hT) ?_
    refine k_ic_ge (t := 16) i_27_9 rfl (by omega) (by omega) (fun h9 => ?_) (fun h9 => ?_)
    · refine k_iconst i_27_16 ?_
      refine k_nret i_27_17 qt_27 (by first | exact bi_nar _ | rfl) ?_
      exact ⟨by simp only [tHas]; congr 3; simp [bi]; omega, rfl⟩
    · refine k_iconst i_27_12 ?_
      refine k_goto (t := 17) i_27_13 rfl ?_
      refine k_nret i_27_17 qt_27 (by first | exact bi_nar _ | rfl) ?_
      exact ⟨by simp only [tHas]; congr 3; simp [bi]; omega, rfl⟩
-- method 29: StraightTax$Town.thingOn.(I)I
theorem e_thingOn (hT : TAt sh S t T) (c : Int) (hc : inJ c) : KP sh (d + 1) 29 [.ref t, .int (J c)] S (.int (J (tOn T c))) := by
  obtain ⟨s1, s2, s3, r1, r2, a0, a1, a2, a3, a4, a5, a6, ag⟩ := id hT
  refine k_start ql_29 (Nat.le_of_ble_eq_true rfl) ?_
  simp only [q_en, List.replicate]
  refine k_iload_n i_29_0 rfl ?_
  refine k_sp1 i_29_1 c_7_71 (by decide) qp_30 (Nat.le_of_ble_eq_true rfl) (e_isHeld _ hc) ?_
  refine k_if_eqB (t := 16) i_29_4 rfl (fun h => ?_) (fun h => ?_)
  · have h2 : ¬ (0 ≤ c ∧ c < 20) := by simpa [tHeld] using h
    refine k_iconst i_29_16 ?_
    refine k_iret i_29_17 qt_29 ?_
    exact ⟨by unfold tOn; rw [if_neg h2], rfl⟩
  · have h2 : 0 ≤ c ∧ c < 20 := by simpa [tHeld] using h
    refine k_aload_n i_29_7 rfl ?_
    refine k_gfR i_29_8 f_7_9 (by first | rfl | assumption | (rw [hR]; rfl) | (dsimp only; rw [hR]; rfl)) (by decide) (by decide) (Or.inr ⟨_, rfl⟩) (by first | rfl | assumption | (rw [hR]; rfl) | (dsimp only; rw [hR]; rfl)) ?_
    refine k_iload_n i_29_11 rfl ?_
    refine k_iald i_29_12 (by first | rfl | assumption | (rw [hR]; rfl) | (dsimp only; rw [hR]; rfl)) (by decide) (by omega) (by omega) ?_
    refine k_goto (t := 17) i_29_13 rfl ?_
    refine k_iret i_29_17 qt_29 ?_
    exact ⟨by unfold tOn; rw [if_pos h2, ag _ (by omega)], rfl⟩
-- by 27 (e_has hT hw _ hc)
-- by 29 (e_thingOn hT _ hc)
theorem tOn_le {T : Tn} (hw : tWF T) (c : Int) : 0 ≤ tOn T c ∧ tOn T c ≤ 2 := by
  unfold tOn
  split
  · exact hw.2.2.2.2.2.2.2 _
  · decide
-- method 26: StraightTax$Town.isOpen.(I)Z
theorem e_isOpen (hT : TAt sh S t T) (hw : tWF T) (c : Int) (hc : inJ c) : KP sh (d + 2) 26 [.ref t, .int (J c)] S (.int (J (bi (tOpen T c)))) := by
  obtain ⟨s1, s2, s3, r1, r2, a0, a1, a2, a3, a4, a5, a6, ag⟩ := id hT
  have hon := tOn_le hw c
  refine k_start ql_26 (Nat.le_of_ble_eq_true rfl) ?_
  simp only [q_en, List.replicate]
  refine k_aload_n i_26_0 rfl ?_
  refine k_iload_n i_26_1 rfl ?_
  refine k_vp1 i_26_2 c_7_74 qp_27 qo_27 (by first | rfl | assumption | (rw [hR]; rfl) | (dsimp only; rw [hR]; rfl)) (Nat.le_of_ble_eq_true rfl) (e_has hT hw _ hc) ?_
  refine k_if_eqB (t := 21) i_26_5 rfl (fun h5 => ?_) (fun h5 => ?_)
  · refine k_iconst i_26_21 ?_
    refine k_nret i_26_22 qt_26 (by first | exact bi_nar _ | rfl) ?_
    exact ⟨by simp_all [tOpen, bi], rfl⟩
  · refine k_aload_n i_26_8 rfl ?_
    refine k_iload_n i_26_9 rfl ?_
    refine k_vp1 i_26_10 c_7_77 qp_29 qo_29 (by first | rfl | assumption | (rw [hR]; rfl) | (dsimp only; rw [hR]; rfl)) (Nat.le_of_ble_eq_true rfl) (e_thingOn hT _ hc) ?_
    refine k_iconst i_26_13 ?_
    refine k_ic_eq (t := 21) i_26_14 rfl (by omega) (by omega) (fun h14 => ?_) (fun h14 => ?_)
    · refine k_iconst i_26_21 ?_
      refine k_nret i_26_22 qt_26 (by first | exact bi_nar _ | rfl) ?_
      exact ⟨by simp_all [tOpen, bi], rfl⟩
    · refine k_iconst i_26_17 ?_
      refine k_goto (t := 22) i_26_18 rfl ?_
      refine k_nret i_26_22 qt_26 (by first | exact bi_nar _ | rfl) ?_
      exact ⟨by simp_all [tOpen, bi], rfl⟩
-- method 34: StraightTax$Town.isElbow.(I)Z
theorem e_isElbow (hT : TAt sh S t T) (hw : tWF T) (c : Int) (hc : inJ c) : KP sh (d + 1) 34 [.ref t, .int (J c)] S (.int (J (bi (tElb T c)))) := by
  obtain ⟨s1, s2, s3, r1, r2, a0, a1, a2, a3, a4, a5, a6, ag⟩ := id hT
  have hg := hw.2.2.2.2.2.2.2
  refine k_start ql_34 (Nat.le_of_ble_eq_true rfl) ?_
  simp only [q_en, List.replicate]
  refine k_iload_n i_34_0 rfl ?_
  refine k_sp1 i_34_1 c_7_71 (by decide) qp_30 (Nat.le_of_ble_eq_true rfl) (e_isHeld _ hc) ?_
  refine k_if_eqB (t := 21) i_34_4 rfl (fun h => ?_) (fun h => ?_)
  · have h2 : ¬ (0 ≤ c ∧ c < 20) := by simpa [tHeld] using h
    refine k_iconst i_34_21 ?_
    refine k_nret i_34_22 qt_34 (by first | exact bi_nar _ | rfl) ?_
    exact ⟨by unfold tElb; rw [decide_eq_false (by omega)]; rfl, rfl⟩
  · have h2 : 0 ≤ c ∧ c < 20 := by simpa [tHeld] using h
    have h3 := hg c.toNat
    refine k_aload_n i_34_7 rfl ?_
    refine k_gfR i_34_8 f_7_9 (by first | rfl | assumption | (rw [hR]; rfl) | (dsimp only; rw [hR]; rfl)) (by decide) (by decide) (Or.inr ⟨_, rfl⟩) (by first | rfl | assumption | (rw [hR]; rfl) | (dsimp only; rw [hR]; rfl)) ?_
    refine k_iload_n i_34_11 rfl ?_
    refine k_iald i_34_12 (by first | rfl | assumption | (rw [hR]; rfl) | (dsimp only; rw [hR]; rfl)) (by decide) (by omega) (by omega) ?_
    rw [ag _ (by omega)]
    refine k_iconst i_34_13 ?_
    refine k_ic_ne (t := 21) i_34_14 rfl (by omega) (by omega) (fun h => ?_) (fun h => ?_)
    · refine k_iconst i_34_21 ?_
      refine k_nret i_34_22 qt_34 (by first | exact bi_nar _ | rfl) ?_
      exact ⟨by unfold tElb; rw [decide_eq_false (by omega)]; rfl, rfl⟩
    · refine k_iconst i_34_17 ?_
      refine k_goto (t := 22) i_34_18 rfl ?_
      refine k_nret i_34_22 qt_34 (by first | exact bi_nar _ | rfl) ?_
      exact ⟨by unfold tElb; rw [decide_eq_true (by omega)]; rfl, rfl⟩
end TW
end
section
/-! THE TOWN, 2: steps, prices -/
def dxx (d : Int) : Int := if d = 1 then 1 else if d = 3 then -1 else 0
def dyy (d : Int) : Int := if d = 2 then 1 else if d = 0 then -1 else 0
/-- the square at a place, or none -/
def tSq (T : Tn) (x y : Int) : Int := if 0 ≤ x ∧ x < tW T ∧ 0 ≤ y ∧ y < tH T then y * tW T + x else -1
/-- where a step leads from a square; -1: nowhere -/
def nx (T : Tn) (c d : Int) : Int := if tOpen T (tSq T (c % tW T + dxx d) (c / tW T + dyy d)) = true then tSq T (c % tW T + dxx d) (c / tW T + dyy d) else -1
/-- the table of steps as it is held -/
def TNx (S : QS) (t : Nat) (T : Tn) : Prop := ∀ c d : Nat, c < 20 → d < 4 → S.1 (t + 2) (c * 4 + d) = if (c : Int) < tN T then nx T c d else -1
def tAh (T : Tn) (c d : Int) : Int := if (0 ≤ c ∧ c < 20) ∧ (0 ≤ d ∧ d < 4) then (if c < tN T then nx T c d else -1) else -1
def isDir (d : Int) : Bool := decide (0 ≤ d ∧ d < 4)
theorem tSq_range {T : Tn} (hw : tWF T) (x y : Int) : -1 ≤ tSq T x y ∧ tSq T x y < tN T := by
  unfold tSq
  have hN := tN_le hw
  split
  · rename_i h
    obtain ⟨h1, h2, h3, h4⟩ := h
    obtain ⟨⟨w1, w2⟩, ⟨w3, w4⟩, -⟩ := hw
    have h5 := Int.mul_le_mul_of_nonneg_right (a := y) (b := tH T - 1) (c := tW T) (by omega) (by omega)
    have h6 : 0 ≤ y * tW T := Int.mul_nonneg h3 (by omega)
    have h7 : (tH T - 1) * tW T = tN T - tW T := by unfold tN; rw [Int.sub_mul, Int.mul_comm]; omega
    omega
  · omega
theorem nx_range {T : Tn} (hw : tWF T) (c d : Int) : -1 ≤ nx T c d ∧ nx T c d < tN T := by
  unfold nx
  have := tSq_range hw (c % tW T + dxx d) (c / tW T + dyy d)
  have := tN_le hw
  split <;> omega
theorem tAh_range {T : Tn} (hw : tWF T) (c d : Int) : -1 ≤ tAh T c d ∧ tAh T c d < tN T := by
  unfold tAh
  have := nx_range hw c d
  have := tN_le hw
  split
  · split <;> omega
  · omega
theorem tPart_range {T : Tn} (hw : tWF T) {o : Int} (h1 : 0 ≤ o) (h2 : o ≤ 100) : 0 ≤ tPart T o ∧ tPart T o ≤ 90000 := by
  obtain ⟨-, -, -, ⟨r1, r2⟩, -⟩ := hw
  have h3 : 0 ≤ tR T * o := Int.mul_nonneg (by omega) h1
  have h4 : tR T * o ≤ 9 * 100 := Int.mul_le_mul r2 h2 h1 (by decide)
  have h5 : 0 ≤ tR T * o * o := Int.mul_nonneg h3 h1
  have h6 : tR T * o * o ≤ 900 * 100 := Int.mul_le_mul (by omega) h2 h1 (by decide)
  unfold tPart
  split
  · omega
  · split <;> omega
theorem tPrice_range {T : Tn} (hw : tWF T) {nt r : Int} (h : r ≤ 100) : 0 ≤ tPrice T nt r ∧ tPrice T nt r ≤ 180009 := by
  have hf := hw.2.2.1
  have ha := hw.2.2.2.2.2.2.1
  unfold tPrice
  split
  · omega
  · rename_i h1
    have := tPart_range hw (o := r - tF T) (by omega) (by omega)
    split <;> omega
section TW2
variable {sh : QH} {S : QS} {t d : Nat} {T : Tn}
-- method 74: StraightTax.isDirection.(I)Z
theorem e_isDir (c : Int) (hc : inJ c) : KP sh d 74 [.int (J c)] S (.int (J (bi (isDir c)))) := by
  refine k_start ql_74 (Nat.le_of_ble_eq_true rfl) ?_
  simp only [q_en, List.replicate]
  refine k_iload_n i_74_0 rfl ?_
  refine k_if_lt (t := 13) i_74_1 rfl (by omega) (fun h1 => ?_) (fun h1 => ?_)
  · refine k_iconst i_74_13 ?_
    refine k_nret i_74_14 qt_74 (by first | exact bi_nar _ | rfl) ?_
    exact ⟨by simp only [isDir]; congr 3; simp [bi]; omega, rfl⟩
  · refine k_iload_n i_74_4 rfl ?_
    refine k_iconst i_74_5 ?_
    refine k_ic_ge (t := 13) i_74_6 rfl (by omega) (by omega) (fun h6 => ?_) (fun h6 => ?_)
    · refine k_iconst i_74_13 ?_
      refine k_nret i_74_14 qt_74 (by first | exact bi_nar _ | rfl) ?_
      exact ⟨by simp only [isDir]; congr 3; simp [bi]; omega, rfl⟩
    · refine k_iconst i_74_9 ?_
      refine k_goto (t := 14) i_74_10 rfl ?_
      refine k_nret i_74_14 qt_74 (by first | exact bi_nar _ | rfl) ?_
      exact ⟨by simp only [isDir]; congr 3; simp [bi]; omega, rfl⟩
-- method 32: StraightTax$Town.ahead.(II)I
theorem e_ahead (hT : TAt sh S t T) (hx : TNx S t T) (c q : Int) (hc : inJ c) (hq : inJ q) : KP sh (d + 1) 32 [.ref t, .int (J c), .int (J q)] S (.int (J (tAh T c q))) := by
  obtain ⟨s1, s2, s3, r1, r2, a0, a1, a2, a3, a4, a5, a6, ag⟩ := id hT
  refine k_start ql_32 (Nat.le_of_ble_eq_true rfl) ?_
  simp only [q_en, List.replicate]
  refine k_iload_n i_32_0 rfl ?_
  refine k_sp1 i_32_1 c_7_71 (by decide) qp_30 (Nat.le_of_ble_eq_true rfl) (e_isHeld _ hc) ?_
  refine k_if_eqB (t := 27) i_32_4 rfl (fun h => ?_) (fun h => ?_)
  · have h2 : ¬ (0 ≤ c ∧ c < 20) := by simpa [tHeld] using h
    refine k_iconst i_32_27 ?_
    refine k_iret i_32_28 qt_32 ?_
    exact ⟨by unfold tAh; rw [if_neg (fun z => h2 z.1)], rfl⟩
  · have h2 : 0 ≤ c ∧ c < 20 := by simpa [tHeld] using h
    refine k_iload_n i_32_7 rfl ?_
    refine k_sp1 i_32_8 c_7_81 (by decide) qp_74 (Nat.le_of_ble_eq_true rfl) (e_isDir _ hq) ?_
    refine k_if_eqB (t := 27) i_32_11 rfl (fun h => ?_) (fun h => ?_)
    · have h3 : ¬ (0 ≤ q ∧ q < 4) := by simpa [isDir] using h
      refine k_iconst i_32_27 ?_
      refine k_iret i_32_28 qt_32 ?_
      exact ⟨by unfold tAh; rw [if_neg (fun z => h3 z.2)], rfl⟩
    · have h3 : 0 ≤ q ∧ q < 4 := by simpa [isDir] using h
      have h4 := hx c.toNat q.toNat (by omega) (by omega)
      have e1 : (c * 4 + q).toNat = c.toNat * 4 + q.toNat := by omega
      have e2 : ((c.toNat : Nat) : Int) = c := by omega
      have e3 : ((q.toNat : Nat) : Int) = q := by omega
      rw [e2, e3] at h4
      refine k_aload_n i_32_14 rfl ?_
      refine k_gfR i_32_15 f_7_15 (by first | rfl | assumption | (rw [hR]; rfl) | (dsimp only; rw [hR]; rfl)) (by decide) (by decide) (Or.inr ⟨_, rfl⟩) (by first | rfl | assumption | (rw [hR]; rfl) | (dsimp only; rw [hR]; rfl)) ?_
      refine k_iload_n i_32_18 rfl ?_
      refine k_iconst i_32_19 ?_
      refine k_imul i_32_20 ?_
      refine k_iload_n i_32_21 rfl ?_
      refine k_iadd i_32_22 ?_
      refine k_iald i_32_23 (by first | rfl | assumption | (rw [hR]; rfl) | (dsimp only; rw [hR]; rfl)) (by decide) (by omega) (by omega) ?_
      refine k_goto (t := 28) i_32_24 rfl ?_
      refine k_iret i_32_28 qt_32 ?_
      exact ⟨by unfold tAh; rw [if_pos ⟨h2, h3⟩, e1, h4], rfl⟩
-- method 25: StraightTax$Town.squareAt.(II)I
theorem e_squareAt (hT : TAt sh S t T) (hw : tWF T) (x y : Int) (hx : inJ x) (hy : inJ y) : KP sh d 25 [.ref t, .int (J x), .int (J y)] S (.int (J (tSq T x y))) := by
  obtain ⟨s1, s2, s3, r1, r2, a0, a1, a2, a3, a4, a5, a6, ag⟩ := id hT
  obtain ⟨⟨w1, w2⟩, ⟨w3, w4⟩, -⟩ := hw
  refine k_start ql_25 (Nat.le_of_ble_eq_true rfl) ?_
  simp only [q_en, List.replicate]
  refine k_iload_n i_25_0 rfl ?_
  refine k_if_lt (t := 35) i_25_1 rfl (by omega) (fun h1 => ?_) (fun h1 => ?_)
  · refine k_iconst i_25_35 ?_
    refine k_iret i_25_36 qt_25 ?_
    exact ⟨by unfold tSq; first | rw [if_neg (by omega)] | (rw [if_pos (by omega), a0]), rfl⟩
  · refine k_iload_n i_25_4 rfl ?_
    refine k_aload_n i_25_5 rfl ?_
    refine k_gfI i_25_6 f_7_24 (by first | rfl | assumption | (rw [hR]; rfl) | (dsimp only; rw [hR]; rfl)) (by decide) (by decide) (Or.inl rfl) ?_
    refine k_ic_ge (t := 35) i_25_9 rfl (by omega) (by omega) (fun h9 => ?_) (fun h9 => ?_)
    · refine k_iconst i_25_35 ?_
      refine k_iret i_25_36 qt_25 ?_
      exact ⟨by unfold tSq; first | rw [if_neg (by omega)] | (rw [if_pos (by omega), a0]), rfl⟩
    · refine k_iload_n i_25_12 rfl ?_
      refine k_if_lt (t := 35) i_25_13 rfl (by omega) (fun h13 => ?_) (fun h13 => ?_)
      · refine k_iconst i_25_35 ?_
        refine k_iret i_25_36 qt_25 ?_
        exact ⟨by unfold tSq; first | rw [if_neg (by omega)] | (rw [if_pos (by omega), a0]), rfl⟩
      · refine k_iload_n i_25_16 rfl ?_
        refine k_aload_n i_25_17 rfl ?_
        refine k_gfI i_25_18 f_7_28 (by first | rfl | assumption | (rw [hR]; rfl) | (dsimp only; rw [hR]; rfl)) (by decide) (by decide) (Or.inl rfl) ?_
        refine k_ic_ge (t := 35) i_25_21 rfl (by omega) (by omega) (fun h21 => ?_) (fun h21 => ?_)
        · refine k_iconst i_25_35 ?_
          refine k_iret i_25_36 qt_25 ?_
          exact ⟨by unfold tSq; first | rw [if_neg (by omega)] | (rw [if_pos (by omega), a0]), rfl⟩
        · refine k_iload_n i_25_24 rfl ?_
          refine k_aload_n i_25_25 rfl ?_
          refine k_gfI i_25_26 f_7_24 (by first | rfl | assumption | (rw [hR]; rfl) | (dsimp only; rw [hR]; rfl)) (by decide) (by decide) (Or.inl rfl) ?_
          refine k_imul i_25_29 ?_
          refine k_iload_n i_25_30 rfl ?_
          refine k_iadd i_25_31 ?_
          refine k_goto (t := 36) i_25_32 rfl ?_
          refine k_iret i_25_36 qt_25 ?_
          exact ⟨by unfold tSq; first | rw [if_neg (by omega)] | (rw [if_pos (by omega), a0]), rfl⟩
-- method 33: StraightTax$Town.runOf.(IIII)I
theorem e_runOf (hT : TAt sh S t T) (hw : tWF T) (c last run q : Int) (hc : inJ c) (hl : inJ last) (hq : inJ q) : KP sh (d + 2) 33 [.ref t, .int (J c), .int (J last), .int (J run), .int (J q)] S (.int (J (tRun T c last run q))) := by
  obtain ⟨s1, s2, s3, r1, r2, a0, a1, a2, a3, a4, a5, a6, ag⟩ := id hT
  refine k_start ql_33 (Nat.le_of_ble_eq_true rfl) ?_
  simp only [q_en, List.replicate]
  refine k_iload i_33_0 rfl ?_
  refine k_iload_n i_33_2 rfl ?_
  refine k_ic_ne (t := 20) i_33_3 rfl (by omega) (by omega) (fun h => ?_) (fun h => ?_)
  · refine k_iconst i_33_20 ?_
    refine k_iret i_33_21 qt_33 ?_
    exact ⟨by unfold tRun; rw [if_neg (fun z => h z.1)], rfl⟩
  · refine k_aload_n i_33_6 rfl ?_
    refine k_iload_n i_33_7 rfl ?_
    refine k_vp1 i_33_8 c_7_94 qp_34 qo_34 (by first | rfl | assumption | (rw [hR]; rfl) | (dsimp only; rw [hR]; rfl)) (Nat.le_of_ble_eq_true rfl) (e_isElbow hT hw _ hc) ?_
    refine k_if_neB (t := 20) i_33_11 rfl (fun h => ?_) (fun h => ?_)
    · refine k_iconst i_33_20 ?_
      refine k_iret i_33_21 qt_33 ?_
      exact ⟨by unfold tRun; rw [if_neg (fun z => by simp [h] at z)], rfl⟩
    · refine k_iload_n i_33_14 rfl ?_
      refine k_iconst i_33_15 ?_
      refine k_iadd i_33_16 ?_
      refine k_goto (t := 21) i_33_17 rfl ?_
      refine k_iret i_33_21 qt_33 ?_
      exact ⟨by unfold tRun; rw [if_pos ⟨by omega, h⟩], rfl⟩
-- method 35: StraightTax$Town.price.(IZ)I
theorem e_price (hT : TAt sh S t T) (hw : tWF T) (r nt : Int) (hr : -100 ≤ r ∧ r ≤ 100) (hn : nt = 0 ∨ nt = 1) : KP sh d 35 [.ref t, .int (J r), .int (J nt)] S (.int (J (tPrice T nt r))) := by
  obtain ⟨s1, s2, s3, r1, r2, a0, a1, a2, a3, a4, a5, a6, ag⟩ := id hT
  obtain ⟨⟨w1, w2⟩, ⟨w3, w4⟩, ⟨w5, w6⟩, ⟨w7, w8⟩, ⟨w9, w10⟩, ⟨w11, w12⟩, ⟨w13, w14⟩, -⟩ := id hw
  refine k_start ql_35 (Nat.le_of_ble_eq_true rfl) ?_
  simp only [q_en, List.replicate]
  refine k_iload_n i_35_0 rfl ?_
  refine k_aload_n i_35_1 rfl ?_
  refine k_gfI i_35_2 f_7_31 (by first | rfl | assumption | (rw [hR]; rfl) | (dsimp only; rw [hR]; rfl)) (by decide) (by decide) (Or.inl rfl) ?_
  refine k_isub i_35_5 ?_
  refine k_istore_n i_35_6 (Nat.le_of_ble_eq_true rfl) ?_
  dsimp only [q_st1, q_st2, q_unl]
  refine k_iload_n i_35_7 rfl ?_
  refine k_if_gt (t := 16) i_35_8 rfl (by omega) (fun h8 => ?_) (fun h8 => ?_)
  · refine k_aload_n i_35_16 rfl ?_
    refine k_gfI i_35_17 f_7_34 (by first | rfl | assumption | (rw [hR]; rfl) | (dsimp only; rw [hR]; rfl)) (by decide) (by decide) (Or.inl rfl) ?_
    refine k_istore i_35_20 (Nat.le_of_ble_eq_true rfl) ?_
    dsimp only [q_st1, q_st2, q_unl]
    refine k_aload_n i_35_22 rfl ?_
    refine k_gfI i_35_23 f_7_37 (by first | rfl | assumption | (rw [hR]; rfl) | (dsimp only; rw [hR]; rfl)) (by decide) (by decide) (Or.inl rfl) ?_
    refine k_iconst i_35_26 ?_
    refine k_ic_ne (t := 41) i_35_27 rfl (by omega) (by omega) (fun h27 => ?_) (fun h27 => ?_)
    · refine k_aload_n i_35_41 rfl ?_
      refine k_gfI i_35_42 f_7_37 (by first | rfl | assumption | (rw [hR]; rfl) | (dsimp only; rw [hR]; rfl)) (by decide) (by decide) (Or.inl rfl) ?_
      refine k_iconst i_35_45 ?_
      refine k_ic_ne (t := 59) i_35_46 rfl (by omega) (by omega) (fun h46 => ?_) (fun h46 => ?_)
      · refine k_iload_n i_35_59 rfl ?_
        refine k_if_eq (t := 82) i_35_60 rfl (by omega) (fun h60 => ?_) (fun h60 => ?_)
        · refine k_aload_n i_35_82 rfl ?_
          refine k_gfI i_35_83 f_7_44 (by first | rfl | assumption | (rw [hR]; rfl) | (dsimp only; rw [hR]; rfl)) (by decide) (by decide) (Or.inl rfl) ?_
          refine k_iload i_35_86 rfl ?_
          refine k_iadd i_35_88 ?_
          refine k_iret i_35_89 qt_35 ?_
          exact ⟨by simp only [a2, a3, a4, a5, a6] at *; congr 3; unfold tPrice tPart; repeat' split <;> first | omega | rfl | skip, rfl⟩
        · refine k_aload_n i_35_63 rfl ?_
          refine k_gfI i_35_64 f_7_40 (by first | rfl | assumption | (rw [hR]; rfl) | (dsimp only; rw [hR]; rfl)) (by decide) (by decide) (Or.inr rfl) ?_
          refine k_if_eq (t := 82) i_35_67 rfl (by omega) (fun h67 => ?_) (fun h67 => ?_)
          · refine k_aload_n i_35_82 rfl ?_
            refine k_gfI i_35_83 f_7_44 (by first | rfl | assumption | (rw [hR]; rfl) | (dsimp only; rw [hR]; rfl)) (by decide) (by decide) (Or.inl rfl) ?_
            refine k_iload i_35_86 rfl ?_
            refine k_iadd i_35_88 ?_
            refine k_iret i_35_89 qt_35 ?_
            exact ⟨by simp only [a2, a3, a4, a5, a6] at *; congr 3; unfold tPrice tPart; repeat' split <;> first | omega | rfl | skip, rfl⟩
          · refine k_aload_n i_35_70 rfl ?_
            refine k_gfI i_35_71 f_7_44 (by first | rfl | assumption | (rw [hR]; rfl) | (dsimp only; rw [hR]; rfl)) (by decide) (by decide) (Or.inl rfl) ?_
            refine k_iconst i_35_74 ?_
            refine k_iload i_35_75 rfl ?_
            refine k_imul i_35_77 ?_
            refine k_iadd i_35_78 ?_
            refine k_goto (t := 89) i_35_79 rfl ?_
            refine k_iret i_35_89 qt_35 ?_
            exact ⟨by simp only [a2, a3, a4, a5, a6] at *; congr 3; unfold tPrice tPart; repeat' split <;> first | omega | rfl | skip, rfl⟩
      · refine k_aload_n i_35_49 rfl ?_
        refine k_gfI i_35_50 f_7_34 (by first | rfl | assumption | (rw [hR]; rfl) | (dsimp only; rw [hR]; rfl)) (by decide) (by decide) (Or.inl rfl) ?_
        refine k_iload_n i_35_53 rfl ?_
        refine k_imul i_35_54 ?_
        refine k_iload_n i_35_55 rfl ?_
        refine k_imul i_35_56 ?_
        refine k_istore i_35_57 (Nat.le_of_ble_eq_true rfl) ?_
        dsimp only [q_st1, q_st2, q_unl]
        refine k_iload_n i_35_59 rfl ?_
        refine k_if_eq (t := 82) i_35_60 rfl (by omega) (fun h60 => ?_) (fun h60 => ?_)
        · refine k_aload_n i_35_82 rfl ?_
          refine k_gfI i_35_83 f_7_44 (by first | rfl | assumption | (rw [hR]; rfl) | (dsimp only; rw [hR]; rfl)) (by decide) (by decide) (Or.inl rfl) ?_
          refine k_iload i_35_86 rfl ?_
          refine k_iadd i_35_88 ?_
          refine k_iret i_35_89 qt_35 ?_
          exact ⟨by simp only [a2, a3, a4, a5, a6] at *; congr 3; unfold tPrice tPart; repeat' split <;> first | omega | rfl | skip, rfl⟩
        · refine k_aload_n i_35_63 rfl ?_
          refine k_gfI i_35_64 f_7_40 (by first | rfl | assumption | (rw [hR]; rfl) | (dsimp only; rw [hR]; rfl)) (by decide) (by decide) (Or.inr rfl) ?_
          refine k_if_eq (t := 82) i_35_67 rfl (by omega) (fun h67 => ?_) (fun h67 => ?_)
          · refine k_aload_n i_35_82 rfl ?_
            refine k_gfI i_35_83 f_7_44 (by first | rfl | assumption | (rw [hR]; rfl) | (dsimp only; rw [hR]; rfl)) (by decide) (by decide) (Or.inl rfl) ?_
            refine k_iload i_35_86 rfl ?_
            refine k_iadd i_35_88 ?_
            refine k_iret i_35_89 qt_35 ?_
            exact ⟨by simp only [a2, a3, a4, a5, a6] at *; congr 3; unfold tPrice tPart; repeat' split <;> first | omega | rfl | skip, rfl⟩
          · refine k_aload_n i_35_70 rfl ?_
            refine k_gfI i_35_71 f_7_44 (by first | rfl | assumption | (rw [hR]; rfl) | (dsimp only; rw [hR]; rfl)) (by decide) (by decide) (Or.inl rfl) ?_
            refine k_iconst i_35_74 ?_
            refine k_iload i_35_75 rfl ?_
            refine k_imul i_35_77 ?_
            refine k_iadd i_35_78 ?_
            refine k_goto (t := 89) i_35_79 rfl ?_
            refine k_iret i_35_89 qt_35 ?_
            exact ⟨by simp only [a2, a3, a4, a5, a6] at *; congr 3; unfold tPrice tPart; repeat' split <;> first | omega | rfl | skip, rfl⟩
    · refine k_aload_n i_35_30 rfl ?_
      refine k_gfI i_35_31 f_7_34 (by first | rfl | assumption | (rw [hR]; rfl) | (dsimp only; rw [hR]; rfl)) (by decide) (by decide) (Or.inl rfl) ?_
      refine k_iload_n i_35_34 rfl ?_
      refine k_imul i_35_35 ?_
      refine k_istore i_35_36 (Nat.le_of_ble_eq_true rfl) ?_
      dsimp only [q_st1, q_st2, q_unl]
      refine k_goto (t := 59) i_35_38 rfl ?_
      refine k_iload_n i_35_59 rfl ?_
      refine k_if_eq (t := 82) i_35_60 rfl (by omega) (fun h60 => ?_) (fun h60 => ?_)
      · refine k_aload_n i_35_82 rfl ?_
        refine k_gfI i_35_83 f_7_44 (by first | rfl | assumption | (rw [hR]; rfl) | (dsimp only; rw [hR]; rfl)) (by decide) (by decide) (Or.inl rfl) ?_
        refine k_iload i_35_86 rfl ?_
        refine k_iadd i_35_88 ?_
        refine k_iret i_35_89 qt_35 ?_
        exact ⟨by simp only [a2, a3, a4, a5, a6] at *; congr 3; unfold tPrice tPart; repeat' split <;> first | omega | rfl | skip, rfl⟩
      · refine k_aload_n i_35_63 rfl ?_
        refine k_gfI i_35_64 f_7_40 (by first | rfl | assumption | (rw [hR]; rfl) | (dsimp only; rw [hR]; rfl)) (by decide) (by decide) (Or.inr rfl) ?_
        refine k_if_eq (t := 82) i_35_67 rfl (by omega) (fun h67 => ?_) (fun h67 => ?_)
        · refine k_aload_n i_35_82 rfl ?_
          refine k_gfI i_35_83 f_7_44 (by first | rfl | assumption | (rw [hR]; rfl) | (dsimp only; rw [hR]; rfl)) (by decide) (by decide) (Or.inl rfl) ?_
          refine k_iload i_35_86 rfl ?_
          refine k_iadd i_35_88 ?_
          refine k_iret i_35_89 qt_35 ?_
          exact ⟨by simp only [a2, a3, a4, a5, a6] at *; congr 3; unfold tPrice tPart; repeat' split <;> first | omega | rfl | skip, rfl⟩
        · refine k_aload_n i_35_70 rfl ?_
          refine k_gfI i_35_71 f_7_44 (by first | rfl | assumption | (rw [hR]; rfl) | (dsimp only; rw [hR]; rfl)) (by decide) (by decide) (Or.inl rfl) ?_
          refine k_iconst i_35_74 ?_
          refine k_iload i_35_75 rfl ?_
          refine k_imul i_35_77 ?_
          refine k_iadd i_35_78 ?_
          refine k_goto (t := 89) i_35_79 rfl ?_
          refine k_iret i_35_89 qt_35 ?_
          exact ⟨by simp only [a2, a3, a4, a5, a6] at *; congr 3; unfold tPrice tPart; repeat' split <;> first | omega | rfl | skip, rfl⟩
  · refine k_aload_n i_35_11 rfl ?_
    refine k_gfI i_35_12 f_7_44 (by first | rfl | assumption | (rw [hR]; rfl) | (dsimp only; rw [hR]; rfl)) (by decide) (by decide) (Or.inl rfl) ?_
    refine k_iret i_35_15 qt_35 ?_
    exact ⟨by simp only [a2, a3, a4, a5, a6] at *; congr 3; unfold tPrice tPart; repeat' split <;> first | omega | rfl | skip, rfl⟩
end TW2
end
section
/-! THE TOWN, 3: loops -/
/-- a row filled with one value, as far as n -/
def q_fill (f : Nat → Nat → Int) (c n : Nat) (v : Int) : Nat → Nat → Int := fun c' k => if c' = c ∧ k < n then v else f c' k
theorem q_fill_0 (f : Nat → Nat → Int) (c : Nat) (v : Int) : q_fill f c 0 v = f := by
  funext c' k
  simp [q_fill]
theorem q_fill_S (f : Nat → Nat → Int) (c n : Nat) (v : Int) : q_up (q_fill f c n v) c n v = q_fill f c (n + 1) v := by
  funext c' k
  unfold q_up q_fill
  by_cases h1 : c' = c
  · by_cases h2 : k = n
    · subst h1; subst h2; simp
    · have : (k < n + 1) = (k < n) := by simp; omega
      simp [h1, h2, this]
  · simp [h1]
section TW3
variable {sh : QH} {S : QS} {t d : Nat} {T : Tn}
-- method 158: java/util/Arrays.fill.([II)V
theorem l_fill {a n : Nat} (hs : sh[a]? = some (100, n)) (hn : n < 100000) (v : Int) (Q : Option Value → QS → Prop) (f : Nat → Nat → Int) (X : (Nat → Nat → Int64) × (Nat → Nat → Option Nat)) (hq : Q none (q_fill f a n v, X)) : ∀ (m : Nat) (i : Int), 0 ≤ i → i ≤ n → (n - i).toNat ≤ m → K sh d 158 5 [some (.ref a), some (.int (J v)), some (.int (J i)), some (.int (J (n : Int)))] [] (q_fill f a i.toNat v, X) Q := by
  intro m
  induction m with
  | zero =>
    intro i h0 h1 h2
    have e : i = n := by omega
    subst e
    refine k_iload_n i_158_5 rfl ?_
    refine k_iload_n i_158_6 rfl ?_
    refine k_ic_ge (t := 20) i_158_7 rfl (by omega) (by omega) (fun h => ?_) (fun h => ?_)
    · refine k_vret i_158_20 qt_158 ?_
      rw [show ((n : Int)).toNat = n by omega]
      exact hq
    · omega
  | succ m ih =>
    intro i h0 h1 h2
    refine k_iload_n i_158_5 rfl ?_
    refine k_iload_n i_158_6 rfl ?_
    refine k_ic_ge (t := 20) i_158_7 rfl (by omega) (by omega) (fun h => ?_) (fun h => ?_)
    · refine k_vret i_158_20 qt_158 ?_
      have e : i = n := by omega
      rw [e, show ((n : Int)).toNat = n by omega]
      exact hq
    · refine k_aload_n i_158_10 rfl ?_
      refine k_iload_n i_158_11 rfl ?_
      refine k_iload_n i_158_12 rfl ?_
      refine k_iast i_158_13 hs (by omega) h0 (by omega) ?_
      refine k_iinc i_158_14 rfl (Nat.le_of_ble_eq_true rfl) ?_
      dsimp only [q_st1, q_st2, q_unl]
      refine k_goto (t := 5) i_158_17 rfl ?_
      rw [q_fill_S, show i.toNat + 1 = (i + 1).toNat by omega]
      exact ih (i + 1) (by omega) (by omega) (by omega)
theorem e_fill {a n : Nat} (hs : sh[a]? = some (100, n)) (hn : n < 100000) (v : Int) : KC sh d 158 [.ref a, .int (J v)] S (fun r S2 => r = none ∧ S2 = (q_fill S.1 a n v, S.2)) := by
  refine k_start ql_158 (Nat.le_of_ble_eq_true rfl) ?_
  simp only [q_en, List.replicate]
  refine k_iconst i_158_0 ?_
  refine k_istore_n i_158_1 (Nat.le_of_ble_eq_true rfl) ?_
  dsimp only [q_st1, q_st2, q_unl]
  refine k_aload_n i_158_2 rfl ?_
  refine k_alen i_158_3 (by first | rfl | assumption | (rw [hR]; rfl) | (dsimp only; rw [hR]; rfl)) ?_
  refine k_istore_n i_158_4 (Nat.le_of_ble_eq_true rfl) ?_
  dsimp only [q_st1, q_st2, q_unl]
  have h := l_fill (d := d) hs hn v (fun r S2 => r = none ∧ S2 = (q_fill S.1 a n v, S.2)) S.1 S.2 ⟨rfl, rfl⟩ n 0 (by omega) (by omega) (by omega)
  rw [show (0 : Int).toNat = 0 from rfl, q_fill_0] at h
  exact h
-- method 86: StraightTax.isIn.(II)Z
theorem e_isIn {m : Nat} (hm : m < 2 ^ 31) (c : Int) (h0 : 0 ≤ c) (h1 : c < 32) : KP sh d 86 [.int (J (m : Int)), .int (J c)] S (.int (J (bi (m.testBit c.toNat)))) := by
  obtain ⟨k, rfl⟩ : ∃ k : Nat, c = k := ⟨c.toNat, by omega⟩
  refine k_start ql_86 (Nat.le_of_ble_eq_true rfl) ?_
  simp only [q_en, List.replicate]
  refine k_iload_n i_86_0 rfl ?_
  refine k_iload_n i_86_1 rfl ?_
  refine k_ishr i_86_2 (J_shr hm (by omega)) ?_
  refine k_iconst i_86_3 ?_
  have hk : k < 32 := by omega
  refine k_iand (c := bi (m.testBit k)) i_86_4 (by rw [← J_shr hm hk]; exact J_bit hm hk) ?_
  refine k_if_eqB (t := 12) i_86_5 rfl (fun h => ?_) (fun h => ?_)
  · refine k_iconst i_86_12 ?_
    refine k_nret i_86_13 qt_86 (by first | exact bi_nar _ | rfl) ?_
    exact ⟨by rw [show (((k : Int)).toNat) = k by omega, h]; rfl, rfl⟩
  · refine k_iconst i_86_8 ?_
    refine k_goto (t := 13) i_86_9 rfl ?_
    refine k_nret i_86_13 qt_86 (by first | exact bi_nar _ | rfl) ?_
    exact ⟨by rw [show (((k : Int)).toNat) = k by omega, h]; rfl, rfl⟩
/-- how many squares below k have a thing -/
def tCnt (T : Tn) (x : Int) : Nat → Int
  | 0 => 0
  | k + 1 => tCnt T x k + (if tOn T k = x then 1 else 0)
theorem tCnt_range (T : Tn) (x : Int) : ∀ k, 0 ≤ tCnt T x k ∧ tCnt T x k ≤ k
  | 0 => by simp [tCnt]
  | k + 1 => by
    have := tCnt_range T x k
    unfold tCnt
    split <;> omega
-- method 39: StraightTax$Town.countOf.(I)I
theorem l_countOf (hT : TAt sh S t T) (hw : tWF T) (x : Int) (hx : inJ x) (Q : Option Value → QS → Prop) (hq : Q (some (.int (J (tCnt T x (tN T).toNat)))) S) : ∀ (m : Nat) (i : Int), 0 ≤ i → i ≤ tN T → (tN T - i).toNat ≤ m → K sh (d + 2) 39 4 [some (.ref t), some (.int (J x)), some (.int (J (tCnt T x i.toNat))), some (.int (J i))] [] S Q := by
  obtain ⟨s1, s2, s3, r1, r2, a0, a1, a2, a3, a4, a5, a6, ag⟩ := id hT
  have hN := tN_le hw
  intro m
  induction m with
  | zero =>
    intro i h0 h1 h2
    have e : i = tN T := by omega
    subst e
    refine k_iload_n i_39_4 rfl ?_
    refine k_aload_n i_39_5 rfl ?_
    refine k_vp0 i_39_6 c_7_67 qp_28 qo_28 (by first | rfl | assumption | (rw [hR]; rfl) | (dsimp only; rw [hR]; rfl)) (Nat.le_of_ble_eq_true rfl) (e_squares hT) ?_
    refine k_ic_ge (t := 30) i_39_9 rfl (by omega) (by omega) (fun h => ?_) (fun h => ?_)
    · refine k_iload_n i_39_30 rfl ?_
      refine k_iret i_39_31 qt_39 ?_
      exact hq
    · omega
  | succ m ih =>
    intro i h0 h1 h2
    have hon := tOn_le hw i
    have hcr := tCnt_range T x i.toNat
    refine k_iload_n i_39_4 rfl ?_
    refine k_aload_n i_39_5 rfl ?_
    refine k_vp0 i_39_6 c_7_67 qp_28 qo_28 (by first | rfl | assumption | (rw [hR]; rfl) | (dsimp only; rw [hR]; rfl)) (Nat.le_of_ble_eq_true rfl) (e_squares hT) ?_
    refine k_ic_ge (t := 30) i_39_9 rfl (by omega) (by omega) (fun h => ?_) (fun h => ?_)
    · refine k_iload_n i_39_30 rfl ?_
      refine k_iret i_39_31 qt_39 ?_
      rw [show i = tN T by omega]
      exact hq
    · refine k_aload_n i_39_12 rfl ?_
      refine k_iload_n i_39_13 rfl ?_
      refine k_vp1 i_39_14 c_7_77 qp_29 qo_29 (by first | rfl | assumption | (rw [hR]; rfl) | (dsimp only; rw [hR]; rfl)) (Nat.le_of_ble_eq_true rfl) (e_thingOn hT _ (by omega)) ?_
      refine k_iload_n i_39_17 rfl ?_
      have eS : tCnt T x (i + 1).toNat = tCnt T x i.toNat + (if tOn T i = x then 1 else 0) := by
        rw [show (i + 1).toNat = i.toNat + 1 by omega]
        show tCnt T x i.toNat + (if tOn T (i.toNat : Int) = x then 1 else 0) = _
        rw [show ((i.toNat : Nat) : Int) = i by omega]
      have hi := ih (i + 1) (by omega) (by omega) (by omega)
      refine k_ic_ne (t := 24) i_39_18 rfl (by omega) (by omega) (fun g => ?_) (fun g => ?_)
      · refine k_iinc i_39_24 rfl (Nat.le_of_ble_eq_true rfl) ?_
        dsimp only [q_st1, q_st2, q_unl]
        refine k_goto (t := 4) i_39_27 rfl ?_
        rw [eS, if_neg g, Int.add_zero] at hi
        exact hi
      · refine k_iinc i_39_21 rfl (Nat.le_of_ble_eq_true rfl) ?_
        dsimp only [q_st1, q_st2, q_unl]
        refine k_iinc i_39_24 rfl (Nat.le_of_ble_eq_true rfl) ?_
        dsimp only [q_st1, q_st2, q_unl]
        refine k_goto (t := 4) i_39_27 rfl ?_
        rw [eS, if_pos (by omega)] at hi
        exact hi
theorem e_countOf (hT : TAt sh S t T) (hw : tWF T) (x : Int) (hx : inJ x) : KP sh (d + 2) 39 [.ref t, .int (J x)] S (.int (J (tCnt T x (tN T).toNat))) := by
  have hN := tN_le hw
  refine k_start ql_39 (Nat.le_of_ble_eq_true rfl) ?_
  simp only [q_en, List.replicate]
  refine k_iconst i_39_0 ?_
  refine k_istore_n i_39_1 (Nat.le_of_ble_eq_true rfl) ?_
  dsimp only [q_st1, q_st2, q_unl]
  refine k_iconst i_39_2 ?_
  refine k_istore_n i_39_3 (Nat.le_of_ble_eq_true rfl) ?_
  dsimp only [q_st1, q_st2, q_unl]
  exact l_countOf hT hw x hx (fun r S2 => r = some (.int (J (tCnt T x (tN T).toNat))) ∧ S2 = S) ⟨rfl, rfl⟩ (tN T).toNat 0 (by omega) (by omega) (by omega)
-- method 31: StraightTax$Town.put.(II)V
theorem e_put (hT : TAt sh S t T) (c x : Int) (hc : 0 ≤ c ∧ c < 20) : KC sh (d + 1) 31 [.ref t, .int (J c), .int (J x)] S (fun r S2 => r = none ∧ S2 = (q_up S.1 (t + 1) c.toNat x, S.2)) := by
  obtain ⟨s1, s2, s3, r1, r2, a0, a1, a2, a3, a4, a5, a6, ag⟩ := id hT
  refine k_start ql_31 (Nat.le_of_ble_eq_true rfl) ?_
  simp only [q_en, List.replicate]
  refine k_iload_n i_31_0 rfl ?_
  refine k_sp1 i_31_1 c_7_71 (by decide) qp_30 (Nat.le_of_ble_eq_true rfl) (e_isHeld _ (by omega)) ?_
  refine k_if_eqB (t := 14) i_31_4 rfl (fun h => ?_) (fun h => ?_)
  · exact absurd h (by simp [tHeld]; omega)
  · refine k_aload_n i_31_7 rfl ?_
    refine k_gfR i_31_8 f_7_9 (by first | rfl | assumption | (rw [hR]; rfl) | (dsimp only; rw [hR]; rfl)) (by decide) (by decide) (Or.inr ⟨_, rfl⟩) (by first | rfl | assumption | (rw [hR]; rfl) | (dsimp only; rw [hR]; rfl)) ?_
    refine k_iload_n i_31_11 rfl ?_
    refine k_iload_n i_31_12 rfl ?_
    refine k_iast i_31_13 (by first | rfl | assumption | (rw [hR]; rfl) | (dsimp only; rw [hR]; rfl)) (by decide) (by omega) (by omega) ?_
    refine k_vret i_31_14 qt_31 ?_
    exact ⟨rfl, rfl⟩
end TW3
end
section
/-! THE REFERENCE: its world, its small methods -/
def shM : QH := [(12, 35), (100, 200), (100, 390), (102, 2), (100, 6), (100, 6), (100, 5), (100, 340), (100, 340), (100, 61), (100, 5), (100, 25), (100, 80), (100, 9), (100, 9), (100, 9)]
def rM : Nat → Nat → Option Nat := fun c k => match c with
  | 0 => match k with
    | 9 => some 1
    | 11 => some 2
    | 12 => some 3
    | 14 => some 4
    | 15 => some 5
    | 21 => some 6
    | 26 => some 7
    | 27 => some 8
    | 28 => some 9
    | 29 => some 10
    | 30 => some 11
    | 31 => some 12
    | 32 => some 13
    | 33 => some 14
    | 34 => some 15
    | _ => none
  | _ => none
/-- a town without things beyond it -/
def tOK (T : Tn) : Prop := tWF T ∧ ∀ c : Nat, tN T ≤ (c : Int) → tG T c = 0
/-- the squares with a thing, as bits -/
def tMk (T : Tn) (v : Int) : Nat → Nat
  | 0 => 0
  | k + 1 => tMk T v k + (if tG T k = v then 2 ^ k else 0)
def tMask (T : Tn) (v : Int) : Nat := tMk T v 20
theorem tMk_lt (T : Tn) (v : Int) : ∀ k, tMk T v k < 2 ^ k
  | 0 => by simp [tMk]
  | k + 1 => by
    have := tMk_lt T v k
    unfold tMk
    rw [Nat.pow_succ]
    split <;> omega
theorem tMk_bit (T : Tn) (v : Int) (c : Nat) : ∀ k, (tMk T v k).testBit c = decide (c < k ∧ tG T c = v)
  | 0 => by simp [tMk]
  | k + 1 => by
    have ih := tMk_bit T v c k
    have hl := tMk_lt T v k
    unfold tMk
    by_cases h : tG T k = v
    · rw [if_pos h, Nat.add_comm]
      rcases Nat.lt_trichotomy c k with hc | hc | hc
      · rw [Nat.testBit_two_pow_add_gt hc, ih]
        congr 1
        apply propext
        constructor
        · rintro ⟨h1, h2⟩; exact ⟨by omega, h2⟩
        · rintro ⟨h1, h2⟩; exact ⟨by omega, h2⟩
      · subst hc
        rw [Nat.testBit_two_pow_add_eq, ih]
        simp [h]
      · rw [Nat.testBit_lt_two_pow]
        · rw [decide_eq_false (by omega)]
        · have : 2 ^ (k + 1) ≤ 2 ^ c := Nat.pow_le_pow_right (by decide) hc
          rw [Nat.pow_succ] at this
          omega
    · rw [if_neg h, Nat.add_zero, ih]
      by_cases hc : c = k
      · subst hc; simp [h]
      · congr 1
        apply propext
        constructor
        · rintro ⟨h1, h2⟩; exact ⟨by omega, h2⟩
        · rintro ⟨h1, h2⟩; exact ⟨by omega, h2⟩
/-- the reference's town -/
def MT (S : QS) (T : Tn) : Prop := S.1 0 0 = tW T ∧ S.1 0 1 = tH T ∧ S.1 0 2 = (tMask T 1 : Int) ∧ S.1 0 3 = (tMask T 2 : Int) ∧ S.1 0 4 = tF T ∧ S.1 0 5 = tR T ∧ S.1 0 6 = tM T ∧ S.1 0 7 = tD T ∧ S.1 0 8 = tA T
section ML
variable {S : QS} {d : Nat} {T : Tn}
-- method 100: StraightTaxModel.in.(JJJ)Z
theorem m_in (v lo hi : Int) (h1 : inL v) (h2 : inL lo) (h3 : inL hi) : KP shM d 100 [.long (JL v), .long (JL lo), .long (JL hi)] S (.int (J (bi (decide (lo ≤ v ∧ v ≤ hi))))) := by
  refine k_start ql_100 (Nat.le_of_ble_eq_true rfl) ?_
  simp only [q_en, List.replicate]
  refine k_lload_n i_100_0 rfl ?_
  refine k_lload_n i_100_1 rfl ?_
  refine k_lcmp i_100_2 ?_
  refine k_lc_lt (t := 17) i_100_3 rfl h1 h2 (fun h => ?_) (fun h => ?_)
  · refine k_iconst i_100_17 ?_
    refine k_nret i_100_18 qt_100 (by first | exact bi_nar _ | rfl) ?_
    exact ⟨by rw [decide_eq_false (by omega)]; rfl, rfl⟩
  · refine k_lload_n i_100_6 rfl ?_
    refine k_lload i_100_7 rfl ?_
    refine k_lcmp i_100_9 ?_
    refine k_lc_gt (t := 17) i_100_10 rfl h1 h3 (fun h' => ?_) (fun h' => ?_)
    · refine k_iconst i_100_17 ?_
      refine k_nret i_100_18 qt_100 (by first | exact bi_nar _ | rfl) ?_
      exact ⟨by rw [decide_eq_false (by omega)]; rfl, rfl⟩
    · refine k_iconst i_100_13 ?_
      refine k_goto (t := 18) i_100_14 rfl ?_
      refine k_nret i_100_18 qt_100 (by first | exact bi_nar _ | rfl) ?_
      exact ⟨by rw [decide_eq_true (by omega)]; rfl, rfl⟩
-- method 109: StraightTaxModel.has.(II)Z
theorem m_has {m : Nat} (hm : m < 2 ^ 31) (c : Int) (h0 : 0 ≤ c) (h1 : c < 32) : KP shM d 109 [.int (J (m : Int)), .int (J c)] S (.int (J (bi (m.testBit c.toNat)))) := by
  obtain ⟨k, rfl⟩ : ∃ k : Nat, c = k := ⟨c.toNat, by omega⟩
  have hk : k < 32 := by omega
  have hb := bi_01 (m.testBit k)
  refine k_start ql_109 (Nat.le_of_ble_eq_true rfl) ?_
  simp only [q_en, List.replicate]
  refine k_iload_n i_109_0 rfl ?_
  refine k_iload_n i_109_1 rfl ?_
  refine k_ishr i_109_2 (J_shr hm hk) ?_
  refine k_iconst i_109_3 ?_
  refine k_iand (c := bi (m.testBit k)) i_109_4 (by rw [← J_shr hm hk]; exact J_bit hm hk) ?_
  refine k_iconst i_109_5 ?_
  rw [show (((k : Int)).toNat) = k by omega]
  refine k_ic_ne (t := 13) i_109_6 rfl (by omega) (by omega) (fun h => ?_) (fun h => ?_)
  · refine k_iconst i_109_13 ?_
    refine k_nret i_109_14 qt_109 (by first | exact bi_nar _ | rfl) ?_
    exact ⟨by rcases hb with hb | hb; rw [hb]; omega, rfl⟩
  · refine k_iconst i_109_9 ?_
    refine k_goto (t := 14) i_109_10 rfl ?_
    refine k_nret i_109_14 qt_109 (by first | exact bi_nar _ | rfl) ?_
    exact ⟨by rcases hb with hb | hb; omega; rw [hb], rfl⟩
-- method 107: StraightTaxModel.lesser.(II)I
theorem m_lesser (a b : Int) (ha : inJ a) (hb : inJ b) : KP shM d 107 [.int (J a), .int (J b)] S (.int (J (min a b))) := by
  refine k_start ql_107 (Nat.le_of_ble_eq_true rfl) ?_
  simp only [q_en, List.replicate]
  refine k_iload_n i_107_0 rfl ?_
  refine k_iload_n i_107_1 rfl ?_
  refine k_ic_ge (t := 9) i_107_2 rfl (by omega) (by omega) (fun h2 => ?_) (fun h2 => ?_)
  · refine k_iload_n i_107_9 rfl ?_
    refine k_iret i_107_10 qt_107 ?_
    exact ⟨by first | rw [Int.min_eq_left (by omega)] | rw [Int.min_eq_right (by omega)], rfl⟩
  · refine k_iload_n i_107_5 rfl ?_
    refine k_goto (t := 10) i_107_6 rfl ?_
    refine k_iret i_107_10 qt_107 ?_
    exact ⟨by first | rw [Int.min_eq_left (by omega)] | rw [Int.min_eq_right (by omega)], rfl⟩
-- by 100 (m_in _ _ _ (by omega) (by omega) (by omega))
-- method 112: StraightTaxModel.isSquare.(I)Z
theorem m_isSquare (hT : MT S T) (hw : tWF T) (c : Int) (hc : inJ c) : KP shM (d + 1) 112 [.ref 0, .int (J c)] S (.int (J (bi (tHas T c)))) := by
  obtain ⟨a0, a1, a2, a3, a4, a5, a6, a7, a8⟩ := id hT
  have hN := tN_le hw
  have e : S.1 0 0 * S.1 0 1 = tN T := by rw [a0, a1]; rfl
  refine k_start ql_112 (Nat.le_of_ble_eq_true rfl) ?_
  simp only [q_en, List.replicate]
  refine k_iload_n i_112_0 rfl ?_
  refine k_i2lJ i_112_1 (by omega) ?_
  refine k_lconstJ (a := 0) i_112_2 rfl ?_
  refine k_aload_n i_112_3 rfl ?_
  refine k_gfI i_112_4 f_12_7 (by first | rfl | assumption | (rw [hR]; rfl) | (dsimp only; rw [hR]; rfl)) (by decide) (by decide) (Or.inl rfl) ?_
  refine k_aload_n i_112_7 rfl ?_
  refine k_gfI i_112_8 f_12_13 (by first | rfl | assumption | (rw [hR]; rfl) | (dsimp only; rw [hR]; rfl)) (by decide) (by decide) (Or.inl rfl) ?_
  refine k_imul i_112_11 ?_
  rw [e]
  refine k_iconst i_112_12 ?_
  refine k_isub i_112_13 ?_
  refine k_i2lJ i_112_14 (by omega) ?_
  refine k_sp3 i_112_15 c_12_72 (by decide) qp_100 (Nat.le_of_ble_eq_true rfl) (m_in _ _ _ (by omega) (by omega) (by omega)) ?_
  refine k_nret i_112_18 qt_112 (by first | exact bi_nar _ | rfl) ?_
  exact ⟨by unfold tHas; rw [decide_eq_decide.mpr (show (0 ≤ c ∧ c ≤ tN T - 1) ↔ (0 ≤ c ∧ c < tN T) by omega)], rfl⟩
theorem tMask_lt (T : Tn) (v : Int) : tMask T v < 2 ^ 20 := tMk_lt T v 20
theorem tMask_bit (T : Tn) (v : Int) (c : Nat) : (tMask T v).testBit c = decide (c < 20 ∧ tG T c = v) := tMk_bit T v c 20
-- by 109 (m_has (by omega) _ (by omega) (by omega))
-- method 115: StraightTaxModel.isOpen.(I)Z
theorem m_isOpen (hT : MT S T) (hw : tWF T) (c : Int) (hc : inJ c) : KP shM (d + 2) 115 [.ref 0, .int (J c)] S (.int (J (bi (tOpen T c)))) := by
  obtain ⟨a0, a1, a2, a3, a4, a5, a6, a7, a8⟩ := id hT
  have hN := tN_le hw
  have hm := tMask_lt T 1
  refine k_start ql_115 (Nat.le_of_ble_eq_true rfl) ?_
  simp only [q_en, List.replicate]
  refine k_aload_n i_115_0 rfl ?_
  refine k_iload_n i_115_1 rfl ?_
  refine k_vp1 i_115_2 c_12_76 qp_112 qo_112 (by first | rfl | assumption | (rw [hR]; rfl) | (dsimp only; rw [hR]; rfl)) (Nat.le_of_ble_eq_true rfl) (m_isSquare hT hw _ hc) ?_
  refine k_if_eqB (t := 23) i_115_5 rfl (fun h => ?_) (fun h => ?_)
  · refine k_iconst i_115_23 ?_
    refine k_nret i_115_24 qt_115 (by first | exact bi_nar _ | rfl) ?_
    exact ⟨by unfold tOpen; rw [h]; rfl, rfl⟩
  · have h2 : 0 ≤ c ∧ c < tN T := by simpa [tHas] using h
    have e1 : tOn T c = tG T c.toNat := by unfold tOn; rw [if_pos (by omega)]
    have e2 : tOpen T c = decide (tG T c.toNat ≠ 1) := by unfold tOpen; rw [h, e1]; rfl
    refine k_aload_n i_115_8 rfl ?_
    refine k_gfI i_115_9 f_12_80 (by first | rfl | assumption | (rw [hR]; rfl) | (dsimp only; rw [hR]; rfl)) (by decide) (by decide) (Or.inl rfl) ?_
    rw [a2]
    refine k_iload_n i_115_12 rfl ?_
    refine k_sp2 i_115_13 c_12_83 (by decide) qp_109 (Nat.le_of_ble_eq_true rfl) (m_has (by omega) _ (by omega) (by omega)) ?_
    rw [tMask_bit]
    refine k_if_neB (t := 23) i_115_16 rfl (fun h => ?_) (fun h => ?_)
    · have h3 : tG T c.toNat = 1 := by simp at h; exact h.2
      refine k_iconst i_115_23 ?_
      refine k_nret i_115_24 qt_115 (by first | exact bi_nar _ | rfl) ?_
      exact ⟨by rw [e2, decide_eq_false (by simp [h3])]; rfl, rfl⟩
    · have h3 : ¬ tG T c.toNat = 1 := fun z => by rw [decide_eq_true ⟨by omega, z⟩] at h; cases h
      refine k_iconst i_115_19 ?_
      refine k_goto (t := 24) i_115_20 rfl ?_
      refine k_nret i_115_24 qt_115 (by first | exact bi_nar _ | rfl) ?_
      exact ⟨by rw [e2, decide_eq_true h3]; rfl, rfl⟩
-- by 115 (m_isOpen hT hw _ (by omega))
-- method 126: StraightTaxModel.areOpen.(II)Z
theorem m_areOpen (hT : MT S T) (hw : tWF T) (a b : Int) (ha : inJ a) (hb : inJ b) : KP shM (d + 3) 126 [.ref 0, .int (J a), .int (J b)] S (.int (J (bi (tOpen T a && tOpen T b)))) := by
  refine k_start ql_126 (Nat.le_of_ble_eq_true rfl) ?_
  simp only [q_en, List.replicate]
  refine k_aload_n i_126_0 rfl ?_
  refine k_iload_n i_126_1 rfl ?_
  refine k_vp1 i_126_2 c_12_182 qp_115 qo_115 (by first | rfl | assumption | (rw [hR]; rfl) | (dsimp only; rw [hR]; rfl)) (Nat.le_of_ble_eq_true rfl) (m_isOpen hT hw _ (by omega)) ?_
  refine k_if_eqB (t := 20) i_126_5 rfl (fun h5 => ?_) (fun h5 => ?_)
  · refine k_iconst i_126_20 ?_
    refine k_nret i_126_21 qt_126 (by first | exact bi_nar _ | rfl) ?_
    exact ⟨by simp_all [bi], rfl⟩
  · refine k_aload_n i_126_8 rfl ?_
    refine k_iload_n i_126_9 rfl ?_
    refine k_vp1 i_126_10 c_12_182 qp_115 qo_115 (by first | rfl | assumption | (rw [hR]; rfl) | (dsimp only; rw [hR]; rfl)) (Nat.le_of_ble_eq_true rfl) (m_isOpen hT hw _ (by omega)) ?_
    refine k_if_eqB (t := 20) i_126_13 rfl (fun h13 => ?_) (fun h13 => ?_)
    · refine k_iconst i_126_20 ?_
      refine k_nret i_126_21 qt_126 (by first | exact bi_nar _ | rfl) ?_
      exact ⟨by simp_all [bi], rfl⟩
    · refine k_iconst i_126_16 ?_
      refine k_goto (t := 21) i_126_17 rfl ?_
      refine k_nret i_126_21 qt_126 (by first | exact bi_nar _ | rfl) ?_
      exact ⟨by simp_all [bi], rfl⟩
-- method 120: StraightTaxModel.priceOf.(I)I
theorem m_priceOf (hT : MT S T) (hR : S.2.2 = rM) (hw : tWF T) (r nt : Int) (hn : S.1 2 2 = nt) (hr : -100 ≤ r ∧ r ≤ 100) (h01 : nt = 0 ∨ nt = 1) : KP shM d 120 [.ref 0, .int (J r)] S (.int (J (tPrice T nt r))) := by
  obtain ⟨a0, a1, a2, a3, a4, a5, a6, a7, a8⟩ := id hT
  obtain ⟨⟨w1, w2⟩, ⟨w3, w4⟩, ⟨w5, w6⟩, ⟨w7, w8⟩, ⟨w9, w10⟩, ⟨w11, w12⟩, ⟨w13, w14⟩, -⟩ := id hw
  have k54 : ∀ p : Int, p = (if r - tF T ≤ 0 then 0 else tPart T (r - tF T)) → K shM d 120 54 [some (.ref 0), some (.int (J r)), some (.int (J (r - S.1 0 4))), none] [.int (J p)] S (fun r1 S2 => r1 = some (.int (J (tPrice T nt r))) ∧ S2 = S) := by
    intro p hp
    refine k_istore_n i_120_54 (Nat.le_of_ble_eq_true rfl) ?_
    dsimp only [q_st1, q_st2, q_unl]
    refine k_aload_n i_120_55 rfl ?_
    refine k_gfI i_120_56 f_12_173 (by first | rfl | assumption | (rw [hR]; rfl) | (dsimp only; rw [hR]; rfl)) (by decide) (by decide) (Or.inl rfl) ?_
    refine k_aload_n i_120_59 rfl ?_
    refine k_gfI i_120_60 f_12_170 (by first | rfl | assumption | (rw [hR]; rfl) | (dsimp only; rw [hR]; rfl)) (by decide) (by decide) (Or.inl rfl) ?_
    refine k_iconst i_120_63 ?_
    refine k_ic_ne (t := 83) i_120_64 rfl (by omega) (by omega) (fun h => ?_) (fun h => ?_)
    · refine k_iload_n i_120_83 rfl ?_
      refine k_iadd i_120_84 ?_
      refine k_iret i_120_85 qt_120 ?_
      exact ⟨by rw [hp, a8]; unfold tPrice; repeat' split <;> first | omega | rfl | skip, rfl⟩
    · refine k_aload_n i_120_67 rfl ?_
      refine k_gfR i_120_68 f_12_29 (by first | rfl | assumption | (rw [hR]; rfl) | (dsimp only; rw [hR]; rfl)) (by decide) (by decide) (Or.inr ⟨_, rfl⟩) (by first | rfl | assumption | (rw [hR]; rfl) | (dsimp only; rw [hR]; rfl)) ?_
      refine k_iconst i_120_71 ?_
      refine k_iald i_120_72 rfl (by decide) (by omega) (by omega) ?_
      rw [show ((2 : Int)).toNat = 2 from rfl, hn]
      refine k_iconst i_120_73 ?_
      refine k_ic_ne (t := 83) i_120_74 rfl (by omega) (by omega) (fun h => ?_) (fun h => ?_)
      · refine k_iload_n i_120_83 rfl ?_
        refine k_iadd i_120_84 ?_
        refine k_iret i_120_85 qt_120 ?_
        exact ⟨by rw [hp, a8]; unfold tPrice; repeat' split <;> first | omega | rfl | skip, rfl⟩
      · refine k_iconst i_120_77 ?_
        refine k_iload_n i_120_78 rfl ?_
        refine k_imul i_120_79 ?_
        refine k_goto (t := 84) i_120_80 rfl ?_
        refine k_iadd i_120_84 ?_
        refine k_iret i_120_85 qt_120 ?_
        exact ⟨by rw [hp, a8]; unfold tPrice; repeat' split <;> first | omega | rfl | skip, rfl⟩
  refine k_start ql_120 (Nat.le_of_ble_eq_true rfl) ?_
  simp only [q_en, List.replicate]
  refine k_iload_n i_120_0 rfl ?_
  refine k_aload_n i_120_1 rfl ?_
  refine k_gfI i_120_2 f_12_16 (by first | rfl | assumption | (rw [hR]; rfl) | (dsimp only; rw [hR]; rfl)) (by decide) (by decide) (Or.inl rfl) ?_
  refine k_isub i_120_5 ?_
  refine k_istore_n i_120_6 (Nat.le_of_ble_eq_true rfl) ?_
  dsimp only [q_st1, q_st2, q_unl]
  refine k_iload_n i_120_7 rfl ?_
  refine k_if_gt (t := 15) i_120_8 rfl (by omega) (fun h8 => ?_) (fun h8 => ?_)
  · refine k_aload_n i_120_15 rfl ?_
    refine k_gfI i_120_16 f_12_22 (by first | rfl | assumption | (rw [hR]; rfl) | (dsimp only; rw [hR]; rfl)) (by decide) (by decide) (Or.inl rfl) ?_
    refine k_if_ne (t := 29) i_120_19 rfl (by omega) (fun h19 => ?_) (fun h19 => ?_)
    · refine k_aload_n i_120_29 rfl ?_
      refine k_gfI i_120_30 f_12_22 (by first | rfl | assumption | (rw [hR]; rfl) | (dsimp only; rw [hR]; rfl)) (by decide) (by decide) (Or.inl rfl) ?_
      refine k_iconst i_120_33 ?_
      refine k_ic_ne (t := 46) i_120_34 rfl (by omega) (by omega) (fun h34 => ?_) (fun h34 => ?_)
      · refine k_aload_n i_120_46 rfl ?_
        refine k_gfI i_120_47 f_12_19 (by first | rfl | assumption | (rw [hR]; rfl) | (dsimp only; rw [hR]; rfl)) (by decide) (by decide) (Or.inl rfl) ?_
        refine k_iload_n i_120_50 rfl ?_
        refine k_imul i_120_51 ?_
        refine k_iload_n i_120_52 rfl ?_
        refine k_imul i_120_53 ?_
        exact k54 _ (by simp only [a4, a5, a6] at *; unfold tPart; repeat' split <;> first | omega | rfl | skip)
      · refine k_aload_n i_120_37 rfl ?_
        refine k_gfI i_120_38 f_12_19 (by first | rfl | assumption | (rw [hR]; rfl) | (dsimp only; rw [hR]; rfl)) (by decide) (by decide) (Or.inl rfl) ?_
        refine k_iload_n i_120_41 rfl ?_
        refine k_imul i_120_42 ?_
        refine k_goto (t := 54) i_120_43 rfl ?_
        exact k54 _ (by simp only [a4, a5, a6] at *; unfold tPart; repeat' split <;> first | omega | rfl | skip)
    · refine k_aload_n i_120_22 rfl ?_
      refine k_gfI i_120_23 f_12_19 (by first | rfl | assumption | (rw [hR]; rfl) | (dsimp only; rw [hR]; rfl)) (by decide) (by decide) (Or.inl rfl) ?_
      refine k_goto (t := 54) i_120_26 rfl ?_
      exact k54 _ (by simp only [a4, a5, a6] at *; unfold tPart; repeat' split <;> first | omega | rfl | skip)
  · refine k_iconst i_120_11 ?_
    refine k_goto (t := 54) i_120_12 rfl ?_
    exact k54 _ (by simp only [a4, a5, a6] at *; unfold tPart; repeat' split <;> first | omega | rfl | skip)
end ML
end
section
/-! THE REFERENCE: steps and states -/
theorem nx_eq {T : Tn} (hw : tWF T) {x y : Int} (hx : 0 ≤ x ∧ x < tW T) (hy : 0 ≤ y ∧ y < tH T) : tSq T x y = y * tW T + x ∧ tOpen T (tSq T x y) = decide (tG T (y * tW T + x).toNat ≠ 1) ∧ 0 ≤ y * tW T + x ∧ y * tW T + x < tN T := by
  have e : tSq T x y = y * tW T + x := by unfold tSq; rw [if_pos ⟨hx.1, hx.2, hy.1, hy.2⟩]
  have hr := tSq_range hw x y
  rw [e] at hr
  have h0 : 0 ≤ y * tW T := Int.mul_nonneg hy.1 (by omega)
  have hN := tN_le hw
  refine ⟨e, ?_, by omega, by omega⟩
  rw [e]
  unfold tOpen tHas tOn
  rw [decide_eq_true (show 0 ≤ y * tW T + x ∧ y * tW T + x < tN T by omega), if_pos (by omega)]
  rfl
/-- the reference's states: a square, and 16 (a new run) or 4 times the direction and the run less 1 -/
def mRun (s q : Int) : Int := if s % 17 < 16 ∧ s % 17 / 4 = q then s % 17 % 4 + 2 else 1
def mOn (T : Tn) (el : Nat) (s q : Int) : Int := if nx T (s / 17) q < 0 then -1 else 17 * nx T (s / 17) q + (if el.testBit (nx T (s / 17) q).toNat then 16 else 4 * q + (mRun s q - 1))
section MS
variable {S : QS} {d : Nat} {T : Tn}
-- method 117: StraightTaxModel.to.(II)I
theorem m_to (hT : MT S T) (hw : tWF T) (c q : Int) (hc : 0 ≤ c ∧ c < tN T) (hq : inJ q) : KP shM (d + 1) 117 [.ref 0, .int (J c), .int (J q)] S (.int (J (nx T c q))) := by
  obtain ⟨a0, a1, a2, a3, a4, a5, a6, a7, a8⟩ := id hT
  obtain ⟨⟨w1, w2⟩, ⟨w3, w4⟩, -⟩ := id hw
  have hN := tN_le hw
  have hm := tMask_lt T 1
  have hmod : 0 ≤ c % tW T ∧ c % tW T < tW T := ⟨Int.emod_nonneg _ (by omega), Int.emod_lt_of_pos _ (by omega)⟩
  have hdiv : 0 ≤ c / tW T := Int.ediv_nonneg hc.1 (by omega)
  have hdiv2 : c / tW T ≤ c := Int.ediv_le_self _ hc.1
  have k130 : ∀ x y : Int, x = c % tW T + dxx q → y = c / tW T + dyy q → ¬ (tOpen T (tSq T x y) = true) → K shM (d + 1) 117 110 [some (.ref 0), some (.int (J c)), some (.int (J q)), some (.int (J x)), some (.int (J y)), none] [] S (fun r1 S2 => r1 = some (.int (J (nx T c q))) ∧ S2 = S) := by
    intro x y hx hy ho
    refine k_iconst i_117_110 ?_
    refine k_istore i_117_111 (Nat.le_of_ble_eq_true rfl) ?_
    dsimp only [q_st1, q_st2, q_unl]
    refine k_iload i_117_113 rfl ?_
    refine k_if_eq (t := 130) i_117_115 rfl (by omega) (fun h => ?_) (fun h => ?_)
    · refine k_iconst i_117_130 ?_
      refine k_iret i_117_131 qt_117 ?_
      exact ⟨by unfold nx; rw [← hx, ← hy, if_neg ho], rfl⟩
    · omega
  have k54 : ∀ x y : Int, x = c % tW T + dxx q → y = c / tW T + dyy q → (-1 ≤ x ∧ x ≤ 6) → (-1 ≤ y ∧ y ≤ 30) → K shM (d + 1) 117 54 [some (.ref 0), some (.int (J c)), some (.int (J q)), some (.int (J x)), some (.int (J y)), none] [] S (fun r1 S2 => r1 = some (.int (J (nx T c q))) ∧ S2 = S) := by
    intro x y hx hy bx by'
    refine k_iload_n i_117_54 rfl ?_
    refine k_i2lJ i_117_55 (by omega) ?_
    refine k_lconstJ (a := 0) i_117_56 rfl ?_
    refine k_aload_n i_117_57 rfl ?_
    refine k_gfI i_117_58 f_12_7 (by first | rfl | assumption | (rw [hR]; rfl) | (dsimp only; rw [hR]; rfl)) (by decide) (by decide) (Or.inl rfl) ?_
    rw [a0]
    refine k_iconst i_117_61 ?_
    refine k_isub i_117_62 ?_
    refine k_i2lJ i_117_63 (by omega) ?_
    refine k_sp3 i_117_64 c_12_72 (by decide) qp_100 (Nat.le_of_ble_eq_true rfl) (m_in _ _ _ (by omega) (by omega) (by omega)) ?_
    refine k_if_eqB (t := 110) i_117_67 rfl (fun h => ?_) (fun h => ?_)
    · refine k130 x y hx hy (fun z => ?_)
      have h1 : ¬ (0 ≤ x ∧ x ≤ tW T - 1) := by simpa using h
      unfold tSq at z
      rw [if_neg (by omega)] at z
      simp [tOpen, tHas] at z
    · have h1 : 0 ≤ x ∧ x ≤ tW T - 1 := by simpa using h
      refine k_iload i_117_70 rfl ?_
      refine k_i2lJ i_117_72 (by omega) ?_
      refine k_lconstJ (a := 0) i_117_73 rfl ?_
      refine k_aload_n i_117_74 rfl ?_
      refine k_gfI i_117_75 f_12_13 (by first | rfl | assumption | (rw [hR]; rfl) | (dsimp only; rw [hR]; rfl)) (by decide) (by decide) (Or.inl rfl) ?_
      rw [a1]
      refine k_iconst i_117_78 ?_
      refine k_isub i_117_79 ?_
      refine k_i2lJ i_117_80 (by omega) ?_
      refine k_sp3 i_117_81 c_12_72 (by decide) qp_100 (Nat.le_of_ble_eq_true rfl) (m_in _ _ _ (by omega) (by omega) (by omega)) ?_
      refine k_if_eqB (t := 110) i_117_84 rfl (fun h => ?_) (fun h => ?_)
      · refine k130 x y hx hy (fun z => ?_)
        have h2 : ¬ (0 ≤ y ∧ y ≤ tH T - 1) := by simpa using h
        unfold tSq at z
        rw [if_neg (by omega)] at z
        simp [tOpen, tHas] at z
      · have h2 : 0 ≤ y ∧ y ≤ tH T - 1 := by simpa using h
        obtain ⟨n1, n2, n3, n4⟩ := nx_eq hw (x := x) (y := y) (by omega) (by omega)
        have e2 : tW T * y + x = y * tW T + x := by rw [Int.mul_comm]
        refine k_aload_n i_117_87 rfl ?_
        refine k_gfI i_117_88 f_12_80 (by first | rfl | assumption | (rw [hR]; rfl) | (dsimp only; rw [hR]; rfl)) (by decide) (by decide) (Or.inl rfl) ?_
        rw [a2]
        refine k_aload_n i_117_91 rfl ?_
        refine k_gfI i_117_92 f_12_7 (by first | rfl | assumption | (rw [hR]; rfl) | (dsimp only; rw [hR]; rfl)) (by decide) (by decide) (Or.inl rfl) ?_
        rw [a0]
        refine k_iload i_117_95 rfl ?_
        refine k_imul i_117_97 ?_
        refine k_iload_n i_117_98 rfl ?_
        refine k_iadd i_117_99 ?_
        rw [e2]
        refine k_sp2 i_117_100 c_12_83 (by decide) qp_109 (Nat.le_of_ble_eq_true rfl) (m_has (by omega) _ (by omega) (by omega)) ?_
        rw [tMask_bit]
        refine k_if_neB (t := 110) i_117_103 rfl (fun h => ?_) (fun h => ?_)
        · refine k130 x y hx hy (fun z => ?_)
          have h3 : tG T (y * tW T + x).toNat = 1 := by simp at h; exact h.2
          rw [n2] at z
          simp [h3] at z
        · have h3 : ¬ tG T (y * tW T + x).toNat = 1 := fun z => by rw [decide_eq_true ⟨by omega, z⟩] at h; cases h
          have h4 : nx T c q = y * tW T + x := by
            unfold nx
            rw [← hx, ← hy, n2, decide_eq_true h3, if_pos rfl, n1]
          refine k_iconst i_117_106 ?_
          refine k_goto (t := 111) i_117_107 rfl ?_
          refine k_istore i_117_111 (Nat.le_of_ble_eq_true rfl) ?_
          dsimp only [q_st1, q_st2, q_unl]
          refine k_iload i_117_113 rfl ?_
          refine k_if_eq (t := 130) i_117_115 rfl (by omega) (fun h => ?_) (fun h => ?_)
          · omega
          · refine k_aload_n i_117_118 rfl ?_
            refine k_gfI i_117_119 f_12_7 (by first | rfl | assumption | (rw [hR]; rfl) | (dsimp only; rw [hR]; rfl)) (by decide) (by decide) (Or.inl rfl) ?_
            rw [a0]
            refine k_iload i_117_122 rfl ?_
            refine k_imul i_117_124 ?_
            refine k_iload_n i_117_125 rfl ?_
            refine k_iadd i_117_126 ?_
            refine k_goto (t := 131) i_117_127 rfl ?_
            refine k_iret i_117_131 qt_117 ?_
            exact ⟨by rw [h4, e2], rfl⟩
  have k25 : ∀ dx : Int, dx = dxx q → K shM (d + 1) 117 25 [some (.ref 0), some (.int (J c)), some (.int (J q)), none, none, none] [.int (J dx), .int (J (c % tW T))] S (fun r1 S2 => r1 = some (.int (J (nx T c q))) ∧ S2 = S) := by
    intro dx hdx
    have bdx : -1 ≤ dx ∧ dx ≤ 1 := by rw [hdx]; unfold dxx; (repeat' split) <;> omega
    refine k_iadd i_117_25 ?_
    refine k_istore_n i_117_26 (Nat.le_of_ble_eq_true rfl) ?_
    dsimp only [q_st1, q_st2, q_unl]
    refine k_iload_n i_117_27 rfl ?_
    refine k_aload_n i_117_28 rfl ?_
    refine k_gfI i_117_29 f_12_7 (by first | rfl | assumption | (rw [hR]; rfl) | (dsimp only; rw [hR]; rfl)) (by decide) (by decide) (Or.inl rfl) ?_
    rw [a0]
    refine k_idiv i_117_32 (by omega) (by omega) (by omega) (by omega) ?_
    refine k_iload_n i_117_33 rfl ?_
    refine k_iconst i_117_34 ?_
    refine k_ic_ne (t := 42) i_117_35 rfl (by omega) (by omega) (fun h35 => ?_) (fun h35 => ?_)
    · refine k_iload_n i_117_42 rfl ?_
      refine k_if_ne (t := 50) i_117_43 rfl (by omega) (fun h43 => ?_) (fun h43 => ?_)
      · refine k_iconst i_117_50 ?_
        refine k_iadd i_117_51 ?_
        refine k_istore i_117_52 (Nat.le_of_ble_eq_true rfl) ?_
        dsimp only [q_st1, q_st2, q_unl]
        exact k54 _ _ (by rw [hdx]) (by unfold dyy; (repeat' split) <;> omega) (by omega) (by omega)
      · refine k_iconst i_117_46 ?_
        refine k_goto (t := 51) i_117_47 rfl ?_
        refine k_iadd i_117_51 ?_
        refine k_istore i_117_52 (Nat.le_of_ble_eq_true rfl) ?_
        dsimp only [q_st1, q_st2, q_unl]
        exact k54 _ _ (by rw [hdx]) (by unfold dyy; (repeat' split) <;> omega) (by omega) (by omega)
    · refine k_iconst i_117_38 ?_
      refine k_goto (t := 51) i_117_39 rfl ?_
      refine k_iadd i_117_51 ?_
      refine k_istore i_117_52 (Nat.le_of_ble_eq_true rfl) ?_
      dsimp only [q_st1, q_st2, q_unl]
      exact k54 _ _ (by rw [hdx]) (by unfold dyy; (repeat' split) <;> omega) (by omega) (by omega)
  refine k_start ql_117 (Nat.le_of_ble_eq_true rfl) ?_
  simp only [q_en, List.replicate]
  refine k_iload_n i_117_0 rfl ?_
  refine k_aload_n i_117_1 rfl ?_
  refine k_gfI i_117_2 f_12_7 (by first | rfl | assumption | (rw [hR]; rfl) | (dsimp only; rw [hR]; rfl)) (by decide) (by decide) (Or.inl rfl) ?_
  rw [a0]
  refine k_irem i_117_5 (by omega) (by omega) (by omega) (by omega) ?_
  refine k_iload_n i_117_6 rfl ?_
  refine k_iconst i_117_7 ?_
  refine k_ic_ne (t := 15) i_117_8 rfl (by omega) (by omega) (fun h8 => ?_) (fun h8 => ?_)
  · refine k_iload_n i_117_15 rfl ?_
    refine k_iconst i_117_16 ?_
    refine k_ic_ne (t := 24) i_117_17 rfl (by omega) (by omega) (fun h17 => ?_) (fun h17 => ?_)
    · refine k_iconst i_117_24 ?_
      exact k25 _ (by unfold dxx; (repeat' split) <;> omega)
    · refine k_iconst i_117_20 ?_
      refine k_goto (t := 25) i_117_21 rfl ?_
      exact k25 _ (by unfold dxx; (repeat' split) <;> omega)
  · refine k_iconst i_117_11 ?_
    refine k_goto (t := 25) i_117_12 rfl ?_
    exact k25 _ (by unfold dxx; (repeat' split) <;> omega)
-- method 128: StraightTaxModel.runBehind.(II)I
theorem m_runBehind (s q : Int) (hs : 0 ≤ s ∧ s < 340) (hq : inJ q) : KP shM d 128 [.ref 0, .int (J s), .int (J q)] S (.int (J (mRun s q))) := by
  refine k_start ql_128 (Nat.le_of_ble_eq_true rfl) ?_
  simp only [q_en, List.replicate]
  refine k_iload_n i_128_0 rfl ?_
  refine k_bipush i_128_1 (by decide) ?_
  refine k_irem i_128_3 (by omega) (by omega) (by omega) (by omega) ?_
  refine k_istore_n i_128_4 (Nat.le_of_ble_eq_true rfl) ?_
  dsimp only [q_st1, q_st2, q_unl]
  refine k_iload_n i_128_5 rfl ?_
  refine k_bipush i_128_6 (by decide) ?_
  refine k_ic_ge (t := 26) i_128_8 rfl (by omega) (by omega) (fun h8 => ?_) (fun h8 => ?_)
  · refine k_iconst i_128_26 ?_
    refine k_iret i_128_27 qt_128 ?_
    exact ⟨by unfold mRun; first | rw [if_neg (by omega)] | rw [if_pos (by omega)], rfl⟩
  · refine k_iload_n i_128_11 rfl ?_
    refine k_iconst i_128_12 ?_
    refine k_idiv i_128_13 (by omega) (by omega) (by omega) (by omega) ?_
    refine k_iload_n i_128_14 rfl ?_
    refine k_ic_ne (t := 26) i_128_15 rfl (by omega) (by omega) (fun h15 => ?_) (fun h15 => ?_)
    · refine k_iconst i_128_26 ?_
      refine k_iret i_128_27 qt_128 ?_
      exact ⟨by unfold mRun; first | rw [if_neg (by omega)] | rw [if_pos (by omega)], rfl⟩
    · refine k_iload_n i_128_18 rfl ?_
      refine k_iconst i_128_19 ?_
      refine k_irem i_128_20 (by omega) (by omega) (by omega) (by omega) ?_
      refine k_iconst i_128_21 ?_
      refine k_iadd i_128_22 ?_
      refine k_goto (t := 27) i_128_23 rfl ?_
      refine k_iret i_128_27 qt_128 ?_
      exact ⟨by unfold mRun; first | rw [if_neg (by omega)] | rw [if_pos (by omega)], rfl⟩
theorem mOn_range {T : Tn} (hw : tWF T) {el : Nat} {s q : Int} (hs : 0 ≤ s ∧ s < 17 * tN T) (hq : 0 ≤ q ∧ q < 4) (hr : mRun s q ≤ 4) : -1 ≤ mOn T el s q ∧ mOn T el s q < 17 * tN T ∧ (0 ≤ mOn T el s q → mOn T el s q / 17 = nx T (s / 17) q ∧ 0 ≤ nx T (s / 17) q) := by
  have h1 := nx_range hw (s / 17) q
  have h2 : 1 ≤ mRun s q := by unfold mRun; split <;> omega
  unfold mOn
  split
  · omega
  · split <;> omega
-- method 129: StraightTaxModel.onward.(III)I
theorem m_onward (hT : MT S T) (hw : tWF T) {el : Nat} (hel : el < 2 ^ 31) (s q : Int) (hs : 0 ≤ s ∧ s < 17 * tN T) (hq : 0 ≤ q ∧ q < 4) : KP shM (d + 2) 129 [.ref 0, .int (J s), .int (J q), .int (J (el : Int))] S (.int (J (mOn T el s q))) := by
  have hN := tN_le hw
  have hr := nx_range hw (s / 17) q
  have k53 : ∀ (u : Int), ¬ nx T (s / 17) q < 0 → u = mRun s q - 1 → K shM (d + 2) 129 53 [some (.ref 0), some (.int (J s)), some (.int (J q)), some (.int (J (el : Int))), some (.int (J (s / 17))), some (.int (J (s % 17))), some (.int (J (nx T (s / 17) q))), none] [.int (J u)] S (fun r1 S2 => r1 = some (.int (J (mOn T el s q))) ∧ S2 = S) := by
    intro u hn hu
    refine k_istore i_129_53 (Nat.le_of_ble_eq_true rfl) ?_
    dsimp only [q_st1, q_st2, q_unl]
    refine k_bipush i_129_55 (by decide) ?_
    refine k_iload i_129_57 rfl ?_
    refine k_imul i_129_59 ?_
    refine k_iload_n i_129_60 rfl ?_
    refine k_iload i_129_61 rfl ?_
    refine k_sp2 i_129_63 c_12_83 (by decide) qp_109 (Nat.le_of_ble_eq_true rfl) (m_has hel _ (by omega) (by omega)) ?_
    refine k_if_eqB (t := 74) i_129_66 rfl (fun h => ?_) (fun h => ?_)
    · refine k_iconst i_129_74 ?_
      refine k_iload_n i_129_75 rfl ?_
      refine k_imul i_129_76 ?_
      refine k_iload i_129_77 rfl ?_
      refine k_iadd i_129_79 ?_
      refine k_iadd i_129_80 ?_
      refine k_iret i_129_81 qt_129 ?_
      exact ⟨by unfold mOn; rw [if_neg hn, h, hu]; rfl, rfl⟩
    · refine k_bipush i_129_69 (by decide) ?_
      refine k_goto (t := 80) i_129_71 rfl ?_
      refine k_iadd i_129_80 ?_
      refine k_iret i_129_81 qt_129 ?_
      exact ⟨by unfold mOn; rw [if_neg hn, h]; rfl, rfl⟩
  refine k_start ql_129 (Nat.le_of_ble_eq_true rfl) ?_
  simp only [q_en, List.replicate]
  refine k_iload_n i_129_0 rfl ?_
  refine k_bipush i_129_1 (by decide) ?_
  refine k_idiv i_129_3 (by omega) (by omega) (by omega) (by omega) ?_
  refine k_istore i_129_4 (Nat.le_of_ble_eq_true rfl) ?_
  dsimp only [q_st1, q_st2, q_unl]
  refine k_iload_n i_129_6 rfl ?_
  refine k_bipush i_129_7 (by decide) ?_
  refine k_irem i_129_9 (by omega) (by omega) (by omega) (by omega) ?_
  refine k_istore i_129_10 (Nat.le_of_ble_eq_true rfl) ?_
  dsimp only [q_st1, q_st2, q_unl]
  refine k_aload_n i_129_12 rfl ?_
  refine k_iload i_129_13 rfl ?_
  refine k_iload_n i_129_15 rfl ?_
  refine k_vp2 i_129_16 c_12_187 qp_117 qo_117 (by first | rfl | assumption | (rw [hR]; rfl) | (dsimp only; rw [hR]; rfl)) (Nat.le_of_ble_eq_true rfl) (m_to hT hw _ _ (by omega) (by omega)) ?_
  refine k_istore i_129_19 (Nat.le_of_ble_eq_true rfl) ?_
  dsimp only [q_st1, q_st2, q_unl]
  refine k_iload i_129_21 rfl ?_
  refine k_if_ge (t := 28) i_129_23 rfl (by omega) (fun h => ?_) (fun h => ?_)
  · refine k_iload i_129_28 rfl ?_
    refine k_bipush i_129_30 (by decide) ?_
    refine k_ic_ge (t := 52) i_129_32 rfl (by omega) (by omega) (fun h32 => ?_) (fun h32 => ?_)
    · refine k_iconst i_129_52 ?_
      exact k53 _ (by omega) (by unfold mRun; first | rw [if_neg (by omega)] ; rfl | (rw [if_pos (by omega)]; omega))
    · refine k_iload i_129_35 rfl ?_
      refine k_iconst i_129_37 ?_
      refine k_idiv i_129_38 (by omega) (by omega) (by omega) (by omega) ?_
      refine k_iload_n i_129_39 rfl ?_
      refine k_ic_ne (t := 52) i_129_40 rfl (by omega) (by omega) (fun h40 => ?_) (fun h40 => ?_)
      · refine k_iconst i_129_52 ?_
        exact k53 _ (by omega) (by unfold mRun; first | rw [if_neg (by omega)] ; rfl | (rw [if_pos (by omega)]; omega))
      · refine k_iload i_129_43 rfl ?_
        refine k_iconst i_129_45 ?_
        refine k_irem i_129_46 (by omega) (by omega) (by omega) (by omega) ?_
        refine k_iconst i_129_47 ?_
        refine k_iadd i_129_48 ?_
        refine k_goto (t := 53) i_129_49 rfl ?_
        exact k53 _ (by omega) (by unfold mRun; first | rw [if_neg (by omega)] ; rfl | (rw [if_pos (by omega)]; omega))
  · refine k_iconst i_129_26 ?_
    refine k_iret i_129_27 qt_129 ?_
    exact ⟨by unfold mOn; rw [if_pos (by omega)], rfl⟩
-- method 119: StraightTaxModel.behind.(II)I
theorem m_behind (hT : MT S T) (hw : tWF T) (c q : Int) (hq : inJ q) : KP shM d 119 [.ref 0, .int (J c), .int (J q)] S (.int (J (c - (if q = 1 then 1 else if q = 3 then -1 else if q = 2 then tW T else -tW T)))) := by
  obtain ⟨a0, a1, a2, a3, a4, a5, a6, a7, a8⟩ := id hT
  refine k_start ql_119 (Nat.le_of_ble_eq_true rfl) ?_
  simp only [q_en, List.replicate]
  refine k_iload_n i_119_0 rfl ?_
  refine k_iload_n i_119_1 rfl ?_
  refine k_iconst i_119_2 ?_
  refine k_ic_ne (t := 10) i_119_3 rfl (by omega) (by omega) (fun h3 => ?_) (fun h3 => ?_)
  · refine k_iload_n i_119_10 rfl ?_
    refine k_iconst i_119_11 ?_
    refine k_ic_ne (t := 19) i_119_12 rfl (by omega) (by omega) (fun h12 => ?_) (fun h12 => ?_)
    · refine k_iload_n i_119_19 rfl ?_
      refine k_iconst i_119_20 ?_
      refine k_ic_ne (t := 31) i_119_21 rfl (by omega) (by omega) (fun h21 => ?_) (fun h21 => ?_)
      · refine k_aload_n i_119_31 rfl ?_
        refine k_gfI i_119_32 f_12_7 (by first | rfl | assumption | (rw [hR]; rfl) | (dsimp only; rw [hR]; rfl)) (by decide) (by decide) (Or.inl rfl) ?_
        refine k_ineg i_119_35 ?_
        refine k_isub i_119_36 ?_
        refine k_iret i_119_37 qt_119 ?_
        exact ⟨by rw [← a0]; congr 4; (repeat' split) <;> first | rfl | omega, rfl⟩
      · refine k_aload_n i_119_24 rfl ?_
        refine k_gfI i_119_25 f_12_7 (by first | rfl | assumption | (rw [hR]; rfl) | (dsimp only; rw [hR]; rfl)) (by decide) (by decide) (Or.inl rfl) ?_
        refine k_goto (t := 36) i_119_28 rfl ?_
        refine k_isub i_119_36 ?_
        refine k_iret i_119_37 qt_119 ?_
        exact ⟨by rw [← a0]; congr 4; (repeat' split) <;> first | rfl | omega, rfl⟩
    · refine k_iconst i_119_15 ?_
      refine k_goto (t := 36) i_119_16 rfl ?_
      refine k_isub i_119_36 ?_
      refine k_iret i_119_37 qt_119 ?_
      exact ⟨by rw [← a0]; congr 4; (repeat' split) <;> first | rfl | omega, rfl⟩
  · refine k_iconst i_119_6 ?_
    refine k_goto (t := 36) i_119_7 rfl ?_
    refine k_isub i_119_36 ?_
    refine k_iret i_119_37 qt_119 ?_
    exact ⟨by rw [← a0]; congr 4; (repeat' split) <;> first | rfl | omega, rfl⟩
end MS
end
section
/-! THE REFERENCE: findRest -/
/-- a memory with another row -/
def sr (I : Nat → Nat → Int) (c : Nat) (f : Nat → Int) : Nat → Nat → Int := fun c' => if c' = c then f else I c'
def ud (f : Nat → Int) (k : Nat) (v : Int) : Nat → Int := fun j => if j = k then v else f j
theorem sr_s {I : Nat → Nat → Int} {c : Nat} {f : Nat → Int} : sr I c f c = f := by simp [sr]
theorem sr_n {I : Nat → Nat → Int} {c c' : Nat} {f : Nat → Int} (h : c' ≠ c) : sr I c f c' = I c' := by simp [sr, h]
theorem sr_up {I : Nat → Nat → Int} {c k : Nat} {f : Nat → Int} {v : Int} : q_up (sr I c f) c k v = sr I c (ud f k v) := by
  funext c' k'
  unfold q_up sr ud
  by_cases h : c' = c
  · subst h; by_cases h2 : k' = k <;> simp [h2]
  · simp [h]
theorem sr_id {I : Nat → Nat → Int} {c : Nat} : sr I c (I c) = I := by
  funext c'
  unfold sr
  split
  · rename_i h; rw [h]
  · rfl
theorem sr_sr {I : Nat → Nat → Int} {c : Nat} {f g : Nat → Int} : sr (sr I c f) c g = sr I c g := by
  funext c'
  unfold sr
  split <;> rfl
theorem ud_s {f : Nat → Int} {k : Nat} {v : Int} : ud f k v k = v := by simp [ud]
theorem ud_n {f : Nat → Int} {k j : Nat} {v : Int} (h : j ≠ k) : ud f k v j = f j := by simp [ud, h]
theorem MT.row {I : Nat → Nat → Int} {X : (Nat → Nat → Int64) × (Nat → Nat → Option Nat)} {T : Tn} {c : Nat} {f : Nat → Int} (hc : c ≠ 0) (h : MT (I, X) T) : MT (sr I c f, X) T := by
  unfold MT at h ⊢
  simp only [sr_n (Ne.symm hc)]
  exact h
def mFAR : Int := 100000000
/-- the state behind a step; -1: it can't be -/
def mE (T : Tn) (el : Nat) (s q : Int) : Int := if 4 < mRun s q then -1 else mOn T el s q
def mC (T : Tn) (nt : Int) (el : Nat) (f : Nat → Int) (s q : Int) : Int := f (mE T el s q).toNat + 1000 * tPrice T nt (mRun s q) + 1
def mB (T : Tn) (nt : Int) (el : Nat) (f : Nat → Int) (s : Int) : Nat → Int
  | 0 => f s.toNat
  | k + 1 => if mE T el s k < 0 then mB T nt el f s k else min (mB T nt el f s k) (mC T nt el f s k)
def mHouse (T : Tn) (s : Int) : Prop := tG T (s / 17).toNat = 1
/-- true of the row at every time -/
def mInv (T : Tn) (nt : Int) (el : Nat) (b : Int) (f : Nat → Int) : Prop := ∀ s : Int, 0 ≤ s → s < 17 * tN T → (0 ≤ f s.toNat ∧ f s.toNat ≤ mFAR) ∧ (s / 17 = b → f s.toNat = 0) ∧ (s / 17 ≠ b → mHouse T s → f s.toNat = mFAR) ∧ (s / 17 ≠ b → f s.toNat < mFAR → ∃ q : Int, (0 ≤ q ∧ q < 4) ∧ 0 ≤ mE T el s q ∧ mC T nt el f s q ≤ f s.toNat)
/-- and at its end -/
def mFix (T : Tn) (nt : Int) (el : Nat) (b : Int) (f : Nat → Int) : Prop := mInv T nt el b f ∧ ∀ s : Int, 0 ≤ s → s < 17 * tN T → s / 17 ≠ b → ¬ mHouse T s → ∀ q : Int, 0 ≤ q → q < 4 → 0 ≤ mE T el s q → f s.toNat ≤ mC T nt el f s q
theorem mRun_le (s q : Int) (hs : 0 ≤ s) : 1 ≤ mRun s q ∧ mRun s q ≤ 5 := by unfold mRun; split <;> omega
theorem mE_range {T : Tn} (hw : tWF T) {el : Nat} {s q : Int} (hs : 0 ≤ s ∧ s < 17 * tN T) (hq : 0 ≤ q ∧ q < 4) : -1 ≤ mE T el s q ∧ mE T el s q < 17 * tN T := by
  unfold mE
  have hN := tN_le hw
  split
  · omega
  · rename_i h
    have := mOn_range hw (el := el) hs hq (by omega)
    omega
theorem mB_le {T : Tn} {nt : Int} {el : Nat} {f : Nat → Int} {s : Int} : ∀ k, mB T nt el f s k ≤ f s.toNat
  | 0 => Int.le_refl _
  | k + 1 => by
    have := mB_le (T := T) (nt := nt) (el := el) (f := f) (s := s) k
    unfold mB
    split <;> omega
theorem mB_leC {T : Tn} {nt : Int} {el : Nat} {f : Nat → Int} {s : Int} : ∀ (k : Nat) (q : Int), 0 ≤ q → q < k → 0 ≤ mE T el s q → mB T nt el f s k ≤ mC T nt el f s q
  | 0, q, h0, h1, _ => by omega
  | k + 1, q, h0, h1, h2 => by
    unfold mB
    by_cases hq : q = k
    · subst hq
      rw [if_neg (by omega)]
      omega
    · have := mB_leC (T := T) (nt := nt) (el := el) (f := f) (s := s) k q h0 (by omega) h2
      split <;> omega
theorem mB_is {T : Tn} {nt : Int} {el : Nat} {f : Nat → Int} {s : Int} : ∀ (k : Nat), mB T nt el f s k = f s.toNat ∨ ∃ q : Int, (0 ≤ q ∧ q < k) ∧ 0 ≤ mE T el s q ∧ mB T nt el f s k = mC T nt el f s q
  | 0 => Or.inl rfl
  | k + 1 => by
    unfold mB
    have ih := mB_is (T := T) (nt := nt) (el := el) (f := f) (s := s) k
    have lift : (∃ q : Int, (0 ≤ q ∧ q < k) ∧ 0 ≤ mE T el s q ∧ mB T nt el f s k = mC T nt el f s q) → ∃ q : Int, (0 ≤ q ∧ q < ((k + 1 : Nat) : Int)) ∧ 0 ≤ mE T el s q ∧ mB T nt el f s k = mC T nt el f s q := by
      rintro ⟨q, h1, h2, h3⟩
      exact ⟨q, by omega, h2, h3⟩
    split
    · exact ih.imp id lift
    · rename_i hn
      rcases Int.le_total (mB T nt el f s k) (mC T nt el f s k) with h | h
      · rw [Int.min_eq_left h]
        exact ih.imp id lift
      · rw [Int.min_eq_right h]
        exact Or.inr ⟨k, by omega, by omega, rfl⟩
theorem mC_range {T : Tn} (hw : tWF T) {nt : Int} {el : Nat} {b : Int} {f : Nat → Int} (hi : mInv T nt el b f) {s q : Int} (hs : 0 ≤ s ∧ s < 17 * tN T) (hq : 0 ≤ q ∧ q < 4) (he : 0 ≤ mE T el s q) : 1 ≤ mC T nt el f s q ∧ mC T nt el f s q ≤ 300000000 := by
  have h1 := mE_range hw (el := el) hs hq
  have h2 := (hi (mE T el s q) he h1.2).1
  have h3 := tPrice_range hw (nt := nt) (r := mRun s q) (by have := mRun_le s q hs.1; omega)
  unfold mC mFAR at *
  omega
theorem mB_range {T : Tn} (hw : tWF T) {nt : Int} {el : Nat} {b : Int} {f : Nat → Int} (hi : mInv T nt el b f) {s : Int} (hs : 0 ≤ s ∧ s < 17 * tN T) (k : Nat) (hk : k ≤ 4) : 0 ≤ mB T nt el f s k ∧ mB T nt el f s k ≤ mFAR := by
  have h1 := (hi s hs.1 hs.2).1
  have h2 := mB_le (T := T) (nt := nt) (el := el) (f := f) (s := s) k
  refine ⟨?_, by omega⟩
  rcases mB_is (T := T) (nt := nt) (el := el) (f := f) (s := s) k with h | ⟨q, q1, q2, q3⟩
  · omega
  · have := mC_range hw hi hs (q := q) (by omega) q2
    omega
theorem mC_mono {T : Tn} {nt : Int} {el : Nat} {f g : Nat → Int} {s q : Int} (h : f (mE T el s q).toNat ≤ g (mE T el s q).toNat) : mC T nt el f s q ≤ mC T nt el g s q := by
  unfold mC; omega
theorem mInv_ud {T : Tn} (hw : tWF T) {nt : Int} {el : Nat} {b : Int} {f : Nat → Int} (hi : mInv T nt el b f) {s : Int} (hs : 0 ≤ s ∧ s < 17 * tN T) (hb : s / 17 ≠ b) (hh : ¬ mHouse T s) : mInv T nt el b (ud f s.toNat (mB T nt el f s 4)) := by
  have hle : ∀ j, ud f s.toNat (mB T nt el f s 4) j ≤ f j := by
    intro j
    unfold ud
    split
    · rename_i h; rw [h]; exact mB_le 4
    · exact Int.le_refl _
  have hr := mB_range hw hi hs 4 (by omega)
  intro u hu0 hu1
  by_cases hus : u = s
  · subst hus
    rw [ud_s]
    refine ⟨hr, fun z => absurd z hb, fun _ z => absurd z hh, fun _ hlt => ?_⟩
    rcases mB_is (T := T) (nt := nt) (el := el) (f := f) (s := u) 4 with h | ⟨q, q1, q2, q3⟩
    · have hlt' := hlt
      rw [h] at hlt'
      obtain ⟨q, g1, g2, g3⟩ := (hi u hu0 hu1).2.2.2 hb hlt'
      exact ⟨q, g1, g2, Int.le_trans (mC_mono (hle _)) (by rw [h]; exact g3)⟩
    · exact ⟨q, by omega, q2, Int.le_trans (mC_mono (hle _)) (by rw [q3]; exact Int.le_refl _)⟩
  · have hne : u.toNat ≠ s.toNat := by omega
    rw [ud_n hne]
    obtain ⟨h1, h2, h3, h4⟩ := hi u hu0 hu1
    refine ⟨h1, h2, h3, fun hb' hlt => ?_⟩
    obtain ⟨q, g1, g2, g3⟩ := h4 hb' hlt
    exact ⟨q, g1, g2, Int.le_trans (mC_mono (hle _)) g3⟩
section MR
variable {d : Nat} {T : Tn} {I : Nat → Nat → Int} {X : (Nat → Nat → Int64) × (Nat → Nat → Option Nat)} {nt b : Int} {el : Nat} {Q : Option Value → QS → Prop}
-- method 127: StraightTaxModel.findRest.(II)V
theorem l_rest_d (hT : MT (I, X) T) (hR : X.2 = rM) (hw : tWF T) (hn : I 2 2 = nt) (h01 : nt = 0 ∨ nt = 1) (hel : el < 2 ^ 31) (f : Nat → Int) (hi : mInv T nt el b f) (N less s : Int) (hs : 0 ≤ s ∧ s < 17 * tN T)
    (hk : ∀ x8 x9 : Option Value, K shM (d + 3) 127 187 [some (.ref 0), some (.int (J b)), some (.int (J (el : Int))), some (.int (J N)), some (.int (J less)), some (.int (J s)), some (.int (J (mB T nt el f s 4))), some (.int (J 4)), x8, x9] [] (sr I 7 f, X) Q) :
    ∀ (m k : Nat), k + m = 4 → ∀ x8 x9 : Option Value, K shM (d + 3) 127 107 [some (.ref 0), some (.int (J b)), some (.int (J (el : Int))), some (.int (J N)), some (.int (J less)), some (.int (J s)), some (.int (J (mB T nt el f s k))), some (.int (J (k : Int))), x8, x9] [] (sr I 7 f, X) Q := by
  have hN := tN_le hw
  have hT' : MT (sr I 7 f, X) T := hT.row (by decide)
  have hn' : (sr I 7 f) 2 2 = nt := hn
  intro m
  induction m with
  | zero =>
    intro k hk4 x8 x9
    have e : k = 4 := by omega
    subst e
    refine k_iload i_127_107 rfl ?_
    refine k_iconst i_127_109 ?_
    refine k_ic_ge (t := 187) i_127_110 rfl (by omega) (by omega) (fun h => ?_) (fun h => ?_)
    · exact hk x8 x9
    · omega
  | succ m ih =>
    intro k hk4 x8 x9
    have hrun := mRun_le s k hs.1
    have hbr := mB_range hw hi hs k (by omega)
    have hFAR : mFAR = 100000000 := rfl
    have hq : (0 : Int) ≤ (k : Int) ∧ (k : Int) < 4 := by omega
    have hEr := mE_range hw (el := el) hs hq
    have hi2 := ih (k + 1) (by omega)
    have k144 : ∀ e : Int, e = mE T el s k → K shM (d + 3) 127 144 [some (.ref 0), some (.int (J b)), some (.int (J (el : Int))), some (.int (J N)), some (.int (J less)), some (.int (J s)), some (.int (J (mB T nt el f s k))), some (.int (J (k : Int))), some (.int (J (mRun s k))), some (.int (J e))] [] (sr I 7 f, X) Q := by
      intro e he
      subst he
      refine k_iload i_127_144 rfl ?_
      refine k_if_ge (t := 154) i_127_146 rfl (by omega) (fun h => ?_) (fun h => ?_)
      · refine k_iload i_127_154 rfl ?_
        refine k_aload_n i_127_156 rfl ?_
        refine k_gfR i_127_157 f_12_45 (by first | rfl | assumption | (rw [hR]; rfl) | (dsimp only; rw [hR]; rfl)) (by decide) (by decide) (Or.inr ⟨_, rfl⟩) (by first | rfl | assumption | (rw [hR]; rfl) | (dsimp only; rw [hR]; rfl)) ?_
        refine k_iload i_127_160 rfl ?_
        refine k_iald i_127_162 rfl (by decide) (by omega) (by omega) ?_
        have hfr := (hi (mE T el s k) (by omega) hEr.2).1
        have hpr := tPrice_range hw (nt := nt) (r := mRun s k) (by omega)
        have hcr := mC_range hw hi hs hq (by omega)
        show K shM (d + 3) 127 163 _ (.int (J (f (mE T el s k).toNat)) :: _) _ _
        refine k_sipush i_127_163 (by decide) ?_
        refine k_aload_n i_127_166 rfl ?_
        refine k_iload i_127_167 rfl ?_
        refine k_vp1 i_127_169 c_12_194 qp_120 qo_120 (by first | rfl | assumption | (rw [hR]; rfl) | (dsimp only; rw [hR]; rfl)) (Nat.le_of_ble_eq_true rfl) (m_priceOf hT' hR hw _ nt hn' (by omega) h01) ?_
        refine k_imul i_127_172 ?_
        refine k_iadd i_127_173 ?_
        refine k_iconst i_127_174 ?_
        refine k_iadd i_127_175 ?_
        refine k_sp2 i_127_176 c_12_108 (by decide) qp_107 (Nat.le_of_ble_eq_true rfl) (m_lesser _ _ (by omega) (by unfold mC at hcr; omega)) ?_
        refine k_istore i_127_179 (Nat.le_of_ble_eq_true rfl) ?_
        dsimp only [q_st1, q_st2, q_unl]
        refine k_iinc i_127_181 rfl (Nat.le_of_ble_eq_true rfl) ?_
        dsimp only [q_st1, q_st2, q_unl]
        refine k_goto (t := 107) i_127_184 rfl ?_
        have h2 := hi2 (some (.int (J (mRun s k)))) (some (.int (J (mE T el s k))))
        rw [show mB T nt el f s (k + 1) = min (mB T nt el f s k) (f (mE T el s k).toNat + 1000 * tPrice T nt (mRun s k) + 1) from by
          show (if mE T el s k < 0 then _ else _) = _
          rw [if_neg (by omega)]; rfl] at h2
        exact h2
      · refine k_iload i_127_149 rfl ?_
        refine k_goto (t := 179) i_127_151 rfl ?_
        refine k_istore i_127_179 (Nat.le_of_ble_eq_true rfl) ?_
        dsimp only [q_st1, q_st2, q_unl]
        refine k_iinc i_127_181 rfl (Nat.le_of_ble_eq_true rfl) ?_
        dsimp only [q_st1, q_st2, q_unl]
        refine k_goto (t := 107) i_127_184 rfl ?_
        have h2 := hi2 (some (.int (J (mRun s k)))) (some (.int (J (mE T el s k))))
        rw [show mB T nt el f s (k + 1) = mB T nt el f s k from by
          show (if mE T el s k < 0 then _ else _) = _
          rw [if_pos (by omega)]] at h2
        exact h2
    refine k_iload i_127_107 rfl ?_
    refine k_iconst i_127_109 ?_
    refine k_ic_ge (t := 187) i_127_110 rfl (by omega) (by omega) (fun h => ?_) (fun h => ?_)
    · omega
    · refine k_aload_n i_127_113 rfl ?_
      refine k_iload i_127_114 rfl ?_
      refine k_iload i_127_116 rfl ?_
      refine k_vp2 i_127_118 c_12_203 qp_128 qo_128 (by first | rfl | assumption | (rw [hR]; rfl) | (dsimp only; rw [hR]; rfl)) (Nat.le_of_ble_eq_true rfl) (m_runBehind _ _ (by omega) (by omega)) ?_
      refine k_istore i_127_121 (Nat.le_of_ble_eq_true rfl) ?_
      dsimp only [q_st1, q_st2, q_unl]
      refine k_iload i_127_123 rfl ?_
      refine k_iconst i_127_125 ?_
      refine k_ic_le (t := 133) i_127_126 rfl (by omega) (by omega) (fun g => ?_) (fun g => ?_)
      · refine k_aload_n i_127_133 rfl ?_
        refine k_iload i_127_134 rfl ?_
        refine k_iload i_127_136 rfl ?_
        refine k_iload_n i_127_138 rfl ?_
        refine k_vp3 i_127_139 c_12_206 qp_129 qo_129 (by first | rfl | assumption | (rw [hR]; rfl) | (dsimp only; rw [hR]; rfl)) (Nat.le_of_ble_eq_true rfl) (m_onward hT' hw hel _ _ hs hq) ?_
        refine k_istore i_127_142 (Nat.le_of_ble_eq_true rfl) ?_
        dsimp only [q_st1, q_st2, q_unl]
        exact k144 _ (by unfold mE; rw [if_neg (by omega)])
      · refine k_iconst i_127_129 ?_
        refine k_goto (t := 142) i_127_130 rfl ?_
        refine k_istore i_127_142 (Nat.le_of_ble_eq_true rfl) ?_
        dsimp only [q_st1, q_st2, q_unl]
        exact k144 _ (by unfold mE; rw [if_pos (by omega)])
/-- a sweep, from its row f0 to the row f, behind the states above s -/
def mSw (T : Tn) (nt : Int) (el : Nat) (b : Int) (f0 f : Nat → Int) (less s : Int) : Prop := (∀ j, f j ≤ f0 j) ∧ (less = 0 ∨ less = 1) ∧ (less = 0 → f = f0 ∧ ∀ u : Int, s < u → u < 17 * tN T → u / 17 ≠ b → ¬ mHouse T u → ∀ q : Int, 0 ≤ q → q < 4 → 0 ≤ mE T el u q → f0 u.toNat ≤ mC T nt el f0 u q) ∧ (less = 1 → ∃ u : Int, (0 ≤ u ∧ u < 17 * tN T) ∧ f u.toNat < f0 u.toNat)
theorem l_rest_s (hT : MT (I, X) T) (hR : X.2 = rM) (hw : tWF T) (hn : I 2 2 = nt) (h01 : nt = 0 ∨ nt = 1) (hel : el < 2 ^ 31) (hb : 0 ≤ b ∧ b < tN T) (f0 : Nat → Int)
    (hk : ∀ (f : Nat → Int) (less : Int) (x6 x7 x8 x9 : Option Value), mInv T nt el b f → mSw T nt el b f0 f less (-1) → K shM (d + 3) 127 226 [some (.ref 0), some (.int (J b)), some (.int (J (el : Int))), some (.int (J (17 * tN T))), some (.int (J less)), some (.int (J (-1))), x6, x7, x8, x9] [] (sr I 7 f, X) Q) :
    ∀ (m : Nat) (s : Int) (f : Nat → Int) (less : Int) (x6 x7 x8 x9 : Option Value), -1 ≤ s → s < 17 * tN T → (s + 1).toNat = m → mInv T nt el b f → mSw T nt el b f0 f less s → K shM (d + 3) 127 66 [some (.ref 0), some (.int (J b)), some (.int (J (el : Int))), some (.int (J (17 * tN T))), some (.int (J less)), some (.int (J s)), x6, x7, x8, x9] [] (sr I 7 f, X) Q := by
  have hN := tN_le hw
  have hm := tMask_lt T 1
  obtain ⟨a0, a1, a2, a3, a4, a5, a6, a7, a8⟩ := id hT
  intro m
  induction m with
  | zero =>
    intro s f less x6 x7 x8 x9 h0 h1 hm0 hi hsw
    have e : s = -1 := by omega
    subst e
    refine k_iload i_127_66 rfl ?_
    refine k_if_lt (t := 226) i_127_68 rfl (by omega) (fun h => ?_) (fun h => ?_)
    · exact hk f less x6 x7 x8 x9 hi hsw
    · omega
  | succ m ih =>
    intro s f less x6 x7 x8 x9 h0 h1 hm0 hi hsw
    have hFAR : mFAR = 100000000 := rfl
    have w2 := hsw.2.1
    have skip : (s / 17 = b ∨ mHouse T s) → mSw T nt el b f0 f less (s - 1) := by
      intro hsk
      refine ⟨hsw.1, w2, fun hl => ⟨(hsw.2.2.1 hl).1, fun u hu hu2 hub huh => ?_⟩, hsw.2.2.2⟩
      by_cases hus : u = s
      · subst hus
        rcases hsk with z | z
        · exact absurd z hub
        · exact absurd z huh
      · exact (hsw.2.2.1 hl).2 u (by omega) hu2 hub huh
    refine k_iload i_127_66 rfl ?_
    refine k_if_lt (t := 226) i_127_68 rfl (by omega) (fun h => ?_) (fun h => ?_)
    · omega
    · refine k_iload i_127_71 rfl ?_
      refine k_bipush i_127_73 (by decide) ?_
      refine k_idiv i_127_75 (by omega) (by omega) (by omega) (by omega) ?_
      refine k_iload_n i_127_76 rfl ?_
      refine k_ic_eq (t := 220) i_127_77 rfl (by omega) (by omega) (fun g => ?_) (fun g => ?_)
      · refine k_iinc i_127_220 rfl (Nat.le_of_ble_eq_true rfl) ?_
        dsimp only [q_st1, q_st2, q_unl]
        refine k_goto (t := 66) i_127_223 rfl ?_
        have h2 := ih (s - 1) f less x6 x7 x8 x9 (by omega) (by omega) (by omega) hi (skip (Or.inl g))
        rw [show s - 1 = s + -1 by omega] at h2
        exact h2
      · refine k_aload_n i_127_80 rfl ?_
        refine k_gfI i_127_81 f_12_80 (by first | rfl | assumption | (rw [hR]; rfl) | (dsimp only; rw [hR]; rfl)) (by decide) (by decide) (Or.inl rfl) ?_
        rw [show (sr I 7 f, X).1 0 2 = (tMask T 1 : Int) from a2]
        refine k_iload i_127_84 rfl ?_
        refine k_bipush i_127_86 (by decide) ?_
        refine k_idiv i_127_88 (by omega) (by omega) (by omega) (by omega) ?_
        refine k_sp2 i_127_89 c_12_83 (by decide) qp_109 (Nat.le_of_ble_eq_true rfl) (m_has (by omega) _ (by omega) (by omega)) ?_
        rw [tMask_bit]
        refine k_if_neB (t := 220) i_127_92 rfl (fun h => ?_) (fun h => ?_)
        · have h3 : mHouse T s := by simp at h; exact h.2
          refine k_iinc i_127_220 rfl (Nat.le_of_ble_eq_true rfl) ?_
          dsimp only [q_st1, q_st2, q_unl]
          refine k_goto (t := 66) i_127_223 rfl ?_
          have h2 := ih (s - 1) f less x6 x7 x8 x9 (by omega) (by omega) (by omega) hi (skip (Or.inr h3))
          rw [show s - 1 = s + -1 by omega] at h2
          exact h2
        · have h3 : ¬ mHouse T s := fun z => by rw [decide_eq_true ⟨by omega, z⟩] at h; cases h
          have hs : 0 ≤ s ∧ s < 17 * tN T := by omega
          have hfr := (hi s hs.1 hs.2).1
          have hbr := mB_range hw hi hs 4 (by omega)
          have hble := mB_le (T := T) (nt := nt) (el := el) (f := f) (s := s) 4
          refine k_aload_n i_127_95 rfl ?_
          refine k_gfR i_127_96 f_12_45 (by first | rfl | assumption | (rw [hR]; rfl) | (dsimp only; rw [hR]; rfl)) (by decide) (by decide) (Or.inr ⟨_, rfl⟩) (by first | rfl | assumption | (rw [hR]; rfl) | (dsimp only; rw [hR]; rfl)) ?_
          refine k_iload i_127_99 rfl ?_
          refine k_iald i_127_101 rfl (by decide) (by omega) (by omega) ?_
          show K shM (d + 3) 127 102 _ (.int (J (f s.toNat)) :: _) _ _
          refine k_istore i_127_102 (Nat.le_of_ble_eq_true rfl) ?_
          dsimp only [q_st1, q_st2, q_unl]
          refine k_iconst i_127_104 ?_
          refine k_istore i_127_105 (Nat.le_of_ble_eq_true rfl) ?_
          dsimp only [q_st1, q_st2, q_unl]
          refine l_rest_d hT hR hw hn h01 hel f hi (17 * tN T) less s hs (fun x8 x9 => ?_) 4 0 (by omega) x8 x9
          have hi' := mInv_ud hw hi hs g h3
          have fin : ∀ less' : Int, mSw T nt el b f0 (ud f s.toNat (mB T nt el f s 4)) less' (s - 1) → K shM (d + 3) 127 209 [some (.ref 0), some (.int (J b)), some (.int (J (el : Int))), some (.int (J (17 * tN T))), some (.int (J less)), some (.int (J s)), some (.int (J (mB T nt el f s 4))), some (.int (J 4)), x8, x9] [.int (J less')] (sr I 7 f, X) Q := by
            intro less' hsw'
            refine k_istore i_127_209 (Nat.le_of_ble_eq_true rfl) ?_
            dsimp only [q_st1, q_st2, q_unl]
            refine k_aload_n i_127_211 rfl ?_
            refine k_gfR i_127_212 f_12_45 (by first | rfl | assumption | (rw [hR]; rfl) | (dsimp only; rw [hR]; rfl)) (by decide) (by decide) (Or.inr ⟨_, rfl⟩) (by first | rfl | assumption | (rw [hR]; rfl) | (dsimp only; rw [hR]; rfl)) ?_
            refine k_iload i_127_215 rfl ?_
            refine k_iload i_127_217 rfl ?_
            refine k_iast i_127_219 rfl (by decide) (by omega) (by omega) ?_
            dsimp only
            rw [sr_up]
            refine k_iinc i_127_220 rfl (Nat.le_of_ble_eq_true rfl) ?_
            dsimp only [q_st1, q_st2, q_unl]
            refine k_goto (t := 66) i_127_223 rfl ?_
            have h2 := ih (s - 1) _ less' (some (.int (J (mB T nt el f s 4)))) (some (.int (J 4))) x8 x9 (by omega) (by omega) (by omega) hi' hsw'
            rw [show s - 1 = s + -1 by omega] at h2
            exact h2
          have hle : ∀ j, ud f s.toNat (mB T nt el f s 4) j ≤ f j := by
            intro j
            unfold ud
            split
            · rename_i hj; rw [hj]; exact hble
            · exact Int.le_refl _
          have less1 : (less = 1 ∨ mB T nt el f s 4 < f s.toNat) → mSw T nt el b f0 (ud f s.toNat (mB T nt el f s 4)) 1 (s - 1) := by
            intro hl
            refine ⟨fun j => Int.le_trans (hle j) (hsw.1 j), Or.inr rfl, fun z => by omega, fun _ => ?_⟩
            rcases hl with hl | hl
            · obtain ⟨u, u1, u2⟩ := hsw.2.2.2 hl
              exact ⟨u, u1, Int.lt_of_le_of_lt (hle _) u2⟩
            · refine ⟨s, hs, ?_⟩
              rw [ud_s]
              exact Int.lt_of_lt_of_le hl (hsw.1 _)
          refine k_iload i_127_187 rfl ?_
          refine k_if_ne (t := 204) i_127_189 rfl (by omega) (fun gl => ?_) (fun gl => ?_)
          · refine k_iconst i_127_204 ?_
            refine k_goto (t := 209) i_127_205 rfl ?_
            exact fin 1 (less1 (Or.inl (by omega)))
          · refine k_iload i_127_192 rfl ?_
            refine k_aload_n i_127_194 rfl ?_
            refine k_gfR i_127_195 f_12_45 (by first | rfl | assumption | (rw [hR]; rfl) | (dsimp only; rw [hR]; rfl)) (by decide) (by decide) (Or.inr ⟨_, rfl⟩) (by first | rfl | assumption | (rw [hR]; rfl) | (dsimp only; rw [hR]; rfl)) ?_
            refine k_iload i_127_198 rfl ?_
            refine k_iald i_127_200 rfl (by decide) (by omega) (by omega) ?_
            show K shM (d + 3) 127 201 _ (.int (J (f s.toNat)) :: _) _ _
            refine k_ic_ge (t := 208) i_127_201 rfl (by omega) (by omega) (fun gb => ?_) (fun gb => ?_)
            · refine k_iconst i_127_208 ?_
              have eB : mB T nt el f s 4 = f s.toNat := by omega
              have eU : ud f s.toNat (mB T nt el f s 4) = f := by
                funext j
                unfold ud
                split
                · rename_i hj; rw [hj, eB]
                · rfl
              have zl : less = 0 := by omega
              have z1 := (hsw.2.2.1 zl).1
              refine fin 0 ⟨by rw [eU]; exact hsw.1, Or.inl rfl, fun _ => ⟨by rw [eU]; exact z1, fun u hu hu2 hub huh q q0 q1 q2 => ?_⟩, fun z => by omega⟩
              by_cases hus : u = s
              · subst hus
                have h5 := mB_leC (T := T) (nt := nt) (el := el) (f := f) (s := u) 4 q q0 (by omega) q2
                rw [eB, z1] at h5
                exact h5
              · exact (hsw.2.2.1 zl).2 u (by omega) hu2 hub huh q q0 q1 q2
            · refine k_iconst i_127_204 ?_
              refine k_goto (t := 209) i_127_205 rfl ?_
              exact fin 1 (less1 (Or.inr (by omega)))
def tSum (f : Nat → Int) : Nat → Int
  | 0 => 0
  | k + 1 => tSum f k + f k
theorem tSum_le {f g : Nat → Int} (h : ∀ j, f j ≤ g j) : ∀ k, tSum f k ≤ tSum g k
  | 0 => Int.le_refl _
  | k + 1 => Int.add_le_add (tSum_le h k) (h k)
theorem tSum_lt {f g : Nat → Int} (h : ∀ j, f j ≤ g j) {u : Nat} (hu : f u < g u) : ∀ k, u < k → tSum f k < tSum g k
  | 0, hk => by omega
  | k + 1, hk => by
    have h1 := tSum_le h k
    have h2 := h k
    by_cases e : u = k
    · subst e; unfold tSum; omega
    · have := tSum_lt h hu k (by omega); unfold tSum; omega
theorem tSum_nn {f : Nat → Int} : ∀ k : Nat, (∀ j, j < k → 0 ≤ f j) → 0 ≤ tSum f k
  | 0, _ => Int.le_refl _
  | k + 1, h => by
    have h1 := tSum_nn k (fun j hj => h j (by omega))
    have h2 := h k (by omega)
    unfold tSum; omega
theorem l_end {x5 x6 x7 x8 x9 : Option Value} (hk : ∀ (f : Nat → Int), mFix T nt el b f → Q none (sr I 7 f, X)) {f : Nat → Int} (hf : mFix T nt el b f) {N : Int} : K shM (d + 3) 127 53 [some (.ref 0), some (.int (J b)), some (.int (J (el : Int))), some (.int (J N)), some (.int (J 0)), x5, x6, x7, x8, x9] [] (sr I 7 f, X) Q := by
  refine k_iload i_127_53 rfl ?_
  refine k_if_eq (t := 229) i_127_55 rfl (by omega) (fun g => ?_) (fun g => ?_)
  · refine k_vret i_127_229 qt_127 ?_
    exact hk f hf
  · omega
theorem l_rest_w (hT : MT (I, X) T) (hR : X.2 = rM) (hw : tWF T) (hn : I 2 2 = nt) (h01 : nt = 0 ∨ nt = 1) (hel : el < 2 ^ 31) (hb : 0 ≤ b ∧ b < tN T)
    (hk : ∀ (f : Nat → Int), mFix T nt el b f → Q none (sr I 7 f, X)) :
    ∀ (m : Nat) (f : Nat → Int) (less : Int) (x5 x6 x7 x8 x9 : Option Value), mInv T nt el b f → (less = 1 ∨ less = 0 ∧ mFix T nt el b f) → (tSum f (17 * tN T).toNat).toNat < m → K shM (d + 3) 127 53 [some (.ref 0), some (.int (J b)), some (.int (J (el : Int))), some (.int (J (17 * tN T))), some (.int (J less)), x5, x6, x7, x8, x9] [] (sr I 7 f, X) Q := by
  have hN := tN_le hw
  intro m
  induction m with
  | zero => intro f less x5 x6 x7 x8 x9 hi hl hlt; omega
  | succ m ih =>
    intro f less x5 x6 x7 x8 x9 hi hl hlt
    refine k_iload i_127_53 rfl ?_
    refine k_if_eq (t := 229) i_127_55 rfl (by omega) (fun g => ?_) (fun g => ?_)
    · refine k_vret i_127_229 qt_127 ?_
      rcases hl with hl | hl
      · omega
      · exact hk f hl.2
    · refine k_iconst i_127_58 ?_
      refine k_istore i_127_59 (Nat.le_of_ble_eq_true rfl) ?_
      dsimp only [q_st1, q_st2, q_unl]
      refine k_iload_n i_127_61 rfl ?_
      refine k_iconst i_127_62 ?_
      refine k_isub i_127_63 ?_
      refine k_istore i_127_64 (Nat.le_of_ble_eq_true rfl) ?_
      dsimp only [q_st1, q_st2, q_unl]
      refine l_rest_s hT hR hw hn h01 hel hb f (fun f2 less2 y6 y7 y8 y9 hi2 hsw => ?_) (17 * tN T).toNat (17 * tN T - 1) f 0 x6 x7 x8 x9 (by omega) (by omega) (by omega) hi ⟨fun j => Int.le_refl _, Or.inl rfl, fun _ => ⟨rfl, fun u hu hu2 => by omega⟩, fun z => by omega⟩
      refine k_goto (t := 53) i_127_226 rfl ?_
      rcases hsw.2.1 with e | e
      · subst e
        have e1 := (hsw.2.2.1 rfl).1
        subst e1
        -- nothing has changed: it stands
        exact l_end hk ⟨hi2, fun s s0 s1 sb sh q q0 q1 q2 => (hsw.2.2.1 rfl).2 s (by omega) s1 sb sh q q0 q1 q2⟩
      · subst e
        obtain ⟨u, u1, u2⟩ := hsw.2.2.2 rfl
        refine ih f2 1 _ y6 y7 y8 y9 hi2 (Or.inl rfl) ?_
        have h5 := tSum_lt hsw.1 u2 (17 * tN T).toNat (by omega)
        have h6 := tSum_nn (f := f2) (17 * tN T).toNat (fun j hj => by
          have := (hi2 (j : Int) (by omega) (by omega)).1
          rw [show ((j : Int)).toNat = j by omega] at this
          omega)
        omega
theorem l_rest_i (hT : MT (I, X) T) (hR : X.2 = rM) (hw : tWF T) (hb : 0 ≤ b ∧ b < tN T)
    (hk : ∀ (f : Nat → Int), mInv T nt el b f → K shM (d + 3) 127 50 [some (.ref 0), some (.int (J b)), some (.int (J (el : Int))), some (.int (J (17 * tN T))), some (.int (J (17 * tN T))), none, none, none, none, none] [] (sr I 7 f, X) Q) :
    ∀ (m : Nat) (s : Int) (f : Nat → Int), 0 ≤ s → s ≤ 17 * tN T → (17 * tN T - s).toNat = m → (∀ u : Int, 0 ≤ u → u < s → f u.toNat = if u / 17 = b then 0 else mFAR) → K shM (d + 3) 127 16 [some (.ref 0), some (.int (J b)), some (.int (J (el : Int))), some (.int (J (17 * tN T))), some (.int (J s)), none, none, none, none, none] [] (sr I 7 f, X) Q := by
  have hN := tN_le hw
  have hFAR : mFAR = 100000000 := rfl
  intro m
  induction m with
  | zero =>
    intro s f h0 h1 hm hf
    have e : s = 17 * tN T := by omega
    subst e
    refine k_iload i_127_16 rfl ?_
    refine k_iload_n i_127_18 rfl ?_
    refine k_ic_ge (t := 50) i_127_19 rfl (by omega) (by omega) (fun h => ?_) (fun h => ?_)
    · refine hk f (fun s s0 s1 => ?_)
      rw [hf s s0 s1]
      by_cases hsb : s / 17 = b
      · rw [if_pos hsb]
        exact ⟨by omega, fun _ => rfl, fun z => absurd hsb z, fun z => absurd hsb z⟩
      · rw [if_neg hsb]
        exact ⟨by omega, fun z => absurd z hsb, fun _ _ => rfl, fun _ z => by omega⟩
    · omega
  | succ m ih =>
    intro s f h0 h1 hm hf
    have fin : ∀ v : Int, v = (if s / 17 = b then 0 else mFAR) → K shM (d + 3) 127 43 [some (.ref 0), some (.int (J b)), some (.int (J (el : Int))), some (.int (J (17 * tN T))), some (.int (J s)), none, none, none, none, none] [.int (J v), .int (J s), .ref 7] (sr I 7 f, X) Q := by
      intro v hv
      refine k_iast i_127_43 rfl (by decide) (by omega) (by omega) ?_
      dsimp only
      rw [sr_up]
      refine k_iinc i_127_44 rfl (Nat.le_of_ble_eq_true rfl) ?_
      dsimp only [q_st1, q_st2, q_unl]
      refine k_goto (t := 16) i_127_47 rfl ?_
      refine ih (s + 1) _ (by omega) (by omega) (by omega) (fun u u0 u1 => ?_)
      by_cases hus : u = s
      · subst hus; rw [ud_s]; exact hv
      · rw [ud_n (by omega)]; exact hf u u0 (by omega)
    refine k_iload i_127_16 rfl ?_
    refine k_iload_n i_127_18 rfl ?_
    refine k_ic_ge (t := 50) i_127_19 rfl (by omega) (by omega) (fun h => ?_) (fun h => ?_)
    · omega
    · refine k_aload_n i_127_22 rfl ?_
      refine k_gfR i_127_23 f_12_45 (by first | rfl | assumption | (rw [hR]; rfl) | (dsimp only; rw [hR]; rfl)) (by decide) (by decide) (Or.inr ⟨_, rfl⟩) (by first | rfl | assumption | (rw [hR]; rfl) | (dsimp only; rw [hR]; rfl)) ?_
      refine k_iload i_127_26 rfl ?_
      refine k_iload i_127_28 rfl ?_
      refine k_bipush i_127_30 (by decide) ?_
      refine k_idiv i_127_32 (by omega) (by omega) (by omega) (by omega) ?_
      refine k_iload_n i_127_33 rfl ?_
      refine k_ic_ne (t := 41) i_127_34 rfl (by omega) (by omega) (fun g => ?_) (fun g => ?_)
      · refine k_ldc (a := 100000000) i_127_41 n_12_202 (by decide) ?_
        exact fin _ (by rw [if_neg g]; rfl)
      · refine k_iconst i_127_37 ?_
        refine k_goto (t := 43) i_127_38 rfl ?_
        exact fin _ (by rw [if_pos (by omega)])
/-- findRest: what is left to the end, from each state -/
theorem m_findRest {S : QS} (hT : MT S T) (hR : S.2.2 = rM) (hw : tWF T) (hn : S.1 2 2 = nt) (h01 : nt = 0 ∨ nt = 1) (hel : el < 2 ^ 31) (hb : 0 ≤ b ∧ b < tN T) : KC shM (d + 3) 127 [.ref 0, .int (J b), .int (J (el : Int))] S (fun r S2 => r = none ∧ ∃ f, S2 = (sr S.1 7 f, S.2) ∧ mFix T nt el b f) := by
  obtain ⟨I, X⟩ := S
  have hN := tN_le hw
  obtain ⟨a0, a1, a2, a3, a4, a5, a6, a7, a8⟩ := id hT
  refine k_start ql_127 (Nat.le_of_ble_eq_true rfl) ?_
  simp only [q_en, List.replicate]
  refine k_bipush i_127_0 (by decide) ?_
  refine k_aload_n i_127_2 rfl ?_
  refine k_gfI i_127_3 f_12_7 (by first | rfl | assumption | (rw [hR]; rfl) | (dsimp only; rw [hR]; rfl)) (by decide) (by decide) (Or.inl rfl) ?_
  refine k_imul i_127_6 ?_
  refine k_aload_n i_127_7 rfl ?_
  refine k_gfI i_127_8 f_12_13 (by first | rfl | assumption | (rw [hR]; rfl) | (dsimp only; rw [hR]; rfl)) (by decide) (by decide) (Or.inl rfl) ?_
  refine k_imul i_127_11 ?_
  refine k_istore_n i_127_12 (Nat.le_of_ble_eq_true rfl) ?_
  dsimp only [q_st1, q_st2, q_unl]
  refine k_iconst i_127_13 ?_
  refine k_istore i_127_14 (Nat.le_of_ble_eq_true rfl) ?_
  dsimp only [q_st1, q_st2, q_unl]
  rw [show 17 * (I, X).1 0 0 * (I, X).1 0 1 = 17 * tN T from by rw [a0, a1]; unfold tN; rw [Int.mul_assoc]]
  have h := l_rest_i (d := d) (I := I) (X := X) (nt := nt) (el := el) (Q := fun r S2 => r = none ∧ ∃ f, S2 = (sr I 7 f, X) ∧ mFix T nt el b f) hT hR hw hb (fun f hi => ?_) (17 * tN T).toNat 0 (I 7) (by omega) (by omega) (by omega) (fun u u0 u1 => by omega)
  · rw [sr_id] at h
    exact h
  · refine k_iconst i_127_50 ?_
    refine k_istore i_127_51 (Nat.le_of_ble_eq_true rfl) ?_
    dsimp only [q_st1, q_st2, q_unl]
    exact l_rest_w hT hR hw hn h01 hel hb (fun f hf => ⟨rfl, f, rfl, hf⟩) _ f 1 none none none none none hi (Or.inl rfl) (Nat.lt_succ_self _)
end MR
end
section
/-! THE FIXPOINT, as mathematics -/
def fx (T : Tn) (nt : Int) (el : Nat) (b B F : Int) (g : Int → Int) : Prop := ∀ s : Int, 0 ≤ s → s < 17 * tN T → (0 ≤ g s ∧ g s ≤ F) ∧ (s / 17 = b → g s = 0) ∧ (s / 17 ≠ b → mHouse T s → g s = F) ∧ (s / 17 ≠ b → ¬ mHouse T s → ∀ q : Int, 0 ≤ q → q < 4 → 0 ≤ mE T el s q → g s ≤ g (mE T el s q) + B * tPrice T nt (mRun s q) + 1) ∧ (s / 17 ≠ b → g s < F → ∃ q : Int, (0 ≤ q ∧ q < 4) ∧ 0 ≤ mE T el s q ∧ g s = g (mE T el s q) + B * tPrice T nt (mRun s q) + 1)
theorem mE_run {T : Tn} {el : Nat} {s q : Int} (h : 0 ≤ mE T el s q) : mRun s q ≤ 4 := by
  unfold mE at h
  split at h <;> omega
theorem mFix.fx {T : Tn} (hw : tWF T) {nt : Int} {el : Nat} {b : Int} {f : Nat → Int} (h : mFix T nt el b f) : fx T nt el b 1000 100000000 (fun s => f s.toNat) := by
  intro s s0 s1
  obtain ⟨h1, h2, h3, h4⟩ := h.1 s s0 s1
  refine ⟨h1, h2, h3, fun hb hh q q0 q1 q2 => h.2 s s0 s1 hb hh q q0 q1 q2, fun hb hlt => ?_⟩
  dsimp only at hlt ⊢
  obtain ⟨q, q1, q2, q3⟩ := h4 hb hlt
  have hh : ¬ mHouse T s := fun z => by have := h3 hb z; unfold mFAR at this; omega
  refine ⟨q, q1, q2, ?_⟩
  have := h.2 s s0 s1 hb hh q q1.1 q1.2 q2
  unfold mC at q3 this
  omega
theorem tPart4 {T : Tn} (hw : tWF T) {o : Int} (h1 : 0 ≤ o) (h2 : o ≤ 4) : 0 ≤ tPart T o ∧ tPart T o ≤ 144 := by
  obtain ⟨-, -, -, ⟨r1, r2⟩, -⟩ := hw
  have h3 : 0 ≤ tR T * o := Int.mul_nonneg (by omega) h1
  have h4 : tR T * o ≤ 9 * 4 := Int.mul_le_mul r2 h2 h1 (by decide)
  have h5 : 0 ≤ tR T * o * o := Int.mul_nonneg h3 h1
  have h6 : tR T * o * o ≤ 36 * 4 := Int.mul_le_mul (by omega) h2 h1 (by decide)
  unfold tPart
  split
  · omega
  · split <;> omega
theorem tPrice4 {T : Tn} (hw : tWF T) {nt r : Int} (h : r ≤ 4) : 0 ≤ tPrice T nt r ∧ tPrice T nt r ≤ 297 := by
  have hf := hw.2.2.1
  have ha := hw.2.2.2.2.2.2.1
  unfold tPrice
  split
  · omega
  · rename_i h1
    have := tPart4 hw (o := r - tF T) (by omega) (by omega)
    split <;> omega
/-- two fixpoints of one system are one -/
theorem fx_le {T : Tn} (hw : tWF T) {nt : Int} {el : Nat} {b B F : Int} (hB : 0 ≤ B) {g g' : Int → Int} (h : fx T nt el b B F g) (h' : fx T nt el b B F g') : ∀ (n : Nat) (s : Int), 0 ≤ s → s < 17 * tN T → g s ≤ n → g' s ≤ g s := by
  intro n
  induction n with
  | zero =>
    intro s s0 s1 hn
    by_cases hb : s / 17 = b
    · rw [(h s s0 s1).2.1 hb, (h' s s0 s1).2.1 hb]; exact Int.le_refl _
    · by_cases hF : g s < F
      · obtain ⟨q, q1, q2, q3⟩ := (h s s0 s1).2.2.2.2 hb hF
        have h1 := mE_range hw (el := el) ⟨s0, s1⟩ q1
        have h2 := (h (mE T el s q) q2 h1.2).1
        have h3 := (tPrice4 hw (nt := nt) (mE_run q2)).1
        have h4 : 0 ≤ B * tPrice T nt (mRun s q) := Int.mul_nonneg hB h3
        omega
      · have h1 := (h s s0 s1).1
        have h2 := (h' s s0 s1).1
        omega
  | succ n ih =>
    intro s s0 s1 hn
    by_cases hb : s / 17 = b
    · rw [(h s s0 s1).2.1 hb, (h' s s0 s1).2.1 hb]; exact Int.le_refl _
    · by_cases hF : g s < F
      · obtain ⟨q, q1, q2, q3⟩ := (h s s0 s1).2.2.2.2 hb hF
        have h1 := mE_range hw (el := el) ⟨s0, s1⟩ q1
        have h3 := (tPrice4 hw (nt := nt) (mE_run q2)).1
        have h4 : 0 ≤ B * tPrice T nt (mRun s q) := Int.mul_nonneg hB h3
        have hh : ¬ mHouse T s := fun z => by have := (h s s0 s1).2.2.1 hb z; omega
        have h5 := ih (mE T el s q) q2 h1.2 (by omega)
        have h6 := (h' s s0 s1).2.2.2.1 hb hh q q1.1 q1.2 q2
        omega
      · have h1 := (h s s0 s1).1
        have h2 := (h' s s0 s1).1
        omega
theorem fx_eq {T : Tn} (hw : tWF T) {nt : Int} {el : Nat} {b B F : Int} (hB : 0 ≤ B) {g g' : Int → Int} (h : fx T nt el b B F g) (h' : fx T nt el b B F g') {s : Int} (s0 : 0 ≤ s) (s1 : s < 17 * tN T) : g s = g' s := by
  have h1 := (h s s0 s1).1
  have h2 := (h' s s0 s1).1
  have h3 := fx_le hw hB h h' (g s).toNat s s0 s1 (by omega)
  have h4 := fx_le hw hB h' h (g' s).toNat s s0 s1 (by omega)
  omega
/-- how many states, not at the goal, have a value of at most v -/
def cnt (g : Int → Int) (b v : Int) : Nat → Int
  | 0 => 0
  | k + 1 => cnt g b v k + (if (k : Int) / 17 ≠ b ∧ g k ≤ v then 1 else 0)
theorem cnt_S {g : Int → Int} {b v : Int} (k : Nat) : cnt g b v (k + 1) = cnt g b v k + (if (k : Int) / 17 ≠ b ∧ g k ≤ v then 1 else 0) := rfl
theorem cnt_mono {g : Int → Int} {b v v' : Int} (h : v ≤ v') : ∀ k, cnt g b v k ≤ cnt g b v' k
  | 0 => Int.le_refl _
  | k + 1 => by
    have := cnt_mono (g := g) (b := b) h k
    simp only [cnt_S]
    split
    · rw [if_pos (by omega)]; omega
    · split <;> omega
theorem cnt_lt {g : Int → Int} {b v v' : Int} (h : v ≤ v') {s : Nat} (hb : (s : Int) / 17 ≠ b) (h1 : v < g s) (h2 : g s ≤ v') : ∀ k, s < k → cnt g b v k + 1 ≤ cnt g b v' k
  | 0, hk => by omega
  | k + 1, hk => by
    have h0 := cnt_mono (g := g) (b := b) h k
    by_cases e : s = k
    · subst e
      simp only [cnt_S]
      rw [if_neg (by omega), if_pos ⟨hb, h2⟩]
      omega
    · have := cnt_lt (g := g) (b := b) h hb h1 h2 k (by omega)
      simp only [cnt_S]
      split
      · rw [if_pos (by omega)]; omega
      · split <;> omega
theorem cnt_pos {g : Int → Int} {b v : Int} {s : Nat} (hb : (s : Int) / 17 ≠ b) (h2 : g s ≤ v) : ∀ k, s < k → 1 ≤ cnt g b v k
  | 0, hk => by omega
  | k + 1, hk => by
    by_cases e : s = k
    · subst e
      have : ∀ k, 0 ≤ cnt g b v k := by
        intro k
        induction k with
        | zero => exact Int.le_refl _
        | succ k ih => rw [cnt_S]; split <;> omega
      simp only [cnt_S]
      rw [if_pos ⟨hb, h2⟩]
      have := this s
      omega
    · have := cnt_pos (g := g) hb h2 k (by omega)
      simp only [cnt_S]
      split <;> omega
theorem cnt_le1 {g : Int → Int} {b v : Int} (a : Nat) : ∀ j : Nat, cnt g b v (a + j) ≤ cnt g b v a + j
  | 0 => by simp
  | j + 1 => by
    have := cnt_le1 (g := g) (b := b) (v := v) a j
    rw [show a + (j + 1) = (a + j) + 1 by omega]
    simp only [cnt_S]
    split <;> omega
theorem cnt_goal {g : Int → Int} {b v : Int} (a : Nat) (ha : ((17 * a : Nat) : Int) = 17 * b) : ∀ j : Nat, j ≤ 17 → cnt g b v (17 * a + j) = cnt g b v (17 * a)
  | 0, _ => by simp
  | j + 1, hj => by
    have := cnt_goal (g := g) (v := v) a ha j (by omega)
    rw [show 17 * a + (j + 1) = (17 * a + j) + 1 by omega]
    simp only [cnt_S]
    rw [this, if_neg (by omega)]
    omega
theorem cnt_le {g : Int → Int} {b v : Int} (hb : 0 ≤ b) : ∀ c : Nat, cnt g b v (17 * c) ≤ 17 * c - (if b < c then 17 else 0)
  | 0 => by
    rw [if_neg (by omega)]
    exact Int.le_refl _
  | c + 1 => by
    have ih := cnt_le (g := g) (v := v) hb c
    by_cases e : (c : Int) = b
    · have h := cnt_goal (g := g) (b := b) (v := v) c (by omega) 17 (by omega)
      rw [show 17 * (c + 1) = 17 * c + 17 by omega, h, if_pos (by omega)]
      rw [if_neg (by omega)] at ih
      omega
    · have h := cnt_le1 (g := g) (b := b) (v := v) (17 * c) 17
      rw [show 17 * (c + 1) = 17 * c + 17 by omega]
      split
      · rw [if_pos (by omega)] at ih; omega
      · rw [if_neg (by omega)] at ih; omega
theorem cnt_323 {T : Tn} (hw : tWF T) {g : Int → Int} {b v : Int} (hb : 0 ≤ b ∧ b < tN T) : cnt g b v (17 * tN T).toNat ≤ 323 := by
  have hN := tN_le hw
  obtain ⟨n, hn⟩ : ∃ n : Nat, tN T = n := ⟨(tN T).toNat, by omega⟩
  have h := cnt_le (g := g) (v := v) hb.1 n
  rw [if_pos (by omega)] at h
  rw [show (17 * tN T).toNat = 17 * n by omega]
  omega
/-- what a value is: pence and steps -/
theorem fx_ps {T : Tn} (hw : tWF T) {nt : Int} {el : Nat} {b : Int} (hb : 0 ≤ b ∧ b < tN T) {B F : Int} (hB : 0 ≤ B) {g : Int → Int} (h : fx T nt el b B F g) : ∀ (n : Nat) (s : Int), 0 ≤ s → s < 17 * tN T → g s ≤ n → g s < F → ∃ p k : Int, g s = B * p + k ∧ 0 ≤ k ∧ (s / 17 ≠ b → k ≤ cnt g b (g s) (17 * tN T).toNat) ∧ (s / 17 = b → k = 0) ∧ 0 ≤ p ∧ p ≤ 297 * k := by
  intro n
  induction n with
  | zero =>
    intro s s0 s1 hn hF
    by_cases hsb : s / 17 = b
    · exact ⟨0, 0, by rw [(h s s0 s1).2.1 hsb]; simp, by omega, fun z => absurd hsb z, fun _ => rfl, by omega, by omega⟩
    · obtain ⟨q, q1, q2, q3⟩ := (h s s0 s1).2.2.2.2 hsb hF
      have h1 := mE_range hw (el := el) ⟨s0, s1⟩ q1
      have h2 := (h (mE T el s q) q2 h1.2).1
      have h3 := (tPrice4 hw (nt := nt) (mE_run q2)).1
      have h4 : 0 ≤ B * tPrice T nt (mRun s q) := Int.mul_nonneg hB h3
      omega
  | succ n ih =>
    intro s s0 s1 hn hF
    by_cases hsb : s / 17 = b
    · exact ⟨0, 0, by rw [(h s s0 s1).2.1 hsb]; simp, by omega, fun z => absurd hsb z, fun _ => rfl, by omega, by omega⟩
    · obtain ⟨q, q1, q2, q3⟩ := (h s s0 s1).2.2.2.2 hsb hF
      have h1 := mE_range hw (el := el) ⟨s0, s1⟩ q1
      have h2 := (h (mE T el s q) q2 h1.2).1
      have h3 := tPrice4 hw (nt := nt) (mE_run q2)
      have h4 : 0 ≤ B * tPrice T nt (mRun s q) := Int.mul_nonneg hB h3.1
      obtain ⟨p, k, e1, e2, e3, e4, e5, e6⟩ := ih (mE T el s q) q2 h1.2 (by omega) (by omega)
      refine ⟨p + tPrice T nt (mRun s q), k + 1, ?_, by omega, fun _ => ?_, fun z => absurd z hsb, by omega, by omega⟩
      · rw [q3, e1, Int.mul_add]; omega
      · obtain ⟨m, rfl⟩ : ∃ m : Nat, s = m := ⟨s.toNat, by omega⟩
        by_cases hnb : mE T el m q / 17 = b
        · rw [e4 hnb]
          exact cnt_pos hsb (Int.le_refl _) _ (by omega)
        · have h6 := e3 hnb
          have h7 := cnt_lt (g := g) (b := b) (v := g (mE T el m q)) (v' := g m) (by omega) hsb (by omega) (Int.le_refl _) (17 * tN T).toNat (by omega)
          omega
theorem fx_ps3 {T : Tn} (hw : tWF T) {nt : Int} {el : Nat} {b : Int} (hb : 0 ≤ b ∧ b < tN T) {B F : Int} (hB : 0 ≤ B) {g : Int → Int} (h : fx T nt el b B F g) {s : Int} (s0 : 0 ≤ s) (s1 : s < 17 * tN T) (hF : g s < F) : ∃ p k : Int, g s = B * p + k ∧ (0 ≤ k ∧ k ≤ 323) ∧ (0 ≤ p ∧ p ≤ 95931) := by
  obtain ⟨p, k, e1, e2, e3, e4, e5, e6⟩ := fx_ps hw hb hB h (g s).toNat s s0 s1 (by have := (h s s0 s1).1; omega) hF
  have h3 := cnt_323 hw (g := g) (v := g s) hb
  by_cases hsb : s / 17 = b
  · have := e4 hsb; exact ⟨p, k, e1, by omega, by omega⟩
  · have := e3 hsb; exact ⟨p, k, e1, by omega, by omega⟩
/-- the class's weights: 1024 pence to a step, no way 2^30 -/
def g24 (g : Int → Int) (s : Int) : Int := if g s < 100000000 then 1024 * (g s / 1000) + g s % 1000 else 1073741824
theorem fx_24 {T : Tn} (hw : tWF T) {nt : Int} {el : Nat} {b : Int} (hb : 0 ≤ b ∧ b < tN T) {g : Int → Int} (h : fx T nt el b 1000 100000000 g) : fx T nt el b 1024 1073741824 (g24 g) := by
  intro s s0 s1
  obtain ⟨h1, h2, h3, h4, h5⟩ := h s s0 s1
  have val : ∀ u : Int, 0 ≤ u → u < 17 * tN T → g u < 100000000 → ∃ p k : Int, g u = 1000 * p + k ∧ g24 g u = 1024 * p + k ∧ (0 ≤ k ∧ k ≤ 323) ∧ (0 ≤ p ∧ p ≤ 95931) := by
    intro u u0 u1 hu
    obtain ⟨p, k, e1, e2, e3⟩ := fx_ps3 hw hb (by decide) h u0 u1 hu
    refine ⟨p, k, e1, ?_, e2, e3⟩
    unfold g24
    rw [if_pos hu, show g u / 1000 = p by omega, show g u % 1000 = k by omega]
  have far : ∀ u : Int, ¬ g u < 100000000 → g24 g u = 1073741824 := fun u hu => by unfold g24; rw [if_neg hu]
  refine ⟨?_, fun z => ?_, fun z1 z2 => ?_, fun z1 z2 q q0 q1 q2 => ?_, fun z hlt => ?_⟩
  · by_cases hg : g s < 100000000
    · obtain ⟨p, k, e1, e2, e3, e4⟩ := val s s0 s1 hg
      omega
    · rw [far s hg]; omega
  · unfold g24; rw [h2 z]; decide
  · rw [far s (by rw [h3 z1 z2]; omega)]
  · have e := h4 z1 z2 q q0 q1 q2
    have r := mE_range hw (el := el) ⟨s0, s1⟩ ⟨q0, q1⟩
    have pr := tPrice4 hw (nt := nt) (mE_run q2)
    by_cases hn : g (mE T el s q) < 100000000
    · obtain ⟨p', k', a1, a2, a3, a4⟩ := val _ q2 r.2 hn
      obtain ⟨p, k, c1, c2, c3, c4⟩ := val s s0 s1 (by omega)
      rw [c2, a2]
      omega
    · rw [far _ hn]
      by_cases hg : g s < 100000000
      · obtain ⟨p, k, c1, c2, c3, c4⟩ := val s s0 s1 hg
        omega
      · rw [far s hg]; omega
  · have hg : g s < 100000000 := by
      by_cases hg : g s < 100000000
      · exact hg
      · rw [far s hg] at hlt; omega
    obtain ⟨q, q1, q2, q3⟩ := h5 z hg
    have r := mE_range hw (el := el) ⟨s0, s1⟩ q1
    have pr := tPrice4 hw (nt := nt) (mE_run q2)
    obtain ⟨p', k', a1, a2, a3, a4⟩ := val _ q2 r.2 (by omega)
    obtain ⟨p, k, c1, c2, c3, c4⟩ := val s s0 s1 hg
    exact ⟨q, q1, q2, by rw [c2, a2]; omega⟩
/-- there is one: by a run of the reference over a memory made up for it -/
def dS (T : Tn) (nt : Int) : QS := (fun c k => if c = 0 then (match k with
  | 0 => tW T
  | 1 => tH T
  | 2 => (tMask T 1 : Int)
  | 3 => (tMask T 2 : Int)
  | 4 => tF T
  | 5 => tR T
  | 6 => tM T
  | 7 => tD T
  | 8 => tA T
  | _ => 0) else if c = 2 ∧ k = 2 then nt else 0, fun _ _ => 0, rM)
theorem mFix_ex {T : Tn} (hw : tWF T) {nt : Int} (h01 : nt = 0 ∨ nt = 1) {el : Nat} (hel : el < 2 ^ 31) {b : Int} (hb : 0 ≤ b ∧ b < tN T) : ∃ f, mFix T nt el b f := by
  have h := m_findRest (d := 0) (S := dS T nt) (T := T) (nt := nt) (el := el) (b := b) ⟨rfl, rfl, rfl, rfl, rfl, rfl, rfl, rfl, rfl⟩ rfl hw rfl h01 hel hb
  obtain ⟨-, n, r, V, -, S', -, -, f, -, hf⟩ := h
  exact ⟨f, hf⟩
theorem fx_ex {T : Tn} (hw : tWF T) {nt : Int} (h01 : nt = 0 ∨ nt = 1) {el : Nat} (hel : el < 2 ^ 31) {b : Int} (hb : 0 ≤ b ∧ b < tN T) : ∃ g, fx T nt el b 1024 1073741824 g := by
  obtain ⟨f, hf⟩ := mFix_ex hw h01 hel hb
  exact ⟨_, fx_24 hw hb (hf.fx hw)⟩
end
section
/-! THE CLASS: its world, and Ways -/
def shX : QH := [(11, 10), (6, 9), (101, 200), (8, 8), (100, 60), (100, 60), (100, 60), (100, 60), (103, 2), (8, 8), (100, 60), (100, 60), (100, 60), (100, 60), (8, 8), (100, 60), (100, 60), (100, 60), (100, 60), (102, 2), (4, 5), (100, 6), (100, 6), (100, 6), (100, 120), (104, 6), (9, 0), (3, 0), (1, 0), (2, 0), (5, 0), (0, 0), (10, 11), (100, 5), (100, 5), (100, 80), (100, 80), (100, 400), (100, 9), (100, 5), (100, 25), (7, 9), (100, 20), (100, 80), (7, 9), (100, 20), (100, 80)]
/-- its references: here, spare, and the town that Ways looks at -/
def rX (h s w : Nat) : Nat → Nat → Option Nat := fun c k => match c with
  | 0 => match k with
    | 0 => some 1
    | 1 => some 3
    | 2 => some 8
    | 3 => some 19
    | 4 => some 20
    | 5 => some 25
    | 6 => some 32
    | 7 => some h
    | 8 => some s
    | _ => none
  | 1 => if k = 1 then some 2 else none
  | 3 => if 4 ≤ k ∧ k < 8 then some k else none
  | 8 => if k = 0 then some 9 else if k = 1 then some 14 else none
  | 9 => if 4 ≤ k ∧ k < 8 then some (k + 6) else none
  | 14 => if 4 ≤ k ∧ k < 8 then some (k + 11) else none
  | 20 => if 1 ≤ k ∧ k < 5 then some (k + 20) else none
  | 25 => if k < 6 then some (k + 26) else none
  | 32 => if k = 0 then some w else if 3 ≤ k ∧ k < 11 then some (k + 30) else none
  | 41 => if k = 7 then some 42 else if k = 8 then some 43 else none
  | 44 => if k = 7 then some 45 else if k = 8 then some 46 else none
  | _ => none
/-- what the first r steps of a run cost, in pence and as a burden -/
def sm (T : Tn) (nt : Int) : Nat → Int
  | 0 => 0
  | r + 1 => sm T nt r + tPrice T nt ((r : Int) + 1)
def wt (T : Tn) (nt : Int) (r : Nat) : Int := sm T nt r * 1024 + r
abbrev XX : Type := (Nat → Nat → Int64) × (Nat → Nat → Option Nat)
/-- Ways looks at a town, by day or by night -/
def WX (I : Nat → Nat → Int) (X : XX) (h s w : Nat) (T : Tn) (nt : Int) : Prop := X.2 = rX h s w ∧ (w = 41 ∨ w = 44) ∧ TAt shX (I, X) w T ∧ TNx (I, X) w T ∧ I 32 1 = nt ∧ (nt = 0 ∨ nt = 1) ∧ tOK T ∧ ∀ r : Nat, r ≤ 4 → I 33 r = sm T nt r ∧ I 34 r = wt T nt r
theorem TAt.row {sh : QH} {I : Nat → Nat → Int} {X : XX} {t c : Nat} {T : Tn} {f : Nat → Int} (hc : c ≠ t ∧ c ≠ t + 1) (h : TAt sh (I, X) t T) : TAt sh (sr I c f, X) t T := by
  unfold TAt at h ⊢
  simp only [sr_n (Ne.symm hc.1), sr_n (Ne.symm hc.2)]
  exact h
theorem TNx.row {I : Nat → Nat → Int} {X : XX} {t c : Nat} {T : Tn} {f : Nat → Int} (hc : c ≠ t + 2) (h : TNx (I, X) t T) : TNx (sr I c f, X) t T := by
  unfold TNx at h ⊢
  simp only [sr_n (Ne.symm hc)]
  exact h
theorem WX.row {I : Nat → Nat → Int} {X : XX} {h s w c : Nat} {T : Tn} {nt : Int} {f : Nat → Int} (hc : 35 ≤ c ∧ c ≤ 40) (hw : WX I X h s w T nt) : WX (sr I c f) X h s w T nt := by
  obtain ⟨h1, h2, h3, h4, h5, h6, h7, h8⟩ := hw
  refine ⟨h1, h2, h3.row (by omega), h4.row (by omega), by rw [sr_n (by omega)]; exact h5, h6, h7, fun r hr => ?_⟩
  rw [sr_n (by omega), sr_n (by omega)]
  exact h8 r hr
theorem sm_range {T : Tn} (hw : tWF T) (nt : Int) : ∀ r, r ≤ 4 → 0 ≤ sm T nt r ∧ sm T nt r ≤ 297 * r
  | 0, _ => by simp [sm]
  | r + 1, hr => by
    have h1 := sm_range hw nt r (by omega)
    have h2 := tPrice4 hw (nt := nt) (r := (r : Int) + 1) (by omega)
    unfold sm
    omega
theorem wt_range {T : Tn} (hw : tWF T) (nt : Int) (r : Nat) (hr : r ≤ 4) : 0 ≤ wt T nt r ∧ wt T nt r ≤ 1216516 := by
  have := sm_range hw nt r hr
  unfold wt
  omega
def W1 (T : Tn) (nt r : Int) : Int := 1024 * tPrice T nt r + 1
theorem wt_S (T : Tn) (nt : Int) (r : Nat) : wt T nt (r + 1) = wt T nt r + W1 T nt ((r : Int) + 1) := by
  unfold wt W1
  rw [show sm T nt (r + 1) = sm T nt r + tPrice T nt ((r : Int) + 1) from rfl]
  omega
/-- by going on in a direction, m steps of the run being left -/
def sO (T : Tn) (nt : Int) (N : Int → Int → Int) (q : Int) : Nat → Int → Int
  | 0, _ => 1073741824
  | m + 1, c => if tAh T c q < 0 then 1073741824 else min 1073741824 (W1 T nt (4 - (m : Int)) + min (N (tAh T c q) q) (if tElb T (tAh T c q) = true then 1073741824 else sO T nt N q m (tAh T c q)))
/-- by a new run, in another direction than one -/
def tuk (O : Int → Int → Int) (c but : Int) : Nat → Int
  | 0 => 1073741824
  | k + 1 => if (k : Int) = but then tuk O c but k else min (tuk O c but k) (O c k)
def tu (O : Int → Int → Int) (c but : Int) : Int := tuk O c but 4
theorem sO_le {T : Tn} {nt : Int} {N : Int → Int → Int} {q : Int} : ∀ m c, sO T nt N q m c ≤ 1073741824
  | 0, c => Int.le_refl _
  | m + 1, c => by unfold sO; split <;> omega
theorem tuk_le {O : Int → Int → Int} {c but : Int} : ∀ k, tuk O c but k ≤ 1073741824
  | 0 => Int.le_refl _
  | k + 1 => by
    have := tuk_le (O := O) (c := c) (but := but) k
    unfold tuk; split <;> omega
/-- a row of ports, as a table -/
def pt (f : Nat → Int) (c q : Int) : Int := f (c * 4 + q).toNat
section WY
variable {S : QS} {d : Nat} {T : Tn} {I : Nat → Nat → Int} {X : XX} {h0 s0 w : Nat} {nt : Int}
-- method 155: java/lang/Math.min.(II)I
theorem e_min {sh : QH} (a b : Int) (ha : inJ a) (hb : inJ b) : KP sh d 155 [.int (J a), .int (J b)] S (.int (J (min a b))) := by
  refine k_start ql_155 (Nat.le_of_ble_eq_true rfl) ?_
  simp only [q_en, List.replicate]
  refine k_iload_n i_155_0 rfl ?_
  refine k_iload_n i_155_1 rfl ?_
  refine k_ic_gt (t := 9) i_155_2 rfl (by omega) (by omega) (fun h2 => ?_) (fun h2 => ?_)
  · refine k_iload_n i_155_9 rfl ?_
    refine k_iret i_155_10 qt_155 ?_
    exact ⟨by first | rw [Int.min_eq_left (by omega)] | rw [Int.min_eq_right (by omega)], rfl⟩
  · refine k_iload_n i_155_5 rfl ?_
    refine k_goto (t := 10) i_155_6 rfl ?_
    refine k_iret i_155_10 qt_155 ?_
    exact ⟨by first | rw [Int.min_eq_left (by omega)] | rw [Int.min_eq_right (by omega)], rfl⟩
-- method 52: StraightTax$Ways.turning.(II)I
theorem l_turning (hR : X.2 = rX h0 s0 w) (c but : Int) (hc : 0 ≤ c ∧ c < 20) (hb : inJ but) (ho : ∀ j : Nat, j < 80 → inJ (I 35 j)) : ∀ (m k : Nat), k + m = 4 → K shX (d + 1) 52 6 [some (.ref 32), some (.int (J c)), some (.int (J but)), some (.int (J (tuk (pt (I 35)) c but k))), some (.int (J (k : Int)))] [] (I, X) (fun r S2 => r = some (.int (J (tu (pt (I 35)) c but))) ∧ S2 = (I, X)) := by
  intro m
  induction m with
  | zero =>
    intro k hk
    have e : k = 4 := by omega
    subst e
    refine k_iload i_52_6 rfl ?_
    refine k_iconst i_52_8 ?_
    refine k_ic_ge (t := 40) i_52_9 rfl (by omega) (by omega) (fun h => ?_) (fun h => ?_)
    · refine k_iload_n i_52_40 rfl ?_
      refine k_iret i_52_41 qt_52 ?_
      exact ⟨rfl, rfl⟩
    · omega
  | succ m ih =>
    intro k hk
    have hi := ih (k + 1) (by omega)
    have hle := tuk_le (O := pt (I 35)) (c := c) (but := but) k
    have hlo : ∀ k : Nat, k ≤ 4 → -2147483648 ≤ tuk (pt (I 35)) c but k := by
      intro k hk
      induction k with
      | zero => unfold tuk; omega
      | succ k ihk =>
        have := ihk (by omega)
        unfold tuk
        split
        · exact this
        · have h3 := ho (c * 4 + k).toNat (by omega)
          have h4 : pt (I 35) c k = I 35 (c * 4 + k).toNat := rfl
          omega
    have h1 := hlo k (by omega)
    have h2 := ho (c * 4 + k).toNat (by omega)
    refine k_iload i_52_6 rfl ?_
    refine k_iconst i_52_8 ?_
    refine k_ic_ge (t := 40) i_52_9 rfl (by omega) (by omega) (fun h => ?_) (fun h => ?_)
    · omega
    · refine k_iload i_52_12 rfl ?_
      refine k_iload_n i_52_14 rfl ?_
      refine k_ic_eq (t := 34) i_52_15 rfl (by omega) (by omega) (fun g => ?_) (fun g => ?_)
      · refine k_iinc i_52_34 rfl (Nat.le_of_ble_eq_true rfl) ?_
        dsimp only [q_st1, q_st2, q_unl]
        refine k_goto (t := 6) i_52_37 rfl ?_
        rw [show tuk (pt (I 35)) c but (k + 1) = tuk (pt (I 35)) c but k from by
          show (if (k : Int) = but then _ else _) = _
          rw [if_pos g]] at hi
        exact hi
      · refine k_iload_n i_52_18 rfl ?_
        refine k_aload_n i_52_19 rfl ?_
        refine k_gfR i_52_20 f_10_26 (by first | rfl | assumption | (rw [hR]; rfl) | (dsimp only; rw [hR]; rfl)) (by decide) (by decide) (Or.inr ⟨_, rfl⟩) (by first | rfl | assumption | (rw [hR]; rfl) | (dsimp only; rw [hR]; rfl)) ?_
        refine k_iload_n i_52_23 rfl ?_
        refine k_iconst i_52_24 ?_
        refine k_imul i_52_25 ?_
        refine k_iload i_52_26 rfl ?_
        refine k_iadd i_52_28 ?_
        refine k_iald i_52_29 rfl (by decide) (by omega) (by omega) ?_
        refine k_sp2 i_52_30 c_10_91 (by decide) qp_155 (Nat.le_of_ble_eq_true rfl) (e_min _ _ (by omega) h2) ?_
        refine k_istore_n i_52_33 (Nat.le_of_ble_eq_true rfl) ?_
        dsimp only [q_st1, q_st2, q_unl]
        refine k_iinc i_52_34 rfl (Nat.le_of_ble_eq_true rfl) ?_
        dsimp only [q_st1, q_st2, q_unl]
        refine k_goto (t := 6) i_52_37 rfl ?_
        rw [show tuk (pt (I 35)) c but (k + 1) = min (tuk (pt (I 35)) c but k) (I 35 (c * 4 + k).toNat) from by
          show (if (k : Int) = but then _ else _) = _
          rw [if_neg g]; rfl] at hi
        exact hi
theorem e_turning (hR : X.2 = rX h0 s0 w) (c but : Int) (hc : 0 ≤ c ∧ c < 20) (hb : inJ but) (ho : ∀ j : Nat, j < 80 → inJ (I 35 j)) : KP shX (d + 1) 52 [.ref 32, .int (J c), .int (J but)] (I, X) (.int (J (tu (pt (I 35)) c but))) := by
  refine k_start ql_52 (Nat.le_of_ble_eq_true rfl) ?_
  simp only [q_en, List.replicate]
  refine k_ldc (a := 1073741824) i_52_0 n_10_63 (by decide) ?_
  refine k_istore_n i_52_2 (Nat.le_of_ble_eq_true rfl) ?_
  dsimp only [q_st1, q_st2, q_unl]
  refine k_iconst i_52_3 ?_
  refine k_istore i_52_4 (Nat.le_of_ble_eq_true rfl) ?_
  dsimp only [q_st1, q_st2, q_unl]
  exact l_turning hR c but hc hb ho 4 0 (by omega)
-- method 51: StraightTax$Ways.straightOn.(III)I
theorem l_straightOn (hW : WX I X h0 s0 w T nt) (c0 q : Int) (hq : 0 ≤ q ∧ q < 4) (dn : Nat) (hn : ∀ j : Nat, j < 80 → 0 ≤ I 36 j ∧ I 36 j ≤ 1073741824) : ∀ (m r : Nat) (c least : Int), r + m = 5 → dn < r → (0 ≤ c ∧ c < 20) → (0 ≤ least ∧ least ≤ 1073741824) → K shX (d + 2) 51 12 [some (.ref 32), some (.int (J c0)), some (.int (J q)), some (.int (J (dn : Int))), some (.int (J least)), some (.int (J c)), some (.int (J (r : Int)))] [] (I, X) (fun r1 S2 => r1 = some (.int (J (min least (wt T nt (r - 1) - wt T nt dn + sO T nt (pt (I 36)) q m c)))) ∧ S2 = (I, X)) := by
  obtain ⟨hR, hw4, hT, hX, hnt, h01, hOK, hwt⟩ := id hW
  obtain ⟨s1, s2, s3, r1, r2, a0, a1, a2, a3, a4, a5, a6, ag⟩ := id hT
  have hw := hOK.1
  intro m
  induction m with
  | zero =>
    intro r c least hrm hdr hc hl
    have e : r = 5 := by omega
    subst e
    have h1 := wt_range hw nt 4 (by omega)
    have h2 : wt T nt dn ≤ wt T nt 4 := by
      have : ∀ a b : Nat, a + b ≤ 4 → wt T nt a ≤ wt T nt (a + b) := by
        intro a b
        induction b with
        | zero => intro _; exact Int.le_refl _
        | succ b ih =>
          intro hb
          have h3 := ih (by omega)
          have h4 := wt_S T nt (a + b)
          have h5 := tPrice4 hw (nt := nt) (r := ((a + b : Nat) : Int) + 1) (by omega)
          rw [show a + (b + 1) = (a + b) + 1 by omega, h4]
          unfold W1
          omega
      have h6 := this dn (4 - dn) (by omega)
      rw [show dn + (4 - dn) = 4 by omega] at h6
      exact h6
    refine k_iload i_51_12 rfl ?_
    refine k_iconst i_51_14 ?_
    refine k_ic_gt (t := 93) i_51_15 rfl (by omega) (by omega) (fun h => ?_) (fun h => ?_)
    · refine k_iload i_51_93 rfl ?_
      refine k_iret i_51_95 qt_51 ?_
      refine ⟨?_, rfl⟩
      rw [show (5 - 1 : Nat) = 4 from rfl, show sO T nt (pt (I 36)) q 0 c = 1073741824 from rfl, Int.min_eq_left (by omega)]
    · omega
  | succ m ih =>
    intro r c least hrm hdr hc hl
    have hN := tN_le hw
    have har := tAh_range hw c q
    have hmono : wt T nt dn ≤ wt T nt (r - 1) := by
      have : ∀ a b : Nat, a + b ≤ 4 → wt T nt a ≤ wt T nt (a + b) := by
        intro a b
        induction b with
        | zero => intro _; exact Int.le_refl _
        | succ b ih =>
          intro hb
          have h3 := ih (by omega)
          have h4 := wt_S T nt (a + b)
          have h5 := tPrice4 hw (nt := nt) (r := ((a + b : Nat) : Int) + 1) (by omega)
          rw [show a + (b + 1) = (a + b) + 1 by omega, h4]
          unfold W1
          omega
      have h6 := this dn (r - 1 - dn) (by omega)
      rw [show dn + (r - 1 - dn) = r - 1 by omega] at h6
      exact h6
    have hS := wt_S T nt (r - 1)
    rw [show r - 1 + 1 = r by omega, show ((r - 1 : Nat) : Int) + 1 = 4 - (m : Int) by omega] at hS
    have hr1 := wt_range hw nt r (by omega)
    have hr0 := wt_range hw nt (r - 1) (by omega)
    have hrd := wt_range hw nt dn (by omega)
    have hsl := sO_le (T := T) (nt := nt) (N := pt (I 36)) (q := q) m (tAh T c q)
    have hW1 : 0 < W1 T nt (4 - (m : Int)) := by
      have h5 := tPrice4 hw (nt := nt) (r := 4 - (m : Int)) (by omega)
      unfold W1; omega
    refine k_iload i_51_12 rfl ?_
    refine k_iconst i_51_14 ?_
    refine k_ic_gt (t := 93) i_51_15 rfl (by omega) (by omega) (fun h => ?_) (fun h => ?_)
    · omega
    · refine k_aload_n i_51_18 rfl ?_
      refine k_gfR i_51_19 f_10_44 (by first | rfl | assumption | (rw [hR]; rfl) | (dsimp only; rw [hR]; rfl)) (by decide) (by decide) (Or.inl ⟨_, rfl⟩) (by first | rfl | assumption | (rw [hR]; rfl) | (dsimp only; rw [hR]; rfl)) ?_
      refine k_iload i_51_22 rfl ?_
      refine k_iload_n i_51_24 rfl ?_
      refine k_vp2 i_51_25 c_10_55 qp_32 qo_32 (by first | rfl | assumption | (rw [hR]; rfl) | (dsimp only; rw [hR]; rfl)) (Nat.le_of_ble_eq_true rfl) (e_ahead hT hX _ _ (by omega) (by omega)) ?_
      refine k_istore i_51_28 (Nat.le_of_ble_eq_true rfl) ?_
      dsimp only [q_st1, q_st2, q_unl]
      refine k_iload i_51_30 rfl ?_
      refine k_iconst i_51_32 ?_
      refine k_ic_ne (t := 39) i_51_33 rfl (by omega) (by omega) (fun g => ?_) (fun g => ?_)
      · have hn1 := hn (tAh T c q * 4 + q).toNat (by omega)
        refine k_iload i_51_39 rfl ?_
        refine k_aload_n i_51_41 rfl ?_
        refine k_gfR i_51_42 f_10_23 (by first | rfl | assumption | (rw [hR]; rfl) | (dsimp only; rw [hR]; rfl)) (by decide) (by decide) (Or.inr ⟨_, rfl⟩) (by first | rfl | assumption | (rw [hR]; rfl) | (dsimp only; rw [hR]; rfl)) ?_
        refine k_iload i_51_45 rfl ?_
        refine k_iald i_51_47 rfl (by decide) (by omega) (by omega) ?_
        rw [show (I, X).1 34 ((r : Int)).toNat = wt T nt r from by rw [show ((r : Int)).toNat = r by omega]; exact (hwt r (by omega)).2]
        refine k_aload_n i_51_48 rfl ?_
        refine k_gfR i_51_49 f_10_23 (by first | rfl | assumption | (rw [hR]; rfl) | (dsimp only; rw [hR]; rfl)) (by decide) (by decide) (Or.inr ⟨_, rfl⟩) (by first | rfl | assumption | (rw [hR]; rfl) | (dsimp only; rw [hR]; rfl)) ?_
        refine k_iload_n i_51_52 rfl ?_
        refine k_iald i_51_53 rfl (by decide) (by omega) (by omega) ?_
        rw [show (I, X).1 34 ((dn : Int)).toNat = wt T nt dn from by rw [show ((dn : Int)).toNat = dn by omega]; exact (hwt dn (by omega)).2]
        refine k_isub i_51_54 ?_
        refine k_aload_n i_51_55 rfl ?_
        refine k_gfR i_51_56 f_10_29 (by first | rfl | assumption | (rw [hR]; rfl) | (dsimp only; rw [hR]; rfl)) (by decide) (by decide) (Or.inr ⟨_, rfl⟩) (by first | rfl | assumption | (rw [hR]; rfl) | (dsimp only; rw [hR]; rfl)) ?_
        refine k_iload i_51_59 rfl ?_
        refine k_iconst i_51_61 ?_
        refine k_imul i_51_62 ?_
        refine k_iload_n i_51_63 rfl ?_
        refine k_iadd i_51_64 ?_
        refine k_iald i_51_65 rfl (by decide) (by omega) (by omega) ?_
        show K shX (d + 2) 51 66 _ (.int (J (I 36 (tAh T c q * 4 + q).toNat)) :: _) _ _
        refine k_iadd i_51_66 ?_
        refine k_sp2 i_51_67 c_10_91 (by decide) qp_155 (Nat.le_of_ble_eq_true rfl) (e_min _ _ (by omega) (by omega)) ?_
        refine k_istore i_51_70 (Nat.le_of_ble_eq_true rfl) ?_
        dsimp only [q_st1, q_st2, q_unl]
        refine k_aload_n i_51_72 rfl ?_
        refine k_gfR i_51_73 f_10_44 (by first | rfl | assumption | (rw [hR]; rfl) | (dsimp only; rw [hR]; rfl)) (by decide) (by decide) (Or.inl ⟨_, rfl⟩) (by first | rfl | assumption | (rw [hR]; rfl) | (dsimp only; rw [hR]; rfl)) ?_
        refine k_iload i_51_76 rfl ?_
        refine k_vp1 i_51_78 c_10_85 qp_34 qo_34 (by first | rfl | assumption | (rw [hR]; rfl) | (dsimp only; rw [hR]; rfl)) (Nat.le_of_ble_eq_true rfl) (e_isElbow hT hw _ (by omega)) ?_
        have hsO : sO T nt (pt (I 36)) q (m + 1) c = min 1073741824 (W1 T nt (4 - (m : Int)) + min (I 36 (tAh T c q * 4 + q).toNat) (if tElb T (tAh T c q) = true then 1073741824 else sO T nt (pt (I 36)) q m (tAh T c q))) := by
          show (if tAh T c q < 0 then 1073741824 else _) = _
          rw [if_neg (by omega)]; rfl
        rw [hsO]
        refine k_if_eqB (t := 87) i_51_81 rfl (fun h => ?_) (fun h => ?_)
        · refine k_iinc i_51_87 rfl (Nat.le_of_ble_eq_true rfl) ?_
          dsimp only [q_st1, q_st2, q_unl]
          refine k_goto (t := 12) i_51_90 rfl ?_
          refine (ih (r + 1) (tAh T c q) _ (by omega) (by omega) (by omega) (by omega)).mono (fun r1 S2 hh => ?_)
          refine ⟨?_, hh.2⟩
          rw [hh.1, h]
          congr 3
          simp only [show (r + 1 - 1 : Nat) = r by omega, Bool.false_eq_true, if_false]
          omega
        · refine k_goto (t := 93) i_51_84 rfl ?_
          refine k_iload i_51_93 rfl ?_
          refine k_iret i_51_95 qt_51 ?_
          refine ⟨?_, rfl⟩
          rw [h]
          congr 3
          simp only [if_true]
          omega
      · refine k_goto (t := 93) i_51_36 rfl ?_
        refine k_iload i_51_93 rfl ?_
        refine k_iret i_51_95 qt_51 ?_
        refine ⟨?_, rfl⟩
        have hsO : sO T nt (pt (I 36)) q (m + 1) c = 1073741824 := by
          show (if tAh T c q < 0 then 1073741824 else _) = _
          rw [if_pos (by omega)]
        rw [hsO, Int.min_eq_left (by omega)]
theorem e_straightOn (hW : WX I X h0 s0 w T nt) (c q : Int) (hc : 0 ≤ c ∧ c < 20) (hq : 0 ≤ q ∧ q < 4) (dn : Nat) (hd4 : dn ≤ 4) (hn : ∀ j : Nat, j < 80 → 0 ≤ I 36 j ∧ I 36 j ≤ 1073741824) : KP shX (d + 2) 51 [.ref 32, .int (J c), .int (J q), .int (J (dn : Int))] (I, X) (.int (J (sO T nt (pt (I 36)) q (4 - dn) c))) := by
  have hsl := sO_le (T := T) (nt := nt) (N := pt (I 36)) (q := q) (4 - dn) c
  refine k_start ql_51 (Nat.le_of_ble_eq_true rfl) ?_
  simp only [q_en, List.replicate]
  refine k_ldc (a := 1073741824) i_51_0 n_10_63 (by decide) ?_
  refine k_istore i_51_2 (Nat.le_of_ble_eq_true rfl) ?_
  dsimp only [q_st1, q_st2, q_unl]
  refine k_iload_n i_51_4 rfl ?_
  refine k_istore i_51_5 (Nat.le_of_ble_eq_true rfl) ?_
  dsimp only [q_st1, q_st2, q_unl]
  refine k_iload_n i_51_7 rfl ?_
  refine k_iconst i_51_8 ?_
  refine k_iadd i_51_9 ?_
  refine k_istore i_51_10 (Nat.le_of_ble_eq_true rfl) ?_
  dsimp only [q_st1, q_st2, q_unl]
  refine (l_straightOn hW c q hq dn hn (4 - dn) (dn + 1) c 1073741824 (by omega) (by omega) hc (by omega)).mono (fun r1 S2 hh => ⟨?_, hh.2⟩)
  rw [hh.1]
  congr 3
  rw [show dn + 1 - 1 = dn by omega]
  omega
end WY
end
section
/-! THE CLASS: makesLess, aim -/
def RI (I : Nat → Nat → Int) (o n : Nat → Int) : Nat → Nat → Int := sr (sr I 35 o) 36 n
theorem RI_35 {I : Nat → Nat → Int} {o n : Nat → Int} : RI I o n 35 = o := by simp [RI, sr]
theorem RI_36 {I : Nat → Nat → Int} {o n : Nat → Int} : RI I o n 36 = n := by simp [RI, sr]
theorem RI_n {I : Nat → Nat → Int} {o n : Nat → Int} {c : Nat} (h1 : c ≠ 35) (h2 : c ≠ 36) : RI I o n c = I c := by simp [RI, sr, h1, h2]
theorem RI_u35 {I : Nat → Nat → Int} {o n : Nat → Int} {k : Nat} {v : Int} : q_up (RI I o n) 35 k v = RI I (ud o k v) n := by
  funext c j
  unfold q_up RI sr ud
  by_cases h1 : c = 36
  · subst h1; simp
  · by_cases h2 : c = 35
    · subst h2; by_cases h3 : j = k <;> simp [h3]
    · simp [h1, h2]
theorem RI_u36 {I : Nat → Nat → Int} {o n : Nat → Int} {k : Nat} {v : Int} : q_up (RI I o n) 36 k v = RI I o (ud n k v) := by
  funext c j
  unfold q_up RI sr ud
  by_cases h1 : c = 36
  · subst h1; by_cases h3 : j = k <;> simp [h3]
  · simp [h1]
theorem WX.RI {I : Nat → Nat → Int} {X : XX} {h s w : Nat} {T : Tn} {nt : Int} {o n : Nat → Int} (hw : WX I X h s w T nt) : WX (RI I o n) X h s w T nt := (hw.row (by omega)).row (by omega)
/-- rows in their bounds -/
def inF (o : Nat → Int) : Prop := ∀ j : Nat, j < 80 → 0 ≤ o j ∧ o j ≤ 1073741824
theorem ud_same {f : Nat → Int} {k : Nat} {v : Int} (h : f k = v) : ud f k v = f := by
  funext j
  unfold ud
  split
  · rename_i e; rw [e, h]
  · rfl
def mlO (T : Tn) (nt : Int) (o n : Nat → Int) (c : Int) : Nat → (Nat → Int)
  | 0 => o
  | k + 1 => ud (mlO T nt o n c k) (c * 4 + k).toNat (min (o (c * 4 + k).toNat) (sO T nt (pt n) k 4 c))
def mlL (T : Tn) (nt : Int) (o n : Nat → Int) (c : Int) : Nat → Bool
  | 0 => false
  | k + 1 => mlL T nt o n c k || decide (sO T nt (pt n) k 4 c < o (c * 4 + k).toNat)
def mlN (T : Tn) (o n : Nat → Int) (c : Int) : Nat → (Nat → Int)
  | 0 => n
  | k + 1 => ud (mlN T o n c k) (c * 4 + k).toNat (tu (pt o) c (if tElb T c = true then -1 else k))
theorem mlO_above {T : Tn} {nt : Int} {o n : Nat → Int} {c : Int} (hc : 0 ≤ c) : ∀ (k j : Nat), (∀ i : Nat, i < k → j ≠ (c * 4 + i).toNat) → mlO T nt o n c k j = o j
  | 0, j, _ => rfl
  | k + 1, j, h => by
    unfold mlO
    rw [ud_n (h k (by omega))]
    exact mlO_above hc k j (fun i hi => h i (by omega))
theorem mlO_at {T : Tn} {nt : Int} {o n : Nat → Int} {c : Int} (hc : 0 ≤ c) : ∀ (k i : Nat), i < k → mlO T nt o n c k (c * 4 + i).toNat = min (o (c * 4 + i).toNat) (sO T nt (pt n) i 4 c)
  | 0, i, h => by omega
  | k + 1, i, h => by
    unfold mlO
    by_cases e : i = k
    · subst e; rw [ud_s]
    · rw [ud_n (by omega)]
      exact mlO_at hc k i (by omega)
theorem sO_nn {T : Tn} (hw : tWF T) {nt : Int} {N : Int → Int → Int} {q : Int} (hN : ∀ c, 0 ≤ c → c < tN T → 0 ≤ N c q) : ∀ m c, m ≤ 4 → 0 ≤ sO T nt N q m c
  | 0, c, _ => by unfold sO; omega
  | m + 1, c, hm => by
    have h1 := tAh_range hw c q
    have h2 := tPrice4 hw (nt := nt) (r := 4 - (m : Int)) (by omega)
    unfold sO
    split
    · omega
    · rename_i hn
      have h3 := hN (tAh T c q) (by omega) (by omega)
      have h4 := sO_nn hw (nt := nt) hN m (tAh T c q) (by omega)
      unfold W1
      split <;> omega
theorem inF.pt {T : Tn} (hw : tWF T) {n : Nat → Int} (h : inF n) {q : Int} (hq : 0 ≤ q ∧ q < 4) : ∀ c, 0 ≤ c → c < tN T → 0 ≤ pt n c q := by
  intro c h0 h1
  have hN := tN_le hw
  exact (h (c * 4 + q).toNat (by omega)).1
theorem tuk_nn {o : Nat → Int} (h : inF o) {c but : Int} (hc : 0 ≤ c ∧ c < 20) : ∀ k : Nat, k ≤ 4 → 0 ≤ tuk (pt o) c but k
  | 0, _ => by unfold tuk; omega
  | k + 1, hk => by
    have h1 := tuk_nn h (but := but) hc k (by omega)
    have h2 := h (c * 4 + k).toNat (by omega)
    have h3 : pt o c k = o (c * 4 + k).toNat := rfl
    unfold tuk
    split <;> omega
theorem mlO_inF {T : Tn} (hw : tWF T) {nt : Int} {o n : Nat → Int} (ho : inF o) (hn : inF n) {c : Int} (hc : 0 ≤ c ∧ c < 20) (k : Nat) (hk : k ≤ 4) : inF (mlO T nt o n c k) := by
  intro j hj
  by_cases h : ∃ i : Nat, i < k ∧ j = (c * 4 + i).toNat
  · obtain ⟨i, hi, rfl⟩ := h
    rw [mlO_at hc.1 k i hi]
    have h1 := ho (c * 4 + i).toNat hj
    have h2 := sO_nn hw (nt := nt) (N := pt n) (q := i) (hn.pt hw (by omega)) 4 c (by omega)
    omega
  · rw [mlO_above hc.1 k j (fun i hi z => h ⟨i, hi, z⟩)]
    exact ho j hj
theorem mlN_inF {T : Tn} {o n : Nat → Int} (ho : inF o) (hn : inF n) {c : Int} (hc : 0 ≤ c ∧ c < 20) : ∀ k : Nat, inF (mlN T o n c k)
  | 0 => hn
  | k + 1 => by
    intro j hj
    unfold mlN ud
    split
    · exact ⟨tuk_nn ho hc 4 (by omega), tuk_le 4⟩
    · exact mlN_inF ho hn hc k j hj
section AM
variable {d : Nat} {T : Tn} {I : Nat → Nat → Int} {X : XX} {h0 s0 w : Nat} {nt b : Int} {Q : Option Value → QS → Prop}
-- method 50: StraightTax$Ways.makesLess.(I)Z
theorem l_ml1 (hW : WX I X h0 s0 w T nt) (o n : Nat → Int) (ho : inF o) (hn : inF n) (c : Int) (hc : 0 ≤ c ∧ c < 20)
    (hk : ∀ x4 : Option Value, K shX (d + 3) 50 74 [some (.ref 32), some (.int (J c)), some (.int (J (bi (mlL T nt o n c 4)))), some (.int (J 4)), x4] [] (RI I (mlO T nt o n c 4) n, X) Q) :
    ∀ (m k : Nat), k + m = 4 → ∀ x4 : Option Value, K shX (d + 3) 50 25 [some (.ref 32), some (.int (J c)), some (.int (J (bi (mlL T nt o n c k)))), some (.int (J (k : Int))), x4] [] (RI I (mlO T nt o n c k) n, X) Q := by
  have hw := hW.2.2.2.2.2.2.1.1
  have hR := hW.1
  intro m
  induction m with
  | zero =>
    intro k hk4 x4
    have e : k = 4 := by omega
    subst e
    refine k_iload_n i_50_25 rfl ?_
    refine k_iconst i_50_26 ?_
    refine k_ic_ge (t := 74) i_50_27 rfl (by omega) (by omega) (fun h => ?_) (fun h => ?_)
    · exact hk x4
    · omega
  | succ m ih =>
    intro k hk4 x4
    have hi := ih (k + 1) (by omega)
    have hsl := sO_le (T := T) (nt := nt) (N := pt n) (q := (k : Int)) 4 c
    have hsn := sO_nn hw (nt := nt) (N := pt n) (q := (k : Int)) (hn.pt hw (by omega)) 4 c (by omega)
    have hoj := ho (c * 4 + k).toNat (by omega)
    have hab : mlO T nt o n c k (c * 4 + k).toNat = o (c * 4 + k).toNat := mlO_above hc.1 k _ (fun i hik => by omega)
    refine k_iload_n i_50_25 rfl ?_
    refine k_iconst i_50_26 ?_
    refine k_ic_ge (t := 74) i_50_27 rfl (by omega) (by omega) (fun h => ?_) (fun h => ?_)
    · omega
    · refine k_aload_n i_50_30 rfl ?_
      refine k_iload_n i_50_31 rfl ?_
      refine k_iload_n i_50_32 rfl ?_
      refine k_iconst i_50_33 ?_
      have hso := e_straightOn (d := d) (hW.RI (o := mlO T nt o n c k) (n := n)) c k hc (by omega) 0 (by omega) (by rw [RI_36]; exact hn)
      rw [RI_36, show (4 - 0 : Nat) = 4 from rfl] at hso
      refine k_vp3 i_50_34 c_10_81 qp_51 qo_51 (by first | rfl | assumption | (rw [hR]; rfl) | (dsimp only; rw [hR]; rfl)) (Nat.le_of_ble_eq_true rfl) hso ?_
      refine k_istore i_50_37 (Nat.le_of_ble_eq_true rfl) ?_
      dsimp only [q_st1, q_st2, q_unl]
      refine k_iload i_50_39 rfl ?_
      refine k_aload_n i_50_41 rfl ?_
      refine k_gfR i_50_42 f_10_26 (by first | rfl | assumption | (rw [hR]; rfl) | (dsimp only; rw [hR]; rfl)) (by decide) (by decide) (Or.inr ⟨_, rfl⟩) (by first | rfl | assumption | (rw [hR]; rfl) | (dsimp only; rw [hR]; rfl)) ?_
      refine k_iload_n i_50_45 rfl ?_
      refine k_iconst i_50_46 ?_
      refine k_imul i_50_47 ?_
      refine k_iload_n i_50_48 rfl ?_
      refine k_iadd i_50_49 ?_
      refine k_iald i_50_50 rfl (by decide) (by omega) (by omega) ?_
      rw [show (RI I (mlO T nt o n c k) n, X).1 35 (c * 4 + k).toNat = o (c * 4 + k).toNat from by
        show RI I (mlO T nt o n c k) n 35 _ = _
        rw [RI_35, hab]]
      refine k_ic_ge (t := 68) i_50_51 rfl (by omega) (by omega) (fun g => ?_) (fun g => ?_)
      · refine k_iinc i_50_68 rfl (Nat.le_of_ble_eq_true rfl) ?_
        dsimp only [q_st1, q_st2, q_unl]
        refine k_goto (t := 25) i_50_71 rfl ?_
        have h2 := hi (some (.int (J (sO T nt (pt n) k 4 c))))
        rw [show mlL T nt o n c (k + 1) = mlL T nt o n c k from by
          show (_ || decide _) = _
          rw [decide_eq_false (by omega), Bool.or_false]] at h2
        rw [show mlO T nt o n c (k + 1) = mlO T nt o n c k from by
          show ud _ _ _ = _
          exact ud_same (by rw [hab]; omega)] at h2
        exact h2
      · refine k_aload_n i_50_54 rfl ?_
        refine k_gfR i_50_55 f_10_26 (by first | rfl | assumption | (rw [hR]; rfl) | (dsimp only; rw [hR]; rfl)) (by decide) (by decide) (Or.inr ⟨_, rfl⟩) (by first | rfl | assumption | (rw [hR]; rfl) | (dsimp only; rw [hR]; rfl)) ?_
        refine k_iload_n i_50_58 rfl ?_
        refine k_iconst i_50_59 ?_
        refine k_imul i_50_60 ?_
        refine k_iload_n i_50_61 rfl ?_
        refine k_iadd i_50_62 ?_
        refine k_iload i_50_63 rfl ?_
        refine k_iast i_50_65 rfl (by decide) (by omega) (by omega) ?_
        dsimp only
        rw [RI_u35]
        refine k_iconst i_50_66 ?_
        refine k_istore_n i_50_67 (Nat.le_of_ble_eq_true rfl) ?_
        dsimp only [q_st1, q_st2, q_unl]
        refine k_iinc i_50_68 rfl (Nat.le_of_ble_eq_true rfl) ?_
        dsimp only [q_st1, q_st2, q_unl]
        refine k_goto (t := 25) i_50_71 rfl ?_
        have h2 := hi (some (.int (J (sO T nt (pt n) k 4 c))))
        rw [show mlL T nt o n c (k + 1) = true from by
          show (_ || decide _) = _
          rw [decide_eq_true (by omega), Bool.or_true]] at h2
        rw [show mlO T nt o n c (k + 1) = ud (mlO T nt o n c k) (c * 4 + k).toNat (sO T nt (pt n) k 4 c) from by
          show ud _ _ _ = _
          rw [Int.min_eq_right (by omega)]] at h2
        exact h2
theorem l_ml2 (hW : WX I X h0 s0 w T nt) (o n : Nat → Int) (ho : inF o) (c : Int) (hc : 0 ≤ c ∧ c < 20) (x4 : Option Value)
    (hk : Q (some (.int (J (bi true)))) (RI I o (mlN T o n c 4), X)) :
    ∀ (m k : Nat), k + m = 4 → K shX (d + 3) 50 76 [some (.ref 32), some (.int (J c)), some (.int (J (bi true))), some (.int (J (k : Int))), x4] [] (RI I o (mlN T o n c k), X) Q := by
  have hw := hW.2.2.2.2.2.2.1.1
  have hR := hW.1
  intro m
  induction m with
  | zero =>
    intro k hk4
    have e : k = 4 := by omega
    subst e
    refine k_iload_n i_50_76 rfl ?_
    refine k_if_eqB (t := 122) i_50_77 rfl (fun h => ?_) (fun h => ?_)
    · cases h
    · refine k_iload_n i_50_80 rfl ?_
      refine k_iconst i_50_81 ?_
      refine k_ic_ge (t := 122) i_50_82 rfl (by omega) (by omega) (fun h => ?_) (fun h => ?_)
      · refine k_iload_n i_50_122 rfl ?_
        refine k_nret i_50_123 qt_50 (by first | exact bi_nar _ | rfl) ?_
        exact hk
      · omega
  | succ m ih =>
    intro k hk4
    have hi := ih (k + 1) (by omega)
    have hWn := hW.RI (o := o) (n := mlN T o n c k)
    obtain ⟨-, hw4, hT, hX, hnt, h01, hOK, hwt⟩ := id hWn
    obtain ⟨s1, s2, s3, r1, r2, a0, a1, a2, a3, a4, a5, a6, ag⟩ := id hT
    have fin : ∀ l : Int, l = (if tElb T c = true then -1 else (k : Int)) → K shX (d + 3) 50 112 [some (.ref 32), some (.int (J c)), some (.int (J (bi true))), some (.int (J (k : Int))), x4] [.int (J l), .int (J c), .ref 32, .int (J (c * 4 + k)), .ref 36] (RI I o (mlN T o n c k), X) Q := by
      intro l hl
      have htu := e_turning (d := d + 1) (I := RI I o (mlN T o n c k)) (X := X) hR c l hc (by rw [hl]; split <;> omega) (by rw [RI_35]; intro j hj; have := ho j hj; omega)
      rw [RI_35] at htu
      refine k_vp2 i_50_112 c_10_88 qp_52 qo_52 (by first | rfl | assumption | (rw [hR]; rfl) | (dsimp only; rw [hR]; rfl)) (Nat.le_of_ble_eq_true rfl) htu ?_
      refine k_iast i_50_115 rfl (by decide) (by omega) (by omega) ?_
      dsimp only
      rw [RI_u36]
      refine k_iinc i_50_116 rfl (Nat.le_of_ble_eq_true rfl) ?_
      dsimp only [q_st1, q_st2, q_unl]
      refine k_goto (t := 76) i_50_119 rfl ?_
      rw [show mlN T o n c (k + 1) = ud (mlN T o n c k) (c * 4 + k).toNat (tu (pt o) c l) from by rw [hl]; rfl] at hi
      exact hi
    refine k_iload_n i_50_76 rfl ?_
    refine k_if_eqB (t := 122) i_50_77 rfl (fun h => ?_) (fun h => ?_)
    · cases h
    · refine k_iload_n i_50_80 rfl ?_
      refine k_iconst i_50_81 ?_
      refine k_ic_ge (t := 122) i_50_82 rfl (by omega) (by omega) (fun g => ?_) (fun g => ?_)
      · omega
      · refine k_aload_n i_50_85 rfl ?_
        refine k_gfR i_50_86 f_10_29 (by first | rfl | assumption | (rw [hR]; rfl) | (dsimp only; rw [hR]; rfl)) (by decide) (by decide) (Or.inr ⟨_, rfl⟩) (by first | rfl | assumption | (rw [hR]; rfl) | (dsimp only; rw [hR]; rfl)) ?_
        refine k_iload_n i_50_89 rfl ?_
        refine k_iconst i_50_90 ?_
        refine k_imul i_50_91 ?_
        refine k_iload_n i_50_92 rfl ?_
        refine k_iadd i_50_93 ?_
        refine k_aload_n i_50_94 rfl ?_
        refine k_iload_n i_50_95 rfl ?_
        refine k_aload_n i_50_96 rfl ?_
        refine k_gfR i_50_97 f_10_44 (by first | rfl | assumption | (rw [hR]; rfl) | (dsimp only; rw [hR]; rfl)) (by decide) (by decide) (Or.inl ⟨_, rfl⟩) (by first | rfl | assumption | (rw [hR]; rfl) | (dsimp only; rw [hR]; rfl)) ?_
        refine k_iload_n i_50_100 rfl ?_
        refine k_vp1 i_50_101 c_10_85 qp_34 qo_34 (by first | rfl | assumption | (rw [hR]; rfl) | (dsimp only; rw [hR]; rfl)) (Nat.le_of_ble_eq_true rfl) (e_isElbow hT hw _ (by omega)) ?_
        refine k_if_eqB (t := 111) i_50_104 rfl (fun h => ?_) (fun h => ?_)
        · refine k_iload_n i_50_111 rfl ?_
          exact fin _ (by rw [h]; rfl)
        · refine k_iconst i_50_107 ?_
          refine k_goto (t := 112) i_50_108 rfl ?_
          exact fin _ (by rw [h]; rfl)
/-- one square's turn -/
def mlZ (T : Tn) (nt b : Int) (o n : Nat → Int) (c : Int) : Bool × (Nat → Int) × (Nat → Int) := if c = b ∨ tOpen T c = false then (false, o, n) else (mlL T nt o n c 4, mlO T nt o n c 4, if mlL T nt o n c 4 = true then mlN T (mlO T nt o n c 4) n c 4 else n)
theorem e_makesLess (hW : WX I X h0 s0 w T nt) (hb : I 32 2 = b) (hbr : inJ b) (o n : Nat → Int) (ho : inF o) (hn : inF n) (c : Int) (hc : 0 ≤ c ∧ c < 20) : KC shX (d + 3) 50 [.ref 32, .int (J c)] (RI I o n, X) (fun r S2 => r = some (.int (J (bi (mlZ T nt b o n c).1))) ∧ S2 = (RI I (mlZ T nt b o n c).2.1 (mlZ T nt b o n c).2.2, X)) := by
  have hw := hW.2.2.2.2.2.2.1.1
  have hR := hW.1
  have hWn := hW.RI (o := o) (n := n)
  obtain ⟨-, hw4, hT, hX, hnt, h01, hOK, hwt⟩ := id hWn
  obtain ⟨s1, s2, s3, r1, r2, a0, a1, a2, a3, a4, a5, a6, ag⟩ := id hT
  refine k_start ql_50 (Nat.le_of_ble_eq_true rfl) ?_
  simp only [q_en, List.replicate]
  refine k_iload_n i_50_0 rfl ?_
  refine k_aload_n i_50_1 rfl ?_
  refine k_gfI i_50_2 f_10_15 (by first | rfl | assumption | (rw [hR]; rfl) | (dsimp only; rw [hR]; rfl)) (by decide) (by decide) (Or.inl rfl) ?_
  rw [show (RI I o n, X).1 32 2 = b from by show RI I o n 32 2 = b; rw [RI_n (by decide) (by decide)]; exact hb]
  refine k_ic_eq (t := 19) i_50_5 rfl (by omega) (by omega) (fun hcb => ?_) (fun hcb => ?_)
  · refine k_iconst i_50_19 ?_
    refine k_nret i_50_20 qt_50 (by first | exact bi_nar _ | rfl) ?_
    unfold mlZ
    rw [if_pos (Or.inl hcb)]
    exact ⟨rfl, rfl⟩
  · refine k_aload_n i_50_8 rfl ?_
    refine k_gfR i_50_9 f_10_44 (by first | rfl | assumption | (rw [hR]; rfl) | (dsimp only; rw [hR]; rfl)) (by decide) (by decide) (Or.inl ⟨_, rfl⟩) (by first | rfl | assumption | (rw [hR]; rfl) | (dsimp only; rw [hR]; rfl)) ?_
    refine k_iload_n i_50_12 rfl ?_
    refine k_vp1 i_50_13 c_10_78 qp_26 qo_26 (by first | rfl | assumption | (rw [hR]; rfl) | (dsimp only; rw [hR]; rfl)) (Nat.le_of_ble_eq_true rfl) (e_isOpen hT hw _ (by omega)) ?_
    refine k_if_neB (t := 21) i_50_16 rfl (fun h => ?_) (fun h => ?_)
    · have hz : ¬ (c = b ∨ tOpen T c = false) := fun z => by rcases z with z | z; exact hcb z; rw [h] at z; cases z
      refine k_iconst i_50_21 ?_
      refine k_istore_n i_50_22 (Nat.le_of_ble_eq_true rfl) ?_
      dsimp only [q_st1, q_st2, q_unl]
      refine k_iconst i_50_23 ?_
      refine k_istore_n i_50_24 (Nat.le_of_ble_eq_true rfl) ?_
      dsimp only [q_st1, q_st2, q_unl]
      have ho' := mlO_inF hw (nt := nt) ho hn hc 4 (by omega)
      refine l_ml1 hW o n ho hn c hc (fun x4 => ?_) 4 0 (by omega) none
      refine k_iconst i_50_74 ?_
      refine k_istore_n i_50_75 (Nat.le_of_ble_eq_true rfl) ?_
      dsimp only [q_st1, q_st2, q_unl]
      unfold mlZ
      rw [if_neg hz]
      dsimp only
      cases hl : mlL T nt o n c 4 with
      | true =>
        rw [if_pos rfl]
        exact l_ml2 hW (mlO T nt o n c 4) n ho' c hc x4 ⟨rfl, rfl⟩ 4 0 (by omega)
      | false =>
        rw [if_neg (by decide)]
        refine k_iload_n i_50_76 rfl ?_
        refine k_if_eqB (t := 122) i_50_77 rfl (fun h => ?_) (fun h => ?_)
        · refine k_iload_n i_50_122 rfl ?_
          refine k_nret i_50_123 qt_50 (by first | exact bi_nar _ | rfl) ?_
          exact ⟨rfl, rfl⟩
        · cases h
    · refine k_iconst i_50_19 ?_
      refine k_nret i_50_20 qt_50 (by first | exact bi_nar _ | rfl) ?_
      unfold mlZ
      rw [if_pos (Or.inr h)]
      exact ⟨rfl, rfl⟩
end AM
end
section
/-! THE CLASS: aim comes to the fixpoint -/
theorem tuk_ge {O : Int → Int → Int} {c but : Int} : ∀ (k : Nat) (q : Int), 0 ≤ q → q < k → q ≠ but → tuk O c but k ≤ O c q
  | 0, q, h0, h1, _ => by omega
  | k + 1, q, h0, h1, h2 => by
    unfold tuk
    by_cases e : q = k
    · subst e
      rw [if_neg h2]
      omega
    · have := tuk_ge (O := O) (c := c) k q h0 (by omega) h2
      split <;> omega
theorem tuk_is {O : Int → Int → Int} {c but : Int} : ∀ (k : Nat), tuk O c but k = 1073741824 ∨ ∃ q : Int, (0 ≤ q ∧ q < k) ∧ q ≠ but ∧ tuk O c but k = O c q
  | 0 => Or.inl rfl
  | k + 1 => by
    have ih := tuk_is (O := O) (c := c) (but := but) k
    have lift : (∃ q : Int, (0 ≤ q ∧ q < k) ∧ q ≠ but ∧ tuk O c but k = O c q) → ∃ q : Int, (0 ≤ q ∧ q < ((k + 1 : Nat) : Int)) ∧ q ≠ but ∧ tuk O c but k = O c q := by
      rintro ⟨q, h1, h2, h3⟩
      exact ⟨q, by omega, h2, h3⟩
    unfold tuk
    split
    · exact ih.imp id lift
    · rename_i hn
      rcases Int.le_total (tuk O c but k) (O c k) with h | h
      · rw [Int.min_eq_left h]; exact ih.imp id lift
      · rw [Int.min_eq_right h]; exact Or.inr ⟨k, by omega, hn, rfl⟩
theorem tuk_mono {O P : Int → Int → Int} {c but : Int} : ∀ (k : Nat), (∀ q : Int, 0 ≤ q → q < k → O c q ≤ P c q) → tuk O c but k ≤ tuk P c but k
  | 0, _ => Int.le_refl _
  | k + 1, h => by
    have h1 := tuk_mono (O := O) (P := P) (c := c) (but := but) k (fun q h0 h1 => h q h0 (by omega))
    have h2 := h k (by omega) (by omega)
    unfold tuk
    split <;> omega
theorem sO_mono {T : Tn} (hw : tWF T) {nt : Int} {N M : Int → Int → Int} {q : Int} (h : ∀ c, 0 ≤ c → c < tN T → N c q ≤ M c q) : ∀ m c, sO T nt N q m c ≤ sO T nt M q m c
  | 0, _ => Int.le_refl _
  | m + 1, c => by
    have h1 := tAh_range hw c q
    unfold sO
    split
    · exact Int.le_refl _
    · rename_i hn
      have h2 := h (tAh T c q) (by omega) (by omega)
      have h3 := sO_mono hw (nt := nt) h m (tAh T c q)
      split <;> omega
/-- a best way in one direction ends its run somewhere -/
theorem sO_is {T : Tn} (hw : tWF T) {nt : Int} {N : Int → Int → Int} {q : Int} : ∀ m c, m ≤ 4 → sO T nt N q m c = 1073741824 ∨ ∃ e W : Int, (0 ≤ e ∧ e < tN T) ∧ 0 < W ∧ sO T nt N q m c = W + N e q ∧ ∀ M : Int → Int → Int, sO T nt M q m c ≤ W + M e q
  | 0, c, _ => Or.inl rfl
  | m + 1, c, hm => by
    have h1 := tAh_range hw c q
    have h2 := tPrice4 hw (nt := nt) (r := 4 - (m : Int)) (by omega)
    have hW : 0 < W1 T nt (4 - (m : Int)) := by unfold W1; omega
    by_cases hn : tAh T c q < 0
    · left; unfold sO; rw [if_pos hn]
    · have e1 : ∀ M : Int → Int → Int, sO T nt M q (m + 1) c = min 1073741824 (W1 T nt (4 - (m : Int)) + min (M (tAh T c q) q) (if tElb T (tAh T c q) = true then 1073741824 else sO T nt M q m (tAh T c q))) := by
        intro M
        show (if tAh T c q < 0 then 1073741824 else _) = _
        rw [if_neg hn]
      by_cases hF : sO T nt N q (m + 1) c = 1073741824
      · exact Or.inl hF
      · right
        have hle := sO_le (T := T) (nt := nt) (N := N) (q := q) (m + 1) c
        rw [e1] at hF hle
        by_cases hd : N (tAh T c q) q ≤ (if tElb T (tAh T c q) = true then 1073741824 else sO T nt N q m (tAh T c q))
        · refine ⟨tAh T c q, W1 T nt (4 - (m : Int)), by omega, hW, by rw [e1]; omega, fun M => by rw [e1]; omega⟩
        · by_cases he : tElb T (tAh T c q) = true
          · rw [if_pos he] at hF hd; omega
          · rw [if_neg he] at hF hd
            rcases sO_is hw (nt := nt) (N := N) (q := q) m (tAh T c q) (by omega) with h3 | ⟨e, W, a1, a2, a3, a4⟩
            · omega
            · refine ⟨e, W1 T nt (4 - (m : Int)) + W, a1, by omega, by rw [e1, if_neg he]; omega, fun M => ?_⟩
              have := a4 M
              rw [e1, if_neg he]
              omega
/-- the exact burdens: E by a run in a direction, V by a new run -/
def xfx (T : Tn) (nt b : Int) (V E : Int → Int → Int) : Prop := (∀ c l : Int, 0 ≤ c → c < 20 → 0 ≤ l → l < 4 → V c l = if c = b then 0 else tu E c (if tElb T c = true then -1 else l)) ∧ (∀ c q : Int, 0 ≤ c → c < 20 → 0 ≤ q → q < 4 → E c q = if c ≠ b ∧ tOpen T c = true then sO T nt V q 4 c else 1073741824) ∧ ∀ c q : Int, 0 ≤ c → c < 20 → 0 ≤ q → q < 4 → 0 ≤ E c q ∧ E c q ≤ 1073741824
/-- what holds of the rows at every time -/
def aI (T : Tn) (b : Int) (E : Int → Int → Int) (o n : Nat → Int) : Prop := inF o ∧ inF n ∧ (∀ c l : Int, 0 ≤ c → c < 20 → 0 ≤ l → l < 4 → pt n c l = if c = b then 0 else tu (pt o) c (if tElb T c = true then -1 else l)) ∧ ∀ c q : Int, 0 ≤ c → c < 20 → 0 ≤ q → q < 4 → E c q ≤ pt o c q
theorem pt_ne {f : Nat → Int} {c q c' : Int} {i : Nat} (hc : 0 ≤ c) (hq : 0 ≤ q ∧ q < 4) (hc' : 0 ≤ c') (hi : i < 4) (h : c ≠ c') : (c * 4 + q).toNat ≠ (c' * 4 + i).toNat := by omega
theorem mlO_pt {T : Tn} {nt : Int} {o n : Nat → Int} {c c' q : Int} (hc : 0 ≤ c) (hc' : 0 ≤ c') (hq : 0 ≤ q ∧ q < 4) : pt (mlO T nt o n c 4) c' q = if c' = c then min (pt o c q) (sO T nt (pt n) q 4 c) else pt o c' q := by
  unfold pt
  split
  · rename_i h
    subst h
    obtain ⟨i, rfl⟩ : ∃ i : Nat, q = i := ⟨q.toNat, by omega⟩
    exact mlO_at hc 4 i (by omega)
  · rename_i h
    exact mlO_above hc 4 _ (fun i hi => pt_ne (f := o) hc' hq hc hi h)
theorem mlN_above {T : Tn} {o n : Nat → Int} {c : Int} : ∀ (k j : Nat), (∀ i : Nat, i < k → j ≠ (c * 4 + i).toNat) → mlN T o n c k j = n j
  | 0, j, _ => rfl
  | k + 1, j, h => by
    unfold mlN
    rw [ud_n (h k (by omega))]
    exact mlN_above k j (fun i hi => h i (by omega))
theorem mlN_at {T : Tn} {o n : Nat → Int} {c : Int} (hc : 0 ≤ c) : ∀ (k i : Nat), i < k → mlN T o n c k (c * 4 + i).toNat = tu (pt o) c (if tElb T c = true then -1 else (i : Int))
  | 0, i, h => by omega
  | k + 1, i, h => by
    unfold mlN
    by_cases e : i = k
    · subst e; rw [ud_s]
    · rw [ud_n (by omega)]
      exact mlN_at hc k i (by omega)
theorem mlN_pt {T : Tn} {o n : Nat → Int} {c c' l : Int} (hc : 0 ≤ c) (hc' : 0 ≤ c') (hl : 0 ≤ l ∧ l < 4) : pt (mlN T o n c 4) c' l = if c' = c then tu (pt o) c (if tElb T c = true then -1 else l) else pt n c' l := by
  by_cases h : c' = c
  · subst h
    rw [if_pos rfl]
    obtain ⟨i, rfl⟩ : ∃ i : Nat, l = i := ⟨l.toNat, by omega⟩
    exact mlN_at hc 4 i (by omega)
  · rw [if_neg h]
    exact mlN_above 4 _ (fun i hi => pt_ne (f := o) hc' hl hc hi h)
theorem mlL_false {T : Tn} {nt : Int} {o n : Nat → Int} {c : Int} : ∀ k : Nat, mlL T nt o n c k = false ↔ ∀ i : Nat, i < k → o (c * 4 + i).toNat ≤ sO T nt (pt n) i 4 c
  | 0 => by constructor; intro _ i hi; omega; intro _; rfl
  | k + 1 => by
    unfold mlL
    rw [Bool.or_eq_false_iff, mlL_false k, decide_eq_false_iff_not]
    constructor
    · rintro ⟨h1, h2⟩ i hi
      by_cases e : i = k
      · subst e; omega
      · exact h1 i (by omega)
    · intro h
      exact ⟨fun i hi => h i (by omega), by have := h k (by omega); omega⟩
/-- a square's turn keeps it; rows only sink; its own ports are no dearer than going straight on -/
theorem aI_ml {T : Tn} (hw : tWF T) {nt b : Int} {V E : Int → Int → Int} (hx : xfx T nt b V E) {o n : Nat → Int} (ha : aI T b E o n) {c : Int} (hc : 0 ≤ c ∧ c < tN T) : aI T b E (mlZ T nt b o n c).2.1 (mlZ T nt b o n c).2.2 ∧ (∀ c' q : Int, 0 ≤ c' → c' < 20 → 0 ≤ q → q < 4 → pt (mlZ T nt b o n c).2.1 c' q ≤ pt o c' q) ∧ (∀ c' q : Int, 0 ≤ c' → c' < 20 → 0 ≤ q → q < 4 → pt (mlZ T nt b o n c).2.2 c' q ≤ pt n c' q) ∧ (c ≠ b → tOpen T c = true → ∀ q : Int, 0 ≤ q → q < 4 → pt (mlZ T nt b o n c).2.1 c q ≤ sO T nt (pt n) q 4 c) ∧ ((mlZ T nt b o n c).1 = false → (mlZ T nt b o n c).2.1 = o ∧ (mlZ T nt b o n c).2.2 = n) := by
  have hN := tN_le hw
  have hc20 : 0 ≤ c ∧ c < 20 := by omega
  by_cases hz : c = b ∨ tOpen T c = false
  · have e : mlZ T nt b o n c = (false, o, n) := by unfold mlZ; rw [if_pos hz]
    rw [e]
    exact ⟨ha, fun _ _ _ _ _ _ => Int.le_refl _, fun _ _ _ _ _ _ => Int.le_refl _, fun h1 h2 => (by rcases hz with h | h; exact absurd h h1; rw [h] at h2; cases h2), fun _ => ⟨rfl, rfl⟩⟩
  · have hcb : c ≠ b := fun h => hz (Or.inl h)
    have hop : tOpen T c = true := by cases h : tOpen T c; exact absurd (Or.inr h) hz; rfl
    obtain ⟨h1, h2, h3, h4⟩ := id ha
    have eO : (mlZ T nt b o n c).2.1 = mlO T nt o n c 4 := by unfold mlZ; rw [if_neg hz]
    have eL : (mlZ T nt b o n c).1 = mlL T nt o n c 4 := by unfold mlZ; rw [if_neg hz]
    have eN : (mlZ T nt b o n c).2.2 = if mlL T nt o n c 4 = true then mlN T (mlO T nt o n c 4) n c 4 else n := by unfold mlZ; rw [if_neg hz]
    have hO := fun (c' q : Int) (a1 : 0 ≤ c') (a3 : 0 ≤ q) (a4 : q < 4) => mlO_pt (T := T) (nt := nt) (o := o) (n := n) (c := c) (c' := c') (q := q) hc.1 a1 ⟨a3, a4⟩
    have same : mlL T nt o n c 4 = false → mlO T nt o n c 4 = o := by
      intro hl
      rw [mlL_false] at hl
      funext j
      by_cases h : ∃ i : Nat, i < 4 ∧ j = (c * 4 + i).toNat
      · obtain ⟨i, hi, rfl⟩ := h
        rw [mlO_at hc.1 4 i hi]
        have := hl i hi
        omega
      · exact mlO_above hc.1 4 j (fun i hi z => h ⟨i, hi, z⟩)
    have oLe : ∀ c' q : Int, 0 ≤ c' → c' < 20 → 0 ≤ q → q < 4 → pt (mlO T nt o n c 4) c' q ≤ pt o c' q := by
      intro c' q a1 a2 a3 a4
      rw [hO c' q a1 a3 a4]
      split
      · rename_i e; rw [e]; omega
      · exact Int.le_refl _
    -- what the onward row is
    have nIs : ∀ c' l : Int, 0 ≤ c' → c' < 20 → 0 ≤ l → l < 4 → pt (mlZ T nt b o n c).2.2 c' l = if c' = b then 0 else tu (pt (mlO T nt o n c 4)) c' (if tElb T c' = true then -1 else l) := by
      intro c' l a1 a2 a3 a4
      have hother : c' ≠ c → pt n c' l = if c' = b then 0 else tu (pt (mlO T nt o n c 4)) c' (if tElb T c' = true then -1 else l) := by
        intro hne
        rw [h3 c' l a1 a2 a3 a4]
        split
        · rfl
        · unfold tu
          have q1 : ∀ q : Int, 0 ≤ q → q < (4 : Nat) → pt o c' q ≤ pt (mlO T nt o n c 4) c' q := fun q b1 b2 => by rw [hO c' q a1 b1 (by omega), if_neg hne]; exact Int.le_refl _
          have q2 : ∀ q : Int, 0 ≤ q → q < (4 : Nat) → pt (mlO T nt o n c 4) c' q ≤ pt o c' q := fun q b1 b2 => oLe c' q a1 a2 b1 (by omega)
          exact Int.le_antisymm (tuk_mono 4 q1) (tuk_mono 4 q2)
      rw [eN]
      by_cases hl : mlL T nt o n c 4 = true
      · rw [if_pos hl, mlN_pt hc.1 a1 ⟨a3, a4⟩]
        by_cases hne : c' = c
        · subst hne; rw [if_pos rfl, if_neg hcb]
        · rw [if_neg hne]; exact hother hne
      · rw [if_neg hl]
        have hlf : mlL T nt o n c 4 = false := by cases h : mlL T nt o n c 4; rfl; exact absurd h hl
        rw [same hlf]
        exact h3 c' l a1 a2 a3 a4
    have nLe : ∀ c' q : Int, 0 ≤ c' → c' < 20 → 0 ≤ q → q < 4 → pt (mlZ T nt b o n c).2.2 c' q ≤ pt n c' q := by
      intro c' q a1 a2 a3 a4
      rw [nIs c' q a1 a2 a3 a4, h3 c' q a1 a2 a3 a4]
      split
      · exact Int.le_refl _
      · exact tuk_mono 4 (fun q b1 b2 => oLe c' q a1 a2 b1 (by omega))
    have VN : ∀ c' : Int, 0 ≤ c' → c' < tN T → ∀ q : Int, 0 ≤ q → q < 4 → V c' q ≤ pt n c' q := by
      intro c' a1 a2 q a3 a4
      rw [hx.1 c' q a1 (by omega) a3 a4, h3 c' q a1 (by omega) a3 a4]
      split
      · exact Int.le_refl _
      · exact tuk_mono 4 (fun q b1 b2 => h4 c' q a1 (by omega) b1 (by omega))
    have inN : inF (mlZ T nt b o n c).2.2 := by
      rw [eN]
      split
      · exact mlN_inF (mlO_inF hw h1 h2 hc20 4 (by omega)) h2 hc20 4
      · exact h2
    refine ⟨⟨by rw [eO]; exact mlO_inF hw h1 h2 hc20 4 (by omega), inN, by rw [eO]; exact nIs, fun c' q a1 a2 a3 a4 => ?_⟩, by rw [eO]; exact oLe, nLe, fun _ _ q a3 a4 => ?_, fun hl => ?_⟩
    · rw [eO, hO c' q a1 a3 a4]
      split
      · rename_i e
        subst e
        have g1 := h4 c' q a1 a2 a3 a4
        have g2 : E c' q ≤ sO T nt (pt n) q 4 c' := by
          rw [hx.2.1 c' q a1 a2 a3 a4, if_pos ⟨hcb, hop⟩]
          exact sO_mono hw (fun c'' b1 b2 => VN c'' b1 b2 q a3 a4) 4 c'
        omega
      · exact h4 c' q a1 a2 a3 a4
    · rw [eO, hO c q hc.1 a3 a4, if_pos rfl]; omega
    · rw [eL] at hl
      rw [eO, eN, if_neg (by rw [hl]; decide)]
      exact ⟨same hl, rfl⟩
end
section
/-! THE CLASS: aim -/
/-- how many ports have a burden of at most v -/
def cP (E : Int → Int → Int) (v : Int) : Nat → Int
  | 0 => 0
  | k + 1 => cP E v k + (if E ((k : Int) / 4) ((k : Int) % 4) ≤ v then 1 else 0)
theorem cP_S {E : Int → Int → Int} {v : Int} (k : Nat) : cP E v (k + 1) = cP E v k + (if E ((k : Int) / 4) ((k : Int) % 4) ≤ v then 1 else 0) := rfl
theorem cP_le {E : Int → Int → Int} {v : Int} : ∀ k : Nat, 0 ≤ cP E v k ∧ cP E v k ≤ k
  | 0 => by simp [cP]
  | k + 1 => by
    have := cP_le (E := E) (v := v) k
    rw [cP_S]
    split <;> omega
theorem cP_mono {E : Int → Int → Int} {v v' : Int} (h : v ≤ v') : ∀ k, cP E v k ≤ cP E v' k
  | 0 => Int.le_refl _
  | k + 1 => by
    have := cP_mono (E := E) h k
    simp only [cP_S]
    split
    · rw [if_pos (by omega)]; omega
    · split <;> omega
theorem cP_lt {E : Int → Int → Int} {v v' : Int} (h : v ≤ v') {s : Nat} (h1 : v < E ((s : Int) / 4) ((s : Int) % 4)) (h2 : E ((s : Int) / 4) ((s : Int) % 4) ≤ v') : ∀ k, s < k → cP E v k + 1 ≤ cP E v' k
  | 0, hk => by omega
  | k + 1, hk => by
    have h0 := cP_mono (E := E) h k
    simp only [cP_S]
    by_cases e : s = k
    · subst e
      rw [if_neg (by omega), if_pos h2]
      omega
    · have := cP_lt (E := E) h h1 h2 k (by omega)
      split
      · rw [if_pos (by omega)]; omega
      · split <;> omega
theorem cP_port {E : Int → Int → Int} {v v' c q : Int} (h : v ≤ v') (hc : 0 ≤ c ∧ c < 20) (hq : 0 ≤ q ∧ q < 4) (h1 : v < E c q) (h2 : E c q ≤ v') : cP E v 80 + 1 ≤ cP E v' 80 := by
  refine cP_lt (s := (c * 4 + q).toNat) h ?_ ?_ 80 (by omega)
  · rw [show (((c * 4 + q).toNat : Nat) : Int) / 4 = c by omega, show (((c * 4 + q).toNat : Nat) : Int) % 4 = q by omega]; exact h1
  · rw [show (((c * 4 + q).toNat : Nat) : Int) / 4 = c by omega, show (((c * 4 + q).toNat : Nat) : Int) % 4 = q by omega]; exact h2
/-- the ports of the k lowest ranks are settled -/
def Rk (E : Int → Int → Int) (o : Nat → Int) (k : Int) : Prop := ∀ c q : Int, 0 ≤ c → c < 20 → 0 ≤ q → q < 4 → E c q < 1073741824 → cP E (E c q) 80 ≤ k → pt o c q ≤ E c q
theorem Rk_0 {E : Int → Int → Int} {o : Nat → Int} (hE : ∀ c q : Int, 0 ≤ c → c < 20 → 0 ≤ q → q < 4 → 0 ≤ E c q ∧ E c q ≤ 1073741824) : Rk E o 0 := by
  intro c q c0 c1 q0 q1 _ hk
  have h1 := cP_port (E := E) (v := E c q - 1) (v' := E c q) (by omega) ⟨c0, c1⟩ ⟨q0, q1⟩ (by omega) (Int.le_refl _)
  have h2 := cP_le (E := E) (v := E c q - 1) 80
  omega
theorem Rk_step {T : Tn} (hw : tWF T) {nt b : Int} {V E : Int → Int → Int} (hx : xfx T nt b V E) {o0 o n : Nat → Int} {k : Int} (hk : Rk E o0 k) (hle : ∀ c q : Int, 0 ≤ c → c < 20 → 0 ≤ q → q < 4 → pt o c q ≤ pt o0 c q) (ha : aI T b E o n) {c q : Int} (hc : 0 ≤ c ∧ c < 20) (hq : 0 ≤ q ∧ q < 4) (hF : E c q < 1073741824) (hr : cP E (E c q) 80 ≤ k + 1) : c ≠ b ∧ tOpen T c = true ∧ sO T nt (pt n) q 4 c ≤ E c q := by
  have hN := tN_le hw
  have e1 := hx.2.1 c q hc.1 hc.2 hq.1 hq.2
  by_cases hz : c ≠ b ∧ tOpen T c = true
  · refine ⟨hz.1, hz.2, ?_⟩
    rw [if_pos hz] at e1
    rcases sO_is hw (nt := nt) (N := V) (q := q) 4 c (by omega) with h | ⟨e, W, a1, a2, a3, a4⟩
    · omega
    · have h1 := a4 (pt n)
      have h2 : pt n e q ≤ V e q := by
        rw [ha.2.2.1 e q a1.1 (by omega) hq.1 hq.2]
        have hV := hx.1 e q a1.1 (by omega) hq.1 hq.2
        rw [hV]
        split
        · exact Int.le_refl _
        · rename_i heb
          rw [if_neg heb] at hV
          rcases tuk_is (O := E) (c := e) (but := if tElb T e = true then -1 else q) 4 with h | ⟨q', b1, b2, b3⟩
          · have : V e q = 1073741824 := hV.trans h
            omega
          · have hVq : V e q = E e q' := hV.trans b3
            have hbe := hx.2.2 e q' a1.1 (by omega) b1.1 (by omega)
            have h3 := cP_port (E := E) (v := E e q') (v' := E c q) (by omega) hc hq (by omega) (Int.le_refl _)
            have h4 := hk e q' a1.1 (by omega) b1.1 (by omega) (by omega) (by omega)
            have h5 := hle e q' a1.1 (by omega) b1.1 (by omega)
            have h6 := tuk_ge (O := pt o) (c := e) 4 q' b1.1 b1.2 b2
            show tuk _ _ _ 4 ≤ tuk _ _ _ 4
            rw [b3]
            omega
      omega
  · rw [if_neg hz] at e1
    omega
theorem aI_exact {T : Tn} (hw : tWF T) {nt b : Int} {V E : Int → Int → Int} (hx : xfx T nt b V E) {o n : Nat → Int} (ha : aI T b E o n) (hk : Rk E o 80) : (∀ c q : Int, 0 ≤ c → c < 20 → 0 ≤ q → q < 4 → pt o c q = E c q) ∧ ∀ c l : Int, 0 ≤ c → c < 20 → 0 ≤ l → l < 4 → pt n c l = V c l := by
  have h1 : ∀ c q : Int, 0 ≤ c → c < 20 → 0 ≤ q → q < 4 → pt o c q = E c q := by
    intro c q c0 c1 q0 q1
    have h2 := ha.2.2.2 c q c0 c1 q0 q1
    by_cases hF : E c q < 1073741824
    · have h3 := hk c q c0 c1 q0 q1 hF (by have := (cP_le (E := E) (v := E c q) 80).2; omega)
      omega
    · have h3 := hx.2.2 c q c0 c1 q0 q1
      have h4 : pt o c q = o (c * 4 + q).toNat := rfl
      have h5 := ha.1 (c * 4 + q).toNat (by omega)
      omega
  refine ⟨h1, fun c l c0 c1 l0 l1 => ?_⟩
  rw [ha.2.2.1 c l c0 c1 l0 l1, hx.1 c l c0 c1 l0 l1]
  split
  · rfl
  · exact Int.le_antisymm (tuk_mono 4 (fun q b1 b2 => by rw [h1 c q c0 c1 b1 (by omega)]; exact Int.le_refl _)) (tuk_mono 4 (fun q b1 b2 => by rw [h1 c q c0 c1 b1 (by omega)]; exact Int.le_refl _))
theorem Rk_stable {T : Tn} (hw : tWF T) {nt b : Int} {V E : Int → Int → Int} (hx : xfx T nt b V E) {o n : Nat → Int} (ha : aI T b E o n) (hs : ∀ c : Int, 0 ≤ c → c < tN T → c ≠ b → tOpen T c = true → ∀ q : Int, 0 ≤ q → q < 4 → pt o c q ≤ sO T nt (pt n) q 4 c) : ∀ k : Nat, Rk E o k := by
  intro k
  induction k with
  | zero => exact Rk_0 hx.2.2
  | succ k ih =>
    intro c q c0 c1 q0 q1 hF hr
    obtain ⟨h1, h2, h3⟩ := Rk_step hw hx ih (fun _ _ _ _ _ _ => Int.le_refl _) ha ⟨c0, c1⟩ ⟨q0, q1⟩ hF (by omega)
    have h4 : c < tN T := by
      unfold tOpen tHas at h2
      simp at h2
      omega
    exact Int.le_trans (hs c c0 h4 h1 h2 q q0 q1) h3
/-- the order of a sweep -/
def ordS (T : Tn) (sw i : Int) : Int := if sw % 2 = 0 then i else tN T - 1 - i
/-- within a sweep: from o0, n0 to o, n, the first i squares being done -/
def aW (T : Tn) (nt b : Int) (E : Int → Int → Int) (k sw : Int) (o0 n0 o n : Nat → Int) (less i : Int) : Prop := aI T b E o n ∧ (∀ c q : Int, 0 ≤ c → c < 20 → 0 ≤ q → q < 4 → pt o c q ≤ pt o0 c q) ∧ (∀ u : Int, 0 ≤ u → u < i → ∀ q : Int, 0 ≤ q → q < 4 → E (ordS T sw u) q < 1073741824 → cP E (E (ordS T sw u) q) 80 ≤ k + 1 → pt o (ordS T sw u) q ≤ E (ordS T sw u) q) ∧ (less = 0 ∨ less = 1) ∧ (less = 0 → o = o0 ∧ n = n0 ∧ ∀ u : Int, 0 ≤ u → u < i → ordS T sw u ≠ b → tOpen T (ordS T sw u) = true → ∀ q : Int, 0 ≤ q → q < 4 → pt o0 (ordS T sw u) q ≤ sO T nt (pt n0) q 4 (ordS T sw u))
theorem aW_step {T : Tn} (hw : tWF T) {nt b : Int} {V E : Int → Int → Int} (hx : xfx T nt b V E) {k sw : Int} {o0 n0 o n : Nat → Int} (hk : Rk E o0 k) {less i : Int} (hi : 0 ≤ i ∧ i < tN T) (h : aW T nt b E k sw o0 n0 o n less i) : aW T nt b E k sw o0 n0 (mlZ T nt b o n (ordS T sw i)).2.1 (mlZ T nt b o n (ordS T sw i)).2.2 (if (mlZ T nt b o n (ordS T sw i)).1 = true then 1 else less) (i + 1) := by
  have hN := tN_le hw
  obtain ⟨h1, h2, h3, h4, h5⟩ := h
  have hor : 0 ≤ ordS T sw i ∧ ordS T sw i < tN T := by unfold ordS; split <;> omega
  obtain ⟨m1, m2, m3, m4, m5⟩ := aI_ml hw hx h1 hor
  refine ⟨m1, fun c q c0 c1 q0 q1 => Int.le_trans (m2 c q c0 c1 q0 q1) (h2 c q c0 c1 q0 q1), fun u u0 u1 q q0 q1 hF hr => ?_, ?_, fun hl => ?_⟩
  · by_cases e : u = i
    · subst e
      obtain ⟨s1, s2, s3⟩ := Rk_step hw hx hk h2 h1 ⟨hor.1, by omega⟩ ⟨q0, q1⟩ hF hr
      exact Int.le_trans (m4 s1 s2 q q0 q1) s3
    · have hou : 0 ≤ ordS T sw u ∧ ordS T sw u < tN T := by unfold ordS; split <;> omega
      exact Int.le_trans (m2 _ q hou.1 (by omega) q0 q1) (h3 u u0 (by omega) q q0 q1 hF hr)
  · split
    · exact Or.inr rfl
    · exact h4
  · have hf : (mlZ T nt b o n (ordS T sw i)).1 = false := by
      cases hm : (mlZ T nt b o n (ordS T sw i)).1
      · rfl
      · rw [if_pos hm] at hl; omega
    rw [if_neg (by rw [hf]; decide)] at hl
    obtain ⟨e1, e2, e3⟩ := h5 hl
    obtain ⟨g1, g2⟩ := m5 hf
    refine ⟨g1.trans e1, g2.trans e2, fun u u0 u1 hub huo q q0 q1 => ?_⟩
    by_cases e : u = i
    · subst e
      have := m4 hub huo q q0 q1
      rw [g1, e1, e2] at this
      exact this
    · exact e3 u u0 (by omega) hub huo q q0 q1
theorem aW_end {T : Tn} (hw : tWF T) {nt b : Int} {V E : Int → Int → Int} (hx : xfx T nt b V E) {k sw : Int} {o0 n0 o n : Nat → Int} {less : Int} (hsw : 0 ≤ sw) (h : aW T nt b E k sw o0 n0 o n less (tN T)) : aI T b E o n ∧ Rk E o (k + 1) ∧ (less = 0 ∨ less = 1) ∧ (less = 0 → Rk E o 80) := by
  have hN := tN_le hw
  obtain ⟨h1, h2, h3, h4, h5⟩ := h
  have inv : ∀ c : Int, 0 ≤ c → c < tN T → ∃ u : Int, 0 ≤ u ∧ u < tN T ∧ ordS T sw u = c := by
    intro c c0 c1
    by_cases e : sw % 2 = 0
    · exact ⟨c, c0, c1, by unfold ordS; rw [if_pos e]⟩
    · exact ⟨tN T - 1 - c, by omega, by omega, by unfold ordS; rw [if_neg e]; omega⟩
  refine ⟨h1, fun c q c0 c1 q0 q1 hF hr => ?_, h4, fun hl => ?_⟩
  · by_cases hc : c < tN T
    · obtain ⟨u, u0, u1, rfl⟩ := inv c c0 hc
      exact h3 u u0 u1 q q0 q1 hF hr
    · have e := hx.2.1 c q c0 c1 q0 q1
      rw [if_neg (by rintro ⟨-, z⟩; unfold tOpen tHas at z; simp at z; omega)] at e
      omega
  · obtain ⟨e1, e2, e3⟩ := h5 hl
    subst e1; subst e2
    refine Rk_stable hw hx h1 (fun c c0 c1 hcb hco q q0 q1 => ?_) 80
    obtain ⟨u, u0, u1, rfl⟩ := inv c c0 c1
    exact e3 u u0 u1 hcb hco q q0 q1
section AZ
variable {d : Nat} {T : Tn} {I : Nat → Nat → Int} {X : XX} {h0 s0 w : Nat} {nt b : Int} {V E : Int → Int → Int} {Q : Option Value → QS → Prop}
-- method 49: StraightTax$Ways.aim.(I)V
theorem l_aim_i (hW : WX I X h0 s0 w T nt) (hb : I 32 2 = b) (hbr : inJ b) (hx : xfx T nt b V E) (k sw : Int) (hsw : 0 ≤ sw ∧ sw ≤ 80) (o0 n0 : Nat → Int) (hk : Rk E o0 k)
    (hq : ∀ (o n : Nat → Int) (less : Int) (x5 : Option Value), aW T nt b E k sw o0 n0 o n less (tN T) → K shX (d + 4) 49 123 [some (.ref 32), some (.int (J b)), some (.int (J less)), some (.int (J sw)), some (.int (J (tN T))), x5] [] (RI I o n, X) Q) :
    ∀ (m : Nat) (i less : Int) (o n : Nat → Int) (x5 : Option Value), 0 ≤ i → i ≤ tN T → (tN T - i).toNat = m → aW T nt b E k sw o0 n0 o n less i → K shX (d + 4) 49 69 [some (.ref 32), some (.int (J b)), some (.int (J less)), some (.int (J sw)), some (.int (J i)), x5] [] (RI I o n, X) Q := by
  have hw := hW.2.2.2.2.2.2.1.1
  have hR := hW.1
  have hN := tN_le hw
  intro m
  induction m with
  | zero =>
    intro i less o n x5 i0 i1 hm ha
    have e : i = tN T := by omega
    subst e
    obtain ⟨-, hw4, hT, hX, hnt, h01, hOK, hwt⟩ := hW.RI (o := o) (n := n)
    obtain ⟨s1, s2, s3, r1, r2, a0, a1, a2, a3, a4, a5, a6, ag⟩ := id hT
    refine k_iload i_49_69 rfl ?_
    refine k_aload_n i_49_71 rfl ?_
    refine k_gfR i_49_72 f_10_44 (by first | rfl | assumption | (rw [hR]; rfl) | (dsimp only; rw [hR]; rfl)) (by decide) (by decide) (Or.inl ⟨_, rfl⟩) (by first | rfl | assumption | (rw [hR]; rfl) | (dsimp only; rw [hR]; rfl)) ?_
    refine k_vp0 i_49_75 c_10_70 qp_28 qo_28 (by first | rfl | assumption | (rw [hR]; rfl) | (dsimp only; rw [hR]; rfl)) (Nat.le_of_ble_eq_true rfl) (e_squares hT) ?_
    refine k_ic_ge (t := 123) i_49_78 rfl (by omega) (by omega) (fun h => ?_) (fun h => ?_)
    · exact hq o n less x5 ha
    · omega
  | succ m ih =>
    intro i less o n x5 i0 i1 hm ha
    obtain ⟨-, hw4, hT, hX, hnt, h01, hOK, hwt⟩ := hW.RI (o := o) (n := n)
    obtain ⟨s1, s2, s3, r1, r2, a0, a1, a2, a3, a4, a5, a6, ag⟩ := id hT
    have fin : ∀ c : Int, c = ordS T sw i → K shX (d + 4) 49 104 [some (.ref 32), some (.int (J b)), some (.int (J less)), some (.int (J sw)), some (.int (J i)), x5] [.int (J c)] (RI I o n, X) Q := by
      intro c hc
      have hcr : 0 ≤ c ∧ c < tN T := by rw [hc]; unfold ordS; split <;> omega
      have hst := aW_step hw hx hk ⟨i0, by omega⟩ ha
      rw [← hc] at hst
      refine k_istore i_49_104 (Nat.le_of_ble_eq_true rfl) ?_
      dsimp only [q_st1, q_st2, q_unl]
      refine k_aload_n i_49_106 rfl ?_
      refine k_iload i_49_107 rfl ?_
      refine k_cv1 i_49_109 c_10_74 qp_50 qo_50 (by first | rfl | assumption | (rw [hR]; rfl) | (dsimp only; rw [hR]; rfl)) (Nat.le_of_ble_eq_true rfl) (e_makesLess hW hb hbr o n ha.1.1 ha.1.2.1 c (by omega)) (fun v S2 h => ?_)
      obtain ⟨rfl, rfl⟩ := h
      show K shX (d + 4) 49 112 _ [.int (J (bi (mlZ T nt b o n c).1))] _ _
      refine k_if_eqB (t := 117) i_49_112 rfl (fun h => ?_) (fun h => ?_)
      · refine k_iinc i_49_117 rfl (Nat.le_of_ble_eq_true rfl) ?_
        dsimp only [q_st1, q_st2, q_unl]
        refine k_goto (t := 69) i_49_120 rfl ?_
        rw [if_neg (by rw [h]; decide)] at hst
        exact ih (i + 1) less _ _ _ (by omega) (by omega) (by omega) hst
      · refine k_iconst i_49_115 ?_
        refine k_istore_n i_49_116 (Nat.le_of_ble_eq_true rfl) ?_
        dsimp only [q_st1, q_st2, q_unl]
        refine k_iinc i_49_117 rfl (Nat.le_of_ble_eq_true rfl) ?_
        dsimp only [q_st1, q_st2, q_unl]
        refine k_goto (t := 69) i_49_120 rfl ?_
        rw [if_pos h] at hst
        exact ih (i + 1) 1 _ _ _ (by omega) (by omega) (by omega) hst
    refine k_iload i_49_69 rfl ?_
    refine k_aload_n i_49_71 rfl ?_
    refine k_gfR i_49_72 f_10_44 (by first | rfl | assumption | (rw [hR]; rfl) | (dsimp only; rw [hR]; rfl)) (by decide) (by decide) (Or.inl ⟨_, rfl⟩) (by first | rfl | assumption | (rw [hR]; rfl) | (dsimp only; rw [hR]; rfl)) ?_
    refine k_vp0 i_49_75 c_10_70 qp_28 qo_28 (by first | rfl | assumption | (rw [hR]; rfl) | (dsimp only; rw [hR]; rfl)) (Nat.le_of_ble_eq_true rfl) (e_squares hT) ?_
    refine k_ic_ge (t := 123) i_49_78 rfl (by omega) (by omega) (fun g => ?_) (fun g => ?_)
    · omega
    · refine k_iload_n i_49_81 rfl ?_
      refine k_iconst i_49_82 ?_
      refine k_irem i_49_83 (by omega) (by omega) (by omega) (by omega) ?_
      refine k_if_ne (t := 92) i_49_84 rfl (by omega) (fun g2 => ?_) (fun g2 => ?_)
      · refine k_aload_n i_49_92 rfl ?_
        refine k_gfR i_49_93 f_10_44 (by first | rfl | assumption | (rw [hR]; rfl) | (dsimp only; rw [hR]; rfl)) (by decide) (by decide) (Or.inl ⟨_, rfl⟩) (by first | rfl | assumption | (rw [hR]; rfl) | (dsimp only; rw [hR]; rfl)) ?_
        refine k_vp0 i_49_96 c_10_70 qp_28 qo_28 (by first | rfl | assumption | (rw [hR]; rfl) | (dsimp only; rw [hR]; rfl)) (Nat.le_of_ble_eq_true rfl) (e_squares hT) ?_
        refine k_iconst i_49_99 ?_
        refine k_isub i_49_100 ?_
        refine k_iload i_49_101 rfl ?_
        refine k_isub i_49_103 ?_
        exact fin _ (by unfold ordS; rw [if_neg g2])
      · refine k_iload i_49_87 rfl ?_
        refine k_goto (t := 104) i_49_89 rfl ?_
        exact fin _ (by unfold ordS; rw [if_pos (by omega)])
theorem l_aim_s (hW : WX I X h0 s0 w T nt) (hb : I 32 2 = b) (hbr : inJ b) (hx : xfx T nt b V E)
    (hq : ∀ (o n : Nat → Int), aI T b E o n → Rk E o 80 → Q none (RI I o n, X)) :
    ∀ (m : Nat) (sw less : Int) (o n : Nat → Int) (x4 x5 : Option Value), 0 ≤ sw → sw ≤ 81 → (81 - sw).toNat = m → aI T b E o n → Rk E o sw → (less = 1 ∨ less = 0 ∧ Rk E o 80) → K shX (d + 4) 49 54 [some (.ref 32), some (.int (J b)), some (.int (J less)), some (.int (J sw)), x4, x5] [] (RI I o n, X) Q := by
  have hw := hW.2.2.2.2.2.2.1.1
  intro m
  induction m with
  | zero =>
    intro sw less o n x4 x5 w0 w1 hm ha hk hl
    have hl2 : less = 0 ∨ less = 1 := by rcases hl with h | h; exact Or.inr h; exact Or.inl h.1
    have hk80 : Rk E o 80 := fun c q c0 c1 q0 q1 hF hr => hk c q c0 c1 q0 q1 hF (by omega)
    clear hl hk
    refine k_iload_n i_49_54 rfl ?_
    refine k_if_eq (t := 129) i_49_55 rfl (by omega) (fun h => ?_) (fun h => ?_)
    · refine k_vret i_49_129 qt_49 ?_
      exact hq o n ha hk80
    · refine k_iload_n i_49_58 rfl ?_
      refine k_bipush i_49_59 (by decide) ?_
      refine k_ic_gt (t := 129) i_49_61 rfl (by omega) (by omega) (fun h => ?_) (fun h => ?_)
      · refine k_vret i_49_129 qt_49 ?_
        exact hq o n ha hk80
      · omega
  | succ m ih =>
    intro sw less o n x4 x5 w0 w1 hm ha hk hl
    have hl2 : less = 0 ∨ less = 1 := by rcases hl with h | h; exact Or.inr h; exact Or.inl h.1
    have hl3 : less = 0 → Rk E o 80 := by
      intro z
      rcases hl with h | h
      · omega
      · exact h.2
    clear hl
    refine k_iload_n i_49_54 rfl ?_
    refine k_if_eq (t := 129) i_49_55 rfl (by omega) (fun g => ?_) (fun g => ?_)
    · refine k_vret i_49_129 qt_49 ?_
      exact hq o n ha (hl3 g)
    · refine k_iload_n i_49_58 rfl ?_
      refine k_bipush i_49_59 (by decide) ?_
      refine k_ic_gt (t := 129) i_49_61 rfl (by omega) (by omega) (fun g2 => ?_) (fun g2 => ?_)
      · omega
      · refine k_iconst i_49_64 ?_
        refine k_istore_n i_49_65 (Nat.le_of_ble_eq_true rfl) ?_
        dsimp only [q_st1, q_st2, q_unl]
        refine k_iconst i_49_66 ?_
        refine k_istore i_49_67 (Nat.le_of_ble_eq_true rfl) ?_
        dsimp only [q_st1, q_st2, q_unl]
        have hst : aW T nt b E sw sw o n o n 0 0 := ⟨ha, fun _ _ _ _ _ _ => Int.le_refl _, fun u u0 u1 => by omega, Or.inl rfl, fun _ => ⟨rfl, rfl, fun u u0 u1 => by omega⟩⟩
        refine l_aim_i hW hb hbr hx sw sw ⟨w0, by omega⟩ o n hk (fun o1 n1 less1 y5 h1 => ?_) (tN T).toNat 0 0 o n x5 (by omega) (by have := tN_le hw; omega) (by omega) hst
        obtain ⟨e1, e2, e3, e4⟩ := aW_end hw hx w0 h1
        refine k_iinc i_49_123 rfl (Nat.le_of_ble_eq_true rfl) ?_
        dsimp only [q_st1, q_st2, q_unl]
        refine k_goto (t := 54) i_49_126 rfl ?_
        refine ih (sw + 1) less1 o1 n1 _ y5 (by omega) (by omega) (by omega) e1 e2 ?_
        rcases e3 with z | z
        · exact Or.inr ⟨z, e4 z⟩
        · exact Or.inl z
end AZ
end
section
/-! THE CLASS: aim, whole; and the two systems are one -/
theorem q_fill_sr (f : Nat → Nat → Int) (c n : Nat) (v : Int) : q_fill f c n v = sr f c (fun j => if j < n then v else f c j) := by
  funext c' j
  unfold q_fill sr
  by_cases h : c' = c
  · subst h; simp
  · simp [h]
/-- the goal's ports are 0 -/
def gN (b : Int) (n : Nat → Int) : Nat → (Nat → Int)
  | 0 => n
  | k + 1 => ud (gN b n k) (b * 4 + k).toNat 0
theorem gN_pt {b : Int} (hb : 0 ≤ b) {n : Nat → Int} : ∀ (k : Nat) (c l : Int), k ≤ 4 → 0 ≤ c → 0 ≤ l → l < 4 → pt (gN b n k) c l = if c = b ∧ l < k then 0 else pt n c l
  | 0, c, l, _, _, _, _ => by rw [if_neg (by omega)]; rfl
  | k + 1, c, l, hk, c0, l0, l1 => by
    have ih := gN_pt hb (n := n) k c l (by omega) c0 l0 l1
    by_cases e : c = b ∧ l = k
    · obtain ⟨rfl, rfl⟩ := e
      rw [if_pos ⟨rfl, by omega⟩]
      show ud _ _ _ _ = 0
      exact ud_s
    · show ud _ _ _ _ = _
      rw [ud_n (by omega)]
      show pt (gN b n k) c l = _
      rw [ih]
      by_cases h : c = b ∧ l < k
      · rw [if_pos h, if_pos ⟨h.1, by omega⟩]
      · rw [if_neg h, if_neg (by omega)]
theorem gN_inF {b : Int} {n : Nat → Int} (hn : inF n) : ∀ k, inF (gN b n k)
  | 0 => hn
  | k + 1 => by
    intro j hj
    unfold gN ud
    split
    · omega
    · exact gN_inF hn k j hj
theorem WX.goal {I : Nat → Nat → Int} {X : XX} {h s w : Nat} {T : Tn} {nt v : Int} (hw : WX I X h s w T nt) : WX (q_up I 32 2 v) X h s w T nt := by
  obtain ⟨h1, h2, h3, h4, h5, h6, h7, h8⟩ := hw
  have e : ∀ c k, c ≠ 32 → q_up I 32 2 v c k = I c k := fun c k hc => q_up_n (fun z => hc z.1)
  have hw32 : w ≠ 32 ∧ w + 1 ≠ 32 ∧ w + 2 ≠ 32 := by omega
  refine ⟨h1, h2, ?_, ?_, by rw [q_up_n (by decide)]; exact h5, h6, h7, fun r hr => by rw [e _ _ (by decide), e _ _ (by decide)]; exact h8 r hr⟩
  · unfold TAt at h3 ⊢
    simp only [e _ _ hw32.1, e _ _ hw32.2.1]
    exact h3
  · unfold TNx at h4 ⊢
    simp only [e _ _ hw32.2.2]
    exact h4
section A4
variable {d : Nat} {T : Tn} {I : Nat → Nat → Int} {X : XX} {h0 s0 w : Nat} {nt b : Int} {V E : Int → Int → Int} {Q : Option Value → QS → Prop}
-- method 49: StraightTax$Ways.aim.(I)V
theorem l_aim_g (hR : X.2 = rX h0 s0 w) (hb : I 32 2 = b) (hbr : 0 ≤ b ∧ b < 20) (o n : Nat → Int)
    (hk : K shX (d + 4) 49 50 [some (.ref 32), some (.int (J b)), some (.int (J 4)), none, none, none] [] (RI I o (gN b n 4), X) Q) :
    ∀ (m k : Nat), k + m = 4 → K shX (d + 4) 49 25 [some (.ref 32), some (.int (J b)), some (.int (J (k : Int))), none, none, none] [] (RI I o (gN b n k), X) Q := by
  intro m
  induction m with
  | zero =>
    intro k hk4
    have e : k = 4 := by omega
    subst e
    refine k_iload_n i_49_25 rfl ?_
    refine k_iconst i_49_26 ?_
    refine k_ic_ge (t := 50) i_49_27 rfl (by omega) (by omega) (fun h => ?_) (fun h => ?_)
    · exact hk
    · omega
  | succ m ih =>
    intro k hk4
    refine k_iload_n i_49_25 rfl ?_
    refine k_iconst i_49_26 ?_
    refine k_ic_ge (t := 50) i_49_27 rfl (by omega) (by omega) (fun h => ?_) (fun h => ?_)
    · omega
    · refine k_aload_n i_49_30 rfl ?_
      refine k_gfR i_49_31 f_10_29 (by first | rfl | assumption | (rw [hR]; rfl) | (dsimp only; rw [hR]; rfl)) (by decide) (by decide) (Or.inr ⟨_, rfl⟩) (by first | rfl | assumption | (rw [hR]; rfl) | (dsimp only; rw [hR]; rfl)) ?_
      refine k_aload_n i_49_34 rfl ?_
      refine k_gfI i_49_35 f_10_15 (by first | rfl | assumption | (rw [hR]; rfl) | (dsimp only; rw [hR]; rfl)) (by decide) (by decide) (Or.inl rfl) ?_
      rw [show (RI I o (gN b n k), X).1 32 2 = b from by show RI I o (gN b n k) 32 2 = b; rw [RI_n (by decide) (by decide)]; exact hb]
      refine k_iconst i_49_38 ?_
      refine k_imul i_49_39 ?_
      refine k_iload_n i_49_40 rfl ?_
      refine k_iadd i_49_41 ?_
      refine k_iconst i_49_42 ?_
      refine k_iast i_49_43 rfl (by decide) (by omega) (by omega) ?_
      dsimp only
      rw [RI_u36]
      refine k_iinc i_49_44 rfl (Nat.le_of_ble_eq_true rfl) ?_
      dsimp only [q_st1, q_st2, q_unl]
      refine k_goto (t := 25) i_49_47 rfl ?_
      exact ih (k + 1) (by omega)
theorem e_aim (hW : WX I X h0 s0 w T nt) (hb : 0 ≤ b ∧ b < 20) (hx : xfx T nt b V E) : KC shX (d + 4) 49 [.ref 32, .int (J b)] (I, X) (fun r S2 => r = none ∧ ∃ o n, S2 = (RI (q_up I 32 2 b) o n, X) ∧ inF o ∧ inF n ∧ (∀ c q : Int, 0 ≤ c → c < 20 → 0 ≤ q → q < 4 → pt o c q = E c q) ∧ ∀ c l : Int, 0 ≤ c → c < 20 → 0 ≤ l → l < 4 → pt n c l = V c l) := by
  have hw := hW.2.2.2.2.2.2.1.1
  have hR := hW.1
  have hW1 := hW.goal (v := b)
  have hb1 : q_up I 32 2 b 32 2 = b := q_up_s
  refine k_start ql_49 (Nat.le_of_ble_eq_true rfl) ?_
  simp only [q_en, List.replicate]
  refine k_aload_n i_49_0 rfl ?_
  refine k_iload_n i_49_1 rfl ?_
  refine k_pfI i_49_2 f_10_15 (by first | rfl | assumption | (rw [hR]; rfl) | (dsimp only; rw [hR]; rfl)) (by decide) rfl ?_
  refine k_aload_n i_49_5 rfl ?_
  refine k_gfR i_49_6 f_10_26 (by first | rfl | assumption | (rw [hR]; rfl) | (dsimp only; rw [hR]; rfl)) (by decide) (by decide) (Or.inr ⟨_, rfl⟩) (by first | rfl | assumption | (rw [hR]; rfl) | (dsimp only; rw [hR]; rfl)) ?_
  refine k_ldc (a := 1073741824) i_49_9 n_10_63 (by decide) ?_
  refine k_cs2 i_49_11 c_10_64 (by decide) qp_158 (Nat.le_of_ble_eq_true rfl) (e_fill (n := 80) rfl (by decide) 1073741824) (fun v S2 h => ?_)
  obtain ⟨rfl, rfl⟩ := h
  show K shX (d + 4) 49 14 _ [] _ _
  refine k_aload_n i_49_14 rfl ?_
  refine k_gfR i_49_15 f_10_29 (by first | rfl | assumption | (rw [hR]; rfl) | (dsimp only; rw [hR]; rfl)) (by decide) (by decide) (Or.inr ⟨_, rfl⟩) (by first | rfl | assumption | (rw [hR]; rfl) | (dsimp only; rw [hR]; rfl)) ?_
  refine k_ldc (a := 1073741824) i_49_18 n_10_63 (by decide) ?_
  refine k_cs2 i_49_20 c_10_64 (by decide) qp_158 (Nat.le_of_ble_eq_true rfl) (e_fill (n := 80) rfl (by decide) 1073741824) (fun v S2 h => ?_)
  obtain ⟨rfl, rfl⟩ := h
  show K shX (d + 4) 49 23 _ [] (q_fill (q_fill (q_up I 32 2 b) 35 80 1073741824) 36 80 1073741824, X) _
  rw [q_fill_sr, q_fill_sr]
  refine k_iconst i_49_23 ?_
  refine k_istore_n i_49_24 (Nat.le_of_ble_eq_true rfl) ?_
  dsimp only [q_st1, q_st2, q_unl]
  have hF : ∀ f : Nat → Int, inF (fun j => if j < 80 then 1073741824 else f j) := by
    intro f j hj
    dsimp only
    rw [if_pos hj]
    omega
  refine l_aim_g (I := q_up I 32 2 b) hR hb1 hb (fun j => if j < 80 then 1073741824 else q_up I 32 2 b 35 j) (fun j => if j < 80 then 1073741824 else sr (q_up I 32 2 b) 35 (fun j => if j < 80 then 1073741824 else q_up I 32 2 b 35 j) 36 j) ?_ 4 0 (by omega)
  refine k_iconst i_49_50 ?_
  refine k_istore_n i_49_51 (Nat.le_of_ble_eq_true rfl) ?_
  dsimp only [q_st1, q_st2, q_unl]
  refine k_iconst i_49_52 ?_
  refine k_istore_n i_49_53 (Nat.le_of_ble_eq_true rfl) ?_
  dsimp only [q_st1, q_st2, q_unl]
  refine l_aim_s hW1 hb1 (by omega) hx (fun o n ha hk => ⟨rfl, o, n, rfl, ha.1, ha.2.1, aI_exact hw hx ha hk⟩) 81 0 1 _ _ none none (by omega) (by omega) (by omega) ?_ (Rk_0 hx.2.2) (Or.inl rfl)
  refine ⟨hF _, gN_inF (hF _) 4, fun c l c0 c1 l0 l1 => ?_, fun c q c0 c1 q0 q1 => ?_⟩
  · rw [gN_pt hb.1 4 c l (by omega) c0 l0 l1]
    by_cases e : c = b
    · rw [if_pos ⟨e, by omega⟩, if_pos e]
    · rw [if_neg (fun z => e z.1), if_neg e]
      have h1 : ∀ f : Nat → Int, ∀ q : Int, 0 ≤ q → q < 4 → pt (fun j => if j < 80 then 1073741824 else f j) c q = 1073741824 := by
        intro f q q0 q1
        show (if (c * 4 + q).toNat < 80 then 1073741824 else f (c * 4 + q).toNat) = 1073741824
        rw [if_pos (by omega)]
      rw [h1 _ l l0 l1]
      rcases tuk_is (O := pt (fun j => if j < 80 then 1073741824 else q_up I 32 2 b 35 j)) (c := c) (but := if tElb T c = true then -1 else l) 4 with h | ⟨q, q1, q2, q3⟩
      · exact h.symm
      · rw [h1 _ q q1.1 (by omega)] at q3
        exact q3.symm
  · have h1 := (hx.2.2 c q c0 c1 q0 q1).2
    have h2 : pt (fun j => if j < 80 then 1073741824 else q_up I 32 2 b 35 j) c q = 1073741824 := by
      show (if (c * 4 + q).toNat < 80 then 1073741824 else q_up I 32 2 b 35 (c * 4 + q).toNat) = 1073741824
      rw [if_pos (by omega)]
    rw [h2]
    exact h1
end A4
/-! the exact burdens of the class are the fixpoint of the reference's system -/
/-- the reference's state of one who came to a square in a direction, by the r-th step of a run -/
def gs (T : Tn) (c q r : Int) : Int := if tElb T c = true then 17 * c + 16 else 17 * c + 4 * q + (r - 1)
def eE (T : Tn) (nt b : Int) (g : Int → Int) (c q : Int) : Int := if c ≠ b ∧ tOpen T c = true ∧ 0 ≤ nx T c q then min 1073741824 (W1 T nt 1 + g (gs T (nx T c q) q 1)) else 1073741824
def eV (T : Tn) (nt b : Int) (g : Int → Int) (c l : Int) : Int := if c = b then 0 else tu (eE T nt b g) c (if tElb T c = true then -1 else l)
theorem tElb_mask {T : Tn} {c : Int} (hc : 0 ≤ c ∧ c < 20) : (tMask T 2).testBit c.toNat = tElb T c := by
  rw [tMask_bit]
  unfold tElb
  exact decide_eq_decide.mpr ⟨fun h => ⟨hc.1, hc.2, h.2⟩, fun h => ⟨by omega, h.2.2⟩⟩
theorem mRun_gs {T : Tn} {c q r p : Int} (hc : 0 ≤ c) (hq : 0 ≤ q ∧ q < 4) (hr : 1 ≤ r ∧ r ≤ 4) : mRun (gs T c q r) p = if tElb T c = false ∧ q = p then r + 1 else 1 := by
  unfold gs mRun
  by_cases he : tElb T c = true
  · rw [if_pos he, if_neg (by omega), if_neg (by rw [he]; simp)]
  · have he' : tElb T c = false := by cases h : tElb T c; rfl; exact absurd h he
    have e1 : (17 * c + 4 * q + (r - 1)) % 17 = 4 * q + (r - 1) := by omega
    have e2 : (4 * q + (r - 1)) / 4 = q := by omega
    have e3 : (4 * q + (r - 1)) % 4 = r - 1 := by omega
    rw [if_neg he, e1, e2, e3]
    by_cases hp : q = p
    · rw [if_pos ⟨by omega, hp⟩, if_pos ⟨he', hp⟩]; omega
    · rw [if_neg (fun z => hp z.2), if_neg (fun z => hp z.2)]
theorem gs_div {T : Tn} {c q r : Int} (hq : 0 ≤ q ∧ q < 4) (hr : 1 ≤ r ∧ r ≤ 4) : gs T c q r / 17 = c := by
  unfold gs; split <;> omega
theorem gs_range {T : Tn} {c q r : Int} (hc : 0 ≤ c ∧ c < tN T) (hq : 0 ≤ q ∧ q < 4) (hr : 1 ≤ r ∧ r ≤ 4) : 0 ≤ gs T c q r ∧ gs T c q r < 17 * tN T := by
  unfold gs; split <;> omega
/-- where a step leads from such a state, over the town's own elbows -/
theorem mE_of {T : Tn} (hw : tWF T) {s p : Int} (hs : 0 ≤ s ∧ s < 17 * tN T) (hp : 0 ≤ p ∧ p < 4) (hr : mRun s p ≤ 4) : mE T (tMask T 2) s p = if nx T (s / 17) p < 0 then -1 else gs T (nx T (s / 17) p) p (mRun s p) := by
  have hN := tN_le hw
  have h1 := nx_range hw (s / 17) p
  have h2 := mRun_le s p hs.1
  unfold mE mOn
  rw [if_neg (by omega)]
  split
  · rfl
  · rw [tElb_mask (by omega)]
    unfold gs
    by_cases he : tElb T (nx T (s / 17) p) = true
    · rw [if_pos he, if_pos he]
    · rw [if_neg he, if_neg he]; omega
end
section
/-! THE TWO SYSTEMS ARE ONE -/
theorem tAh_nx {T : Tn} (hw : tWF T) {c q : Int} (hc : 0 ≤ c ∧ c < tN T) (hq : 0 ≤ q ∧ q < 4) : tAh T c q = nx T c q := by
  have hN := tN_le hw
  unfold tAh
  rw [if_pos ⟨⟨hc.1, by omega⟩, hq⟩, if_pos hc.2]
theorem nx_open {T : Tn} {c q : Int} (h : 0 ≤ nx T c q) : tOpen T (nx T c q) = true := by
  unfold nx at h ⊢
  split at h
  · rename_i h1; rw [if_pos h1]; exact h1
  · omega
theorem open_house {T : Tn} (hw : tWF T) {c : Int} (hc : 0 ≤ c ∧ c < tN T) {s : Int} (hs : s / 17 = c) (h : tOpen T c = true) : ¬ mHouse T s := by
  have hN := tN_le hw
  unfold mHouse
  rw [hs]
  unfold tOpen tOn at h
  rw [if_pos (by omega)] at h
  simp at h
  exact h.2
theorem eE_range {T : Tn} (hw : tWF T) {nt b : Int} {el : Nat} {g : Int → Int} (hg : fx T nt el b 1024 1073741824 g) {c q : Int} (hq : 0 ≤ q ∧ q < 4) : 0 ≤ eE T nt b g c q ∧ eE T nt b g c q ≤ 1073741824 := by
  unfold eE
  split
  · rename_i h
    have h1 := nx_range hw c q
    have h2 := gs_range (T := T) (c := nx T c q) (q := q) (r := 1) (by omega) hq (by omega)
    have h3 := (hg _ h2.1 h2.2).1
    have h4 := tPrice4 hw (nt := nt) (r := 1) (by omega)
    unfold W1
    omega
  · omega
/-- from a state, by a step that begins a run -/
theorem fx_new {T : Tn} (hw : tWF T) {nt b : Int} {g : Int → Int} (hg : fx T nt (tMask T 2) b 1024 1073741824 g) {s : Int} (hs : 0 ≤ s ∧ s < 17 * tN T) (hsb : s / 17 ≠ b) (ho : tOpen T (s / 17) = true) {p : Int} (hp : 0 ≤ p ∧ p < 4) (hr : mRun s p = 1) : g s ≤ eE T nt b g (s / 17) p ∧ (0 ≤ mE T (tMask T 2) s p → eE T nt b g (s / 17) p = min 1073741824 (g (mE T (tMask T 2) s p) + 1024 * tPrice T nt (mRun s p) + 1)) := by
  have hd : 0 ≤ s / 17 ∧ s / 17 < tN T := by omega
  have hh := open_house hw hd rfl ho
  obtain ⟨f1, f2, f3, f4, f5⟩ := hg s hs.1 hs.2
  have e1 := mE_of hw hs hp (by omega)
  by_cases hn : nx T (s / 17) p < 0
  · rw [if_pos hn] at e1
    have e2 : eE T nt b g (s / 17) p = 1073741824 := by unfold eE; rw [if_neg (by rintro ⟨-, -, z⟩; omega)]
    exact ⟨by omega, fun z => by omega⟩
  · rw [if_neg hn, hr] at e1
    have e2 : eE T nt b g (s / 17) p = min 1073741824 (W1 T nt 1 + g (gs T (nx T (s / 17) p) p 1)) := by unfold eE; rw [if_pos ⟨hsb, ho, by omega⟩]
    have e3 : 0 ≤ mE T (tMask T 2) s p := by rw [e1]; exact (gs_range (T := T) (by have := nx_range hw (s / 17) p; omega) hp (by omega)).1
    have f6 := f4 hsb hh p hp.1 hp.2 e3
    rw [e1, hr] at f6
    rw [e2, e1, hr]
    unfold W1
    constructor
    · omega
    · intro _; omega
/-- going straight on, exactly -/
theorem sO_exact {T : Tn} (hw : tWF T) {nt b : Int} {g : Int → Int} (hg : fx T nt (tMask T 2) b 1024 1073741824 g) {q : Int} (hq : 0 ≤ q ∧ q < 4) : ∀ (m : Nat) (c : Int), m < 4 → 0 ≤ c → c < tN T → sO T nt (eV T nt b g) q (m + 1) c = if nx T c q < 0 then 1073741824 else min 1073741824 (W1 T nt (4 - (m : Int)) + g (gs T (nx T c q) q (4 - (m : Int)))) := by
  have hN := tN_le hw
  intro m
  induction m with
  | zero =>
    intro c hm c0 c1
    have e0 : tAh T c q = nx T c q := tAh_nx hw ⟨c0, c1⟩ hq
    show (if tAh T c q < 0 then 1073741824 else min 1073741824 (W1 T nt (4 - ((0 : Nat) : Int)) + min (eV T nt b g (tAh T c q) q) (if tElb T (tAh T c q) = true then 1073741824 else sO T nt (eV T nt b g) q 0 (tAh T c q)))) = if nx T c q < 0 then 1073741824 else min 1073741824 (W1 T nt (4 - ((0 : Nat) : Int)) + g (gs T (nx T c q) q (4 - ((0 : Nat) : Int))))
    rw [e0]
    by_cases hn : nx T c q < 0
    · rw [if_pos hn, if_pos hn]
    · rw [if_neg hn, if_neg hn]
      have h1 := nx_range hw c q
      have hgr := gs_range (T := T) (c := nx T c q) (q := q) (r := 4 - ((0 : Nat) : Int)) (by omega) hq (by omega)
      have hdv := gs_div (T := T) (c := nx T c q) (q := q) (r := 4 - ((0 : Nat) : Int)) hq (by omega)
      have hGr := (hg _ hgr.1 hgr.2).1
      have hW : 0 < W1 T nt (4 - ((0 : Nat) : Int)) := by
        have := tPrice4 hw (nt := nt) (r := 4 - ((0 : Nat) : Int)) (by omega)
        unfold W1; omega
      by_cases hb : nx T c q = b
      · have e1 : eV T nt b g (nx T c q) q = 0 := by unfold eV; rw [if_pos hb]
        have e2 := (hg _ hgr.1 hgr.2).2.1 (hdv.trans hb)
        rw [e1, e2]
        have : 0 ≤ (if tElb T (nx T c q) = true then 1073741824 else sO T nt (eV T nt b g) q 0 (nx T c q)) := by split <;> (try unfold sO) <;> omega
        omega
      · have ho := nx_open (T := T) (c := c) (q := q) (by omega)
        have eVd : eV T nt b g (nx T c q) q = tu (eE T nt b g) (nx T c q) (if tElb T (nx T c q) = true then -1 else q) := by unfold eV; rw [if_neg hb]
        have hsO : (if tElb T (nx T c q) = true then (1073741824 : Int) else sO T nt (eV T nt b g) q 0 (nx T c q)) = 1073741824 := by split <;> rfl
        rw [hsO, eVd]
        have hrun : ∀ p : Int, 0 ≤ p → p < 4 → p ≠ (if tElb T (nx T c q) = true then -1 else q) → mRun (gs T (nx T c q) q (4 - ((0 : Nat) : Int))) p = 1 := by
          intro p p0 p1 hpn
          rw [mRun_gs (by omega) hq (by omega), if_neg]
          rintro ⟨z1, z2⟩
          rw [if_neg (by rw [z1]; decide)] at hpn
          exact hpn z2.symm
        have hge : g (gs T (nx T c q) q (4 - ((0 : Nat) : Int))) ≤ tu (eE T nt b g) (nx T c q) (if tElb T (nx T c q) = true then -1 else q) := by
          rcases tuk_is (O := eE T nt b g) (c := nx T c q) (but := if tElb T (nx T c q) = true then -1 else q) 4 with h | ⟨p, p1, p2, p3⟩
          · unfold tu; omega
          · have := (fx_new hw hg hgr (by rw [hdv]; exact hb) (by rw [hdv]; exact ho) (p := p) (by omega) (hrun p p1.1 (by omega) p2)).1
            rw [hdv] at this
            unfold tu
            omega
        have hle : g (gs T (nx T c q) q (4 - ((0 : Nat) : Int))) < 1073741824 → tu (eE T nt b g) (nx T c q) (if tElb T (nx T c q) = true then -1 else q) ≤ g (gs T (nx T c q) q (4 - ((0 : Nat) : Int))) := by
          intro hF
          obtain ⟨p, p1, p2, p3⟩ := (hg _ hgr.1 hgr.2).2.2.2.2 (by rw [hdv]; exact hb) hF
          have hr4 := mE_run p2
          rw [mRun_gs (by omega) hq (by omega)] at hr4
          have hpn : p ≠ (if tElb T (nx T c q) = true then -1 else q) := by
            intro z
            by_cases he : tElb T (nx T c q) = true
            · rw [if_pos he] at z; omega
            · rw [if_neg he] at z
              rw [if_pos ⟨by cases h : tElb T (nx T c q); rfl; exact absurd h he, z.symm⟩] at hr4
              omega
          have h5 := (fx_new hw hg hgr (by rw [hdv]; exact hb) (by rw [hdv]; exact ho) p1 (hrun p p1.1 p1.2 hpn)).2 p2
          rw [hdv] at h5
          have h6 := tuk_ge (O := eE T nt b g) (c := nx T c q) 4 p p1.1 p1.2 hpn
          unfold tu
          omega
        have htl := tuk_le (O := eE T nt b g) (c := nx T c q) (but := if tElb T (nx T c q) = true then -1 else q) 4
        by_cases hF : g (gs T (nx T c q) q (4 - ((0 : Nat) : Int))) < 1073741824
        · have := hle hF; unfold tu at this hge ⊢; omega
        · unfold tu at hge ⊢; omega
  | succ m ih =>
    intro c hm c0 c1
    have e0 : tAh T c q = nx T c q := tAh_nx hw ⟨c0, c1⟩ hq
    show (if tAh T c q < 0 then 1073741824 else _) = _
    rw [e0]
    by_cases hn : nx T c q < 0
    · rw [if_pos hn, if_pos hn]
    · rw [if_neg hn, if_neg hn]
      have h1 := nx_range hw c q
      have ih1 := ih (nx T c q) (by omega) (by omega) (by omega)
      have hgr := gs_range (T := T) (c := nx T c q) (q := q) (r := 4 - ((m + 1 : Nat) : Int)) (by omega) hq (by omega)
      have hdv := gs_div (T := T) (c := nx T c q) (q := q) (r := 4 - ((m + 1 : Nat) : Int)) hq (by omega)
      have hGr := (hg _ hgr.1 hgr.2).1
      have hW : 0 < W1 T nt (4 - ((m + 1 : Nat) : Int)) := by
        have := tPrice4 hw (nt := nt) (r := 4 - ((m + 1 : Nat) : Int)) (by omega)
        unfold W1; omega
      have hW2 : 0 < W1 T nt (4 - (m : Int)) := by
        have := tPrice4 hw (nt := nt) (r := 4 - (m : Int)) (by omega)
        unfold W1; omega
      -- what going on costs
      have hson : 0 ≤ sO T nt (eV T nt b g) q (m + 1) (nx T c q) ∧ sO T nt (eV T nt b g) q (m + 1) (nx T c q) ≤ 1073741824 := by
        rw [ih1]
        split
        · omega
        · have h2 := nx_range hw (nx T c q) q
          have hg2 := gs_range (T := T) (c := nx T (nx T c q) q) (q := q) (r := 4 - (m : Int)) (by omega) hq (by omega)
          have := (hg _ hg2.1 hg2.2).1
          omega
      by_cases hb : nx T c q = b
      · have e1 : eV T nt b g (nx T c q) q = 0 := by unfold eV; rw [if_pos hb]
        have e2 := (hg _ hgr.1 hgr.2).2.1 (hdv.trans hb)
        rw [e1, e2]
        have : 0 ≤ (if tElb T (nx T c q) = true then 1073741824 else sO T nt (eV T nt b g) q (m + 1) (nx T c q)) := by split <;> omega
        omega
      · have ho := nx_open (T := T) (c := c) (q := q) (by omega)
        have hhs := open_house hw (c := nx T c q) (by omega) hdv ho
        have eVd : eV T nt b g (nx T c q) q = tu (eE T nt b g) (nx T c q) (if tElb T (nx T c q) = true then -1 else q) := by unfold eV; rw [if_neg hb]
        rw [eVd]
        have hrun : ∀ p : Int, 0 ≤ p → p < 4 → p ≠ (if tElb T (nx T c q) = true then -1 else q) → mRun (gs T (nx T c q) q (4 - ((m + 1 : Nat) : Int))) p = 1 := by
          intro p p0 p1 hpn
          rw [mRun_gs (by omega) hq (by omega), if_neg]
          rintro ⟨z1, z2⟩
          rw [if_neg (by rw [z1]; decide)] at hpn
          exact hpn z2.symm
        -- the straight edge
        have hstr : tElb T (nx T c q) = false → g (gs T (nx T c q) q (4 - ((m + 1 : Nat) : Int))) ≤ sO T nt (eV T nt b g) q (m + 1) (nx T c q) ∧ (0 ≤ mE T (tMask T 2) (gs T (nx T c q) q (4 - ((m + 1 : Nat) : Int))) q → sO T nt (eV T nt b g) q (m + 1) (nx T c q) = min 1073741824 (g (mE T (tMask T 2) (gs T (nx T c q) q (4 - ((m + 1 : Nat) : Int))) q) + 1024 * tPrice T nt (mRun (gs T (nx T c q) q (4 - ((m + 1 : Nat) : Int))) q) + 1)) := by
          intro he
          have hr : mRun (gs T (nx T c q) q (4 - ((m + 1 : Nat) : Int))) q = 4 - (m : Int) := by rw [mRun_gs (by omega) hq (by omega), if_pos ⟨he, rfl⟩]; omega
          have e1 := mE_of hw hgr hq (by omega)
          rw [hdv, hr] at e1
          rw [ih1, hr]
          by_cases hn2 : nx T (nx T c q) q < 0
          · rw [if_pos hn2] at e1 ⊢
            exact ⟨by omega, fun z => by omega⟩
          · rw [if_neg hn2] at e1 ⊢
            have h2 := nx_range hw (nx T c q) q
            have hg2 := gs_range (T := T) (c := nx T (nx T c q) q) (q := q) (r := 4 - (m : Int)) (by omega) hq (by omega)
            have f6 := (hg _ hgr.1 hgr.2).2.2.2.1 (by rw [hdv]; exact hb) hhs q hq.1 hq.2 (by rw [e1]; exact hg2.1)
            rw [e1, hr] at f6
            rw [e1]
            unfold W1
            exact ⟨by omega, fun _ => by omega⟩
        have hge : g (gs T (nx T c q) q (4 - ((m + 1 : Nat) : Int))) ≤ tu (eE T nt b g) (nx T c q) (if tElb T (nx T c q) = true then -1 else q) := by
          rcases tuk_is (O := eE T nt b g) (c := nx T c q) (but := if tElb T (nx T c q) = true then -1 else q) 4 with h | ⟨p, p1, p2, p3⟩
          · unfold tu; omega
          · have := (fx_new hw hg hgr (by rw [hdv]; exact hb) (by rw [hdv]; exact ho) (p := p) (by omega) (hrun p p1.1 (by omega) p2)).1
            rw [hdv] at this
            unfold tu
            omega
        have htl := tuk_le (O := eE T nt b g) (c := nx T c q) (but := if tElb T (nx T c q) = true then -1 else q) 4
        -- one of them is taken
        have hle : g (gs T (nx T c q) q (4 - ((m + 1 : Nat) : Int))) < 1073741824 → tu (eE T nt b g) (nx T c q) (if tElb T (nx T c q) = true then -1 else q) ≤ g (gs T (nx T c q) q (4 - ((m + 1 : Nat) : Int))) ∨ (tElb T (nx T c q) = false ∧ sO T nt (eV T nt b g) q (m + 1) (nx T c q) ≤ g (gs T (nx T c q) q (4 - ((m + 1 : Nat) : Int)))) := by
          intro hF
          obtain ⟨p, p1, p2, p3⟩ := (hg _ hgr.1 hgr.2).2.2.2.2 (by rw [hdv]; exact hb) hF
          by_cases hpn : p ≠ (if tElb T (nx T c q) = true then -1 else q)
          · left
            have h5 := (fx_new hw hg hgr (by rw [hdv]; exact hb) (by rw [hdv]; exact ho) p1 (hrun p p1.1 p1.2 hpn)).2 p2
            rw [hdv] at h5
            have h6 := tuk_ge (O := eE T nt b g) (c := nx T c q) 4 p p1.1 p1.2 hpn
            unfold tu
            omega
          · right
            have hpe : p = (if tElb T (nx T c q) = true then -1 else q) := Decidable.of_not_not hpn
            by_cases he : tElb T (nx T c q) = true
            · rw [if_pos he] at hpe; omega
            · rw [if_neg he] at hpe
              subst hpe
              have he' : tElb T (nx T c p) = false := by cases h : tElb T (nx T c p); rfl; exact absurd h he
              have := (hstr he').2 p2
              exact ⟨he', by omega⟩
        by_cases he : tElb T (nx T c q) = true
        · rw [if_pos he] at hge hle htl ⊢
          by_cases hF : g (gs T (nx T c q) q (4 - ((m + 1 : Nat) : Int))) < 1073741824
          · rcases hle hF with z | z
            · unfold tu at z hge ⊢; rw [if_pos he] ; omega
            · rw [he] at z; exact absurd z.1 (by decide)
          · unfold tu at hge ⊢; rw [if_pos he]; omega
        · have he' : tElb T (nx T c q) = false := by cases h : tElb T (nx T c q); rfl; exact absurd h he
          have h7 := (hstr he').1
          rw [if_neg he] at hge hle htl ⊢
          by_cases hF : g (gs T (nx T c q) q (4 - ((m + 1 : Nat) : Int))) < 1073741824
          · rcases hle hF with z | z
            · unfold tu at z hge ⊢; rw [if_neg he]; omega
            · unfold tu at hge ⊢; rw [if_neg he]; omega
          · unfold tu at hge ⊢; rw [if_neg he]; omega
theorem xfx_of {T : Tn} (hw : tWF T) {nt b : Int} {g : Int → Int} (hg : fx T nt (tMask T 2) b 1024 1073741824 g) : xfx T nt b (eV T nt b g) (eE T nt b g) := by
  have hN := tN_le hw
  refine ⟨fun c l c0 c1 l0 l1 => rfl, fun c q c0 c1 q0 q1 => ?_, fun c q c0 c1 q0 q1 => eE_range hw hg ⟨q0, q1⟩⟩
  by_cases h : c ≠ b ∧ tOpen T c = true
  · have hc : c < tN T := by
      have := h.2
      unfold tOpen tHas at this
      simp at this
      omega
    rw [if_pos h, sO_exact hw hg ⟨q0, q1⟩ 3 c (by omega) c0 hc]
    unfold eE
    by_cases hn : nx T c q < 0
    · rw [if_pos hn, if_neg (by rintro ⟨-, -, z⟩; omega)]
    · rw [if_neg hn, if_pos ⟨h.1, h.2, by omega⟩]
      rfl
  · rw [if_neg h]
    unfold eE
    rw [if_neg (fun z => h ⟨z.1, z.2.1⟩)]
/-- from a square where a run begins -/
theorem tu_exact {T : Tn} (hw : tWF T) {nt b : Int} {g : Int → Int} (hg : fx T nt (tMask T 2) b 1024 1073741824 g) {c : Int} (hc : 0 ≤ c ∧ c < tN T) (hcb : c ≠ b) (ho : tOpen T c = true) : tu (eE T nt b g) c (-1) = g (17 * c + 16) := by
  have hs : 0 ≤ 17 * c + 16 ∧ 17 * c + 16 < 17 * tN T := by omega
  have hd : (17 * c + 16) / 17 = c := by omega
  have hr : ∀ p : Int, mRun (17 * c + 16) p = 1 := fun p => by unfold mRun; rw [if_neg (by omega)]
  have hGr := (hg _ hs.1 hs.2).1
  have hge : g (17 * c + 16) ≤ tu (eE T nt b g) c (-1) := by
    rcases tuk_is (O := eE T nt b g) (c := c) (but := -1) 4 with h | ⟨p, p1, p2, p3⟩
    · unfold tu; omega
    · have := (fx_new hw hg hs (by rw [hd]; exact hcb) (by rw [hd]; exact ho) (p := p) (by omega) (hr p)).1
      rw [hd] at this
      unfold tu; omega
  have htl := tuk_le (O := eE T nt b g) (c := c) (but := -1) 4
  by_cases hF : g (17 * c + 16) < 1073741824
  · obtain ⟨p, p1, p2, p3⟩ := (hg _ hs.1 hs.2).2.2.2.2 (by rw [hd]; exact hcb) hF
    have h5 := (fx_new hw hg hs (by rw [hd]; exact hcb) (by rw [hd]; exact ho) p1 (hr p)).2 p2
    rw [hd] at h5
    have h6 := tuk_ge (O := eE T nt b g) (c := c) (but := -1) 4 p p1.1 p1.2 (by omega)
    unfold tu at hge ⊢
    omega
  · unfold tu at hge ⊢
    omega
end
