section
-- ===== PART A: goes FIRST, ahead of the names: the tables' words, and 'selects' of the private methods out of them =====
/-- a private method of a class that the tables say can be made, by its rows of tables_1 -/
def lw_okq (q : MethodName × Nat) : Prop := (q.1.cls ≠ "java/lang/invoke/MethodHandle" ∧ q.1.cls ≠ "java/lang/invoke/VarHandle") ∧ Cond.instantiable q.1.cls q.2 ∈ tables_1 ∧ Cond.privateMethod q.1 ∈ tables_1 ∧ Cond.instanceMethod q.1 ∈ tables_1
theorem lw_p0 : lw_okq (⟨"StraightTax$Text", "advance", "()V"⟩, 9) := ⟨⟨by decide +kernel, by decide +kernel⟩, List.mem_of_getElem? (i := 31) (by decide +kernel), List.mem_of_getElem? (i := 364) (by decide +kernel), List.mem_of_getElem? (i := 365) (by decide +kernel)⟩
theorem lw_p1 : lw_okq (⟨"StraightTax$Text", "readWord", "()V"⟩, 9) := ⟨⟨by decide +kernel, by decide +kernel⟩, List.mem_of_getElem? (i := 31) (by decide +kernel), List.mem_of_getElem? (i := 371) (by decide +kernel), List.mem_of_getElem? (i := 372) (by decide +kernel)⟩
theorem lw_p2 : lw_okq (⟨"StraightTax$Text", "isWord", "(Ljava/lang/String;)Z"⟩, 9) := ⟨⟨by decide +kernel, by decide +kernel⟩, List.mem_of_getElem? (i := 31) (by decide +kernel), List.mem_of_getElem? (i := 376) (by decide +kernel), List.mem_of_getElem? (i := 377) (by decide +kernel)⟩
theorem lw_p3 : lw_okq (⟨"StraightTax$Text", "readNumber", "()V"⟩, 9) := ⟨⟨by decide +kernel, by decide +kernel⟩, List.mem_of_getElem? (i := 31) (by decide +kernel), List.mem_of_getElem? (i := 436) (by decide +kernel), List.mem_of_getElem? (i := 437) (by decide +kernel)⟩
theorem lw_p4 : lw_okq (⟨"StraightTax$Text", "isSize", "(LStraightTax$Town;)Z"⟩, 9) := ⟨⟨by decide +kernel, by decide +kernel⟩, List.mem_of_getElem? (i := 31) (by decide +kernel), List.mem_of_getElem? (i := 443) (by decide +kernel), List.mem_of_getElem? (i := 444) (by decide +kernel)⟩
theorem lw_p5 : lw_okq (⟨"StraightTax$Text", "isNumber", "(II)Z"⟩, 9) := ⟨⟨by decide +kernel, by decide +kernel⟩, List.mem_of_getElem? (i := 31) (by decide +kernel), List.mem_of_getElem? (i := 447) (by decide +kernel), List.mem_of_getElem? (i := 448) (by decide +kernel)⟩
theorem lw_p6 : lw_okq (⟨"StraightTax$Text", "isThing", "(LStraightTax$Town;I)Z"⟩, 9) := ⟨⟨by decide +kernel, by decide +kernel⟩, List.mem_of_getElem? (i := 31) (by decide +kernel), List.mem_of_getElem? (i := 451) (by decide +kernel), List.mem_of_getElem? (i := 452) (by decide +kernel)⟩
theorem lw_p7 : lw_okq (⟨"StraightTax$Text", "isTax", "(LStraightTax$Town;)Z"⟩, 9) := ⟨⟨by decide +kernel, by decide +kernel⟩, List.mem_of_getElem? (i := 31) (by decide +kernel), List.mem_of_getElem? (i := 461) (by decide +kernel), List.mem_of_getElem? (i := 462) (by decide +kernel)⟩
theorem lw_p8 : lw_okq (⟨"StraightTax$Text", "isDouble", "(LStraightTax$Town;)Z"⟩, 9) := ⟨⟨by decide +kernel, by decide +kernel⟩, List.mem_of_getElem? (i := 31) (by decide +kernel), List.mem_of_getElem? (i := 465) (by decide +kernel), List.mem_of_getElem? (i := 466) (by decide +kernel)⟩
theorem lw_p9 : lw_okq (⟨"StraightTax$Text", "isHaste", "(LStraightTax$Town;)Z"⟩, 9) := ⟨⟨by decide +kernel, by decide +kernel⟩, List.mem_of_getElem? (i := 31) (by decide +kernel), List.mem_of_getElem? (i := 469) (by decide +kernel), List.mem_of_getElem? (i := 470) (by decide +kernel)⟩
theorem lw_p10 : lw_okq (⟨"StraightTax$Text", "isStop", "()Z"⟩, 9) := ⟨⟨by decide +kernel, by decide +kernel⟩, List.mem_of_getElem? (i := 31) (by decide +kernel), List.mem_of_getElem? (i := 473) (by decide +kernel), List.mem_of_getElem? (i := 474) (by decide +kernel)⟩
theorem lw_p11 : lw_okq (⟨"StraightTax", "areEnds", "(II)Z"⟩, 10) := ⟨⟨by decide +kernel, by decide +kernel⟩, List.mem_of_getElem? (i := 23) (by decide +kernel), List.mem_of_getElem? (i := 576) (by decide +kernel), List.mem_of_getElem? (i := 577) (by decide +kernel)⟩
theorem lw_p12 : lw_okq (⟨"StraightTax$Ways", "makesLess", "(I)Z"⟩, 11) := ⟨⟨by decide +kernel, by decide +kernel⟩, List.mem_of_getElem? (i := 261) (by decide +kernel), List.mem_of_getElem? (i := 587) (by decide +kernel), List.mem_of_getElem? (i := 588) (by decide +kernel)⟩
theorem lw_p13 : lw_okq (⟨"StraightTax$Ways", "straightOn", "(III)I"⟩, 11) := ⟨⟨by decide +kernel, by decide +kernel⟩, List.mem_of_getElem? (i := 261) (by decide +kernel), List.mem_of_getElem? (i := 592) (by decide +kernel), List.mem_of_getElem? (i := 593) (by decide +kernel)⟩
theorem lw_p14 : lw_okq (⟨"StraightTax$Ways", "turning", "(II)I"⟩, 11) := ⟨⟨by decide +kernel, by decide +kernel⟩, List.mem_of_getElem? (i := 261) (by decide +kernel), List.mem_of_getElem? (i := 598) (by decide +kernel), List.mem_of_getElem? (i := 599) (by decide +kernel)⟩
theorem lw_p15 : lw_okq (⟨"StraightTax$Ways", "firstOfBest", "(IIII)I"⟩, 11) := ⟨⟨by decide +kernel, by decide +kernel⟩, List.mem_of_getElem? (i := 261) (by decide +kernel), List.mem_of_getElem? (i := 618) (by decide +kernel), List.mem_of_getElem? (i := 619) (by decide +kernel)⟩
def lw_privs_1 : List (MethodName × Nat) := [(⟨"StraightTax$Text", "advance", "()V"⟩, 9), (⟨"StraightTax$Text", "readWord", "()V"⟩, 9), (⟨"StraightTax$Text", "isWord", "(Ljava/lang/String;)Z"⟩, 9), (⟨"StraightTax$Text", "readNumber", "()V"⟩, 9), (⟨"StraightTax$Text", "isSize", "(LStraightTax$Town;)Z"⟩, 9), (⟨"StraightTax$Text", "isNumber", "(II)Z"⟩, 9), (⟨"StraightTax$Text", "isThing", "(LStraightTax$Town;I)Z"⟩, 9), (⟨"StraightTax$Text", "isTax", "(LStraightTax$Town;)Z"⟩, 9), (⟨"StraightTax$Text", "isDouble", "(LStraightTax$Town;)Z"⟩, 9), (⟨"StraightTax$Text", "isHaste", "(LStraightTax$Town;)Z"⟩, 9), (⟨"StraightTax$Text", "isStop", "()Z"⟩, 9), (⟨"StraightTax", "areEnds", "(II)Z"⟩, 10), (⟨"StraightTax$Ways", "makesLess", "(I)Z"⟩, 11), (⟨"StraightTax$Ways", "straightOn", "(III)I"⟩, 11), (⟨"StraightTax$Ways", "turning", "(II)I"⟩, 11), (⟨"StraightTax$Ways", "firstOfBest", "(IIII)I"⟩, 11)]
theorem lw_r1 : ∀ q ∈ lw_privs_1, lw_okq q := List.forall_mem_cons.mpr ⟨lw_p0, List.forall_mem_cons.mpr ⟨lw_p1, List.forall_mem_cons.mpr ⟨lw_p2, List.forall_mem_cons.mpr ⟨lw_p3, List.forall_mem_cons.mpr ⟨lw_p4, List.forall_mem_cons.mpr ⟨lw_p5, List.forall_mem_cons.mpr ⟨lw_p6, List.forall_mem_cons.mpr ⟨lw_p7, List.forall_mem_cons.mpr ⟨lw_p8, List.forall_mem_cons.mpr ⟨lw_p9, List.forall_mem_cons.mpr ⟨lw_p10, List.forall_mem_cons.mpr ⟨lw_p11, List.forall_mem_cons.mpr ⟨lw_p12, List.forall_mem_cons.mpr ⟨lw_p13, List.forall_mem_cons.mpr ⟨lw_p14, List.forall_mem_cons.mpr ⟨lw_p15, fun _ h => absurd h List.not_mem_nil⟩⟩⟩⟩⟩⟩⟩⟩⟩⟩⟩⟩⟩⟩⟩⟩
theorem lw_p16 : lw_okq (⟨"StraightTax$Ways", "comingIn", "(III)I"⟩, 11) := ⟨⟨by decide +kernel, by decide +kernel⟩, List.mem_of_getElem? (i := 261) (by decide +kernel), List.mem_of_getElem? (i := 642) (by decide +kernel), List.mem_of_getElem? (i := 643) (by decide +kernel)⟩
theorem lw_p17 : lw_okq (⟨"StraightTax$Ways", "turned", "(III)I"⟩, 11) := ⟨⟨by decide +kernel, by decide +kernel⟩, List.mem_of_getElem? (i := 261) (by decide +kernel), List.mem_of_getElem? (i := 646) (by decide +kernel), List.mem_of_getElem? (i := 647) (by decide +kernel)⟩
theorem lw_p18 : lw_okq (⟨"StraightTax", "arePlaces", "(I)Z"⟩, 10) := ⟨⟨by decide +kernel, by decide +kernel⟩, List.mem_of_getElem? (i := 23) (by decide +kernel), List.mem_of_getElem? (i := 675) (by decide +kernel), List.mem_of_getElem? (i := 676) (by decide +kernel)⟩
theorem lw_p19 : lw_okq (⟨"StraightTax$Ways", "tourOn", "(II)I"⟩, 11) := ⟨⟨by decide +kernel, by decide +kernel⟩, List.mem_of_getElem? (i := 261) (by decide +kernel), List.mem_of_getElem? (i := 691) (by decide +kernel), List.mem_of_getElem? (i := 692) (by decide +kernel)⟩
theorem lw_p20 : lw_okq (⟨"StraightTax$Ways", "fittingOn", "(IIIII)I"⟩, 11) := ⟨⟨by decide +kernel, by decide +kernel⟩, List.mem_of_getElem? (i := 261) (by decide +kernel), List.mem_of_getElem? (i := 735) (by decide +kernel), List.mem_of_getElem? (i := 736) (by decide +kernel)⟩
theorem lw_p21 : lw_okq (⟨"StraightTaxModel", "isEnd", "()Z"⟩, 35) := ⟨⟨by decide +kernel, by decide +kernel⟩, List.mem_of_getElem? (i := 808) (by decide +kernel), List.mem_of_getElem? (i := 937) (by decide +kernel), List.mem_of_getElem? (i := 938) (by decide +kernel)⟩
theorem lw_p22 : lw_okq (⟨"StraightTaxModel", "takeItem", "()V"⟩, 35) := ⟨⟨by decide +kernel, by decide +kernel⟩, List.mem_of_getElem? (i := 808) (by decide +kernel), List.mem_of_getElem? (i := 941) (by decide +kernel), List.mem_of_getElem? (i := 942) (by decide +kernel)⟩
theorem lw_p23 : lw_okq (⟨"StraightTaxModel", "takeLetters", "()J"⟩, 35) := ⟨⟨by decide +kernel, by decide +kernel⟩, List.mem_of_getElem? (i := 808) (by decide +kernel), List.mem_of_getElem? (i := 945) (by decide +kernel), List.mem_of_getElem? (i := 946) (by decide +kernel)⟩
theorem lw_p24 : lw_okq (⟨"StraightTaxModel", "takeNumber", "(II)I"⟩, 35) := ⟨⟨by decide +kernel, by decide +kernel⟩, List.mem_of_getElem? (i := 808) (by decide +kernel), List.mem_of_getElem? (i := 954) (by decide +kernel), List.mem_of_getElem? (i := 955) (by decide +kernel)⟩
theorem lw_p25 : lw_okq (⟨"StraightTaxModel", "takeSquare", "(Z)V"⟩, 35) := ⟨⟨by decide +kernel, by decide +kernel⟩, List.mem_of_getElem? (i := 808) (by decide +kernel), List.mem_of_getElem? (i := 965) (by decide +kernel), List.mem_of_getElem? (i := 966) (by decide +kernel)⟩
theorem lw_p26 : lw_okq (⟨"StraightTaxModel", "isAgain", "(II)Z"⟩, 35) := ⟨⟨by decide +kernel, by decide +kernel⟩, List.mem_of_getElem? (i := 808) (by decide +kernel), List.mem_of_getElem? (i := 973) (by decide +kernel), List.mem_of_getElem? (i := 974) (by decide +kernel)⟩
theorem lw_p27 : lw_okq (⟨"StraightTaxModel", "isSquare", "(I)Z"⟩, 35) := ⟨⟨by decide +kernel, by decide +kernel⟩, List.mem_of_getElem? (i := 808) (by decide +kernel), List.mem_of_getElem? (i := 983) (by decide +kernel), List.mem_of_getElem? (i := 984) (by decide +kernel)⟩
theorem lw_p28 : lw_okq (⟨"StraightTaxModel", "isOpen", "(I)Z"⟩, 35) := ⟨⟨by decide +kernel, by decide +kernel⟩, List.mem_of_getElem? (i := 808) (by decide +kernel), List.mem_of_getElem? (i := 995) (by decide +kernel), List.mem_of_getElem? (i := 996) (by decide +kernel)⟩
theorem lw_p29 : lw_okq (⟨"StraightTaxModel", "to", "(II)I"⟩, 35) := ⟨⟨by decide +kernel, by decide +kernel⟩, List.mem_of_getElem? (i := 808) (by decide +kernel), List.mem_of_getElem? (i := 1004) (by decide +kernel), List.mem_of_getElem? (i := 1005) (by decide +kernel)⟩
theorem lw_p30 : lw_okq (⟨"StraightTaxModel", "runNow", "()I"⟩, 35) := ⟨⟨by decide +kernel, by decide +kernel⟩, List.mem_of_getElem? (i := 808) (by decide +kernel), List.mem_of_getElem? (i := 1008) (by decide +kernel), List.mem_of_getElem? (i := 1009) (by decide +kernel)⟩
theorem lw_p31 : lw_okq (⟨"StraightTaxModel", "behind", "(II)I"⟩, 35) := ⟨⟨by decide +kernel, by decide +kernel⟩, List.mem_of_getElem? (i := 808) (by decide +kernel), List.mem_of_getElem? (i := 1012) (by decide +kernel), List.mem_of_getElem? (i := 1013) (by decide +kernel)⟩
def lw_privs_2 : List (MethodName × Nat) := [(⟨"StraightTax$Ways", "comingIn", "(III)I"⟩, 11), (⟨"StraightTax$Ways", "turned", "(III)I"⟩, 11), (⟨"StraightTax", "arePlaces", "(I)Z"⟩, 10), (⟨"StraightTax$Ways", "tourOn", "(II)I"⟩, 11), (⟨"StraightTax$Ways", "fittingOn", "(IIIII)I"⟩, 11), (⟨"StraightTaxModel", "isEnd", "()Z"⟩, 35), (⟨"StraightTaxModel", "takeItem", "()V"⟩, 35), (⟨"StraightTaxModel", "takeLetters", "()J"⟩, 35), (⟨"StraightTaxModel", "takeNumber", "(II)I"⟩, 35), (⟨"StraightTaxModel", "takeSquare", "(Z)V"⟩, 35), (⟨"StraightTaxModel", "isAgain", "(II)Z"⟩, 35), (⟨"StraightTaxModel", "isSquare", "(I)Z"⟩, 35), (⟨"StraightTaxModel", "isOpen", "(I)Z"⟩, 35), (⟨"StraightTaxModel", "to", "(II)I"⟩, 35), (⟨"StraightTaxModel", "runNow", "()I"⟩, 35), (⟨"StraightTaxModel", "behind", "(II)I"⟩, 35)]
theorem lw_r2 : ∀ q ∈ lw_privs_2, lw_okq q := List.forall_mem_cons.mpr ⟨lw_p16, List.forall_mem_cons.mpr ⟨lw_p17, List.forall_mem_cons.mpr ⟨lw_p18, List.forall_mem_cons.mpr ⟨lw_p19, List.forall_mem_cons.mpr ⟨lw_p20, List.forall_mem_cons.mpr ⟨lw_p21, List.forall_mem_cons.mpr ⟨lw_p22, List.forall_mem_cons.mpr ⟨lw_p23, List.forall_mem_cons.mpr ⟨lw_p24, List.forall_mem_cons.mpr ⟨lw_p25, List.forall_mem_cons.mpr ⟨lw_p26, List.forall_mem_cons.mpr ⟨lw_p27, List.forall_mem_cons.mpr ⟨lw_p28, List.forall_mem_cons.mpr ⟨lw_p29, List.forall_mem_cons.mpr ⟨lw_p30, List.forall_mem_cons.mpr ⟨lw_p31, fun _ h => absurd h List.not_mem_nil⟩⟩⟩⟩⟩⟩⟩⟩⟩⟩⟩⟩⟩⟩⟩⟩
theorem lw_p32 : lw_okq (⟨"StraightTaxModel", "priceOf", "(I)I"⟩, 35) := ⟨⟨by decide +kernel, by decide +kernel⟩, List.mem_of_getElem? (i := 808) (by decide +kernel), List.mem_of_getElem? (i := 1016) (by decide +kernel), List.mem_of_getElem? (i := 1017) (by decide +kernel)⟩
theorem lw_p33 : lw_okq (⟨"StraightTaxModel", "areOpen", "(II)Z"⟩, 35) := ⟨⟨by decide +kernel, by decide +kernel⟩, List.mem_of_getElem? (i := 808) (by decide +kernel), List.mem_of_getElem? (i := 1042) (by decide +kernel), List.mem_of_getElem? (i := 1043) (by decide +kernel)⟩
theorem lw_p34 : lw_okq (⟨"StraightTaxModel", "findRest", "(II)V"⟩, 35) := ⟨⟨by decide +kernel, by decide +kernel⟩, List.mem_of_getElem? (i := 808) (by decide +kernel), List.mem_of_getElem? (i := 1046) (by decide +kernel), List.mem_of_getElem? (i := 1047) (by decide +kernel)⟩
theorem lw_p35 : lw_okq (⟨"StraightTaxModel", "runBehind", "(II)I"⟩, 35) := ⟨⟨by decide +kernel, by decide +kernel⟩, List.mem_of_getElem? (i := 808) (by decide +kernel), List.mem_of_getElem? (i := 1051) (by decide +kernel), List.mem_of_getElem? (i := 1052) (by decide +kernel)⟩
theorem lw_p36 : lw_okq (⟨"StraightTaxModel", "onward", "(III)I"⟩, 35) := ⟨⟨by decide +kernel, by decide +kernel⟩, List.mem_of_getElem? (i := 808) (by decide +kernel), List.mem_of_getElem? (i := 1055) (by decide +kernel), List.mem_of_getElem? (i := 1056) (by decide +kernel)⟩
theorem lw_p37 : lw_okq (⟨"StraightTaxModel", "isFirst", "(II)Z"⟩, 35) := ⟨⟨by decide +kernel, by decide +kernel⟩, List.mem_of_getElem? (i := 808) (by decide +kernel), List.mem_of_getElem? (i := 1059) (by decide +kernel), List.mem_of_getElem? (i := 1060) (by decide +kernel)⟩
theorem lw_p38 : lw_okq (⟨"StraightTaxModel", "findLine", "(II)V"⟩, 35) := ⟨⟨by decide +kernel, by decide +kernel⟩, List.mem_of_getElem? (i := 808) (by decide +kernel), List.mem_of_getElem? (i := 1067) (by decide +kernel), List.mem_of_getElem? (i := 1068) (by decide +kernel)⟩
theorem lw_p39 : lw_okq (⟨"StraightTaxModel", "costOf", "(III)I"⟩, 35) := ⟨⟨by decide +kernel, by decide +kernel⟩, List.mem_of_getElem? (i := 808) (by decide +kernel), List.mem_of_getElem? (i := 1086) (by decide +kernel), List.mem_of_getElem? (i := 1087) (by decide +kernel)⟩
theorem lw_p40 : lw_okq (⟨"StraightTaxModel", "copy", "(II)V"⟩, 35) := ⟨⟨by decide +kernel, by decide +kernel⟩, List.mem_of_getElem? (i := 808) (by decide +kernel), List.mem_of_getElem? (i := 1120) (by decide +kernel), List.mem_of_getElem? (i := 1121) (by decide +kernel)⟩
def lw_privs_3 : List (MethodName × Nat) := [(⟨"StraightTaxModel", "priceOf", "(I)I"⟩, 35), (⟨"StraightTaxModel", "areOpen", "(II)Z"⟩, 35), (⟨"StraightTaxModel", "findRest", "(II)V"⟩, 35), (⟨"StraightTaxModel", "runBehind", "(II)I"⟩, 35), (⟨"StraightTaxModel", "onward", "(III)I"⟩, 35), (⟨"StraightTaxModel", "isFirst", "(II)Z"⟩, 35), (⟨"StraightTaxModel", "findLine", "(II)V"⟩, 35), (⟨"StraightTaxModel", "costOf", "(III)I"⟩, 35), (⟨"StraightTaxModel", "copy", "(II)V"⟩, 35)]
theorem lw_r3 : ∀ q ∈ lw_privs_3, lw_okq q := List.forall_mem_cons.mpr ⟨lw_p32, List.forall_mem_cons.mpr ⟨lw_p33, List.forall_mem_cons.mpr ⟨lw_p34, List.forall_mem_cons.mpr ⟨lw_p35, List.forall_mem_cons.mpr ⟨lw_p36, List.forall_mem_cons.mpr ⟨lw_p37, List.forall_mem_cons.mpr ⟨lw_p38, List.forall_mem_cons.mpr ⟨lw_p39, List.forall_mem_cons.mpr ⟨lw_p40, fun _ h => absurd h List.not_mem_nil⟩⟩⟩⟩⟩⟩⟩⟩⟩
def lw_privs : List (MethodName × Nat) := lw_privs_1 ++ (lw_privs_2 ++ (lw_privs_3))
def lw_tbl : List Cond := k2_sels lw_privs ++ tables_1
theorem lw_privs_ok : ∀ q ∈ lw_privs, lw_okq q := by
  show ∀ q ∈ lw_privs_1 ++ (lw_privs_2 ++ (lw_privs_3)), lw_okq q
  exact List.forall_mem_append.mpr ⟨lw_r1, List.forall_mem_append.mpr ⟨lw_r2, lw_r3⟩⟩
end
section
def RX0 : String := "StraightTax$Beggar"
def TX0 : u_T := fun k => match k with
  | _ => ("", "", "", false)
def tyX0 : Nat → FieldType := fun k => match k with
  | _ => .int
abbrev wsX00 : List Cond := u_ws RX0 TX0 0
theorem nmX0 : ∀ a, a < 0 → ∀ b, b < 0 → a ≠ b → (TX0 a).2.1 ≠ (TX0 b).2.1 := by decide +kernel
theorem tyX0_ok : ∀ k, k < 0 → parseFieldDescriptor (TX0 k).2.2.1 = some (tyX0 k) := by decide +kernel
def RX1 : String := "StraightTax$Courtier"
def TX1 : u_T := fun k => match k with
  | _ => ("", "", "", false)
def tyX1 : Nat → FieldType := fun k => match k with
  | _ => .int
abbrev wsX10 : List Cond := u_ws RX1 TX1 0
theorem nmX1 : ∀ a, a < 0 → ∀ b, b < 0 → a ≠ b → (TX1 a).2.1 ≠ (TX1 b).2.1 := by decide +kernel
theorem tyX1_ok : ∀ k, k < 0 → parseFieldDescriptor (TX1 k).2.2.1 = some (tyX1 k) := by decide +kernel
def RX2 : String := "StraightTax$Dancer"
def TX2 : u_T := fun k => match k with
  | _ => ("", "", "", false)
def tyX2 : Nat → FieldType := fun k => match k with
  | _ => .int
abbrev wsX20 : List Cond := u_ws RX2 TX2 0
theorem nmX2 : ∀ a, a < 0 → ∀ b, b < 0 → a ≠ b → (TX2 a).2.1 ≠ (TX2 b).2.1 := by decide +kernel
theorem tyX2_ok : ∀ k, k < 0 → parseFieldDescriptor (TX2 k).2.2.1 = some (tyX2 k) := by decide +kernel
def RX3 : String := "StraightTax$Drover"
def TX3 : u_T := fun k => match k with
  | _ => ("", "", "", false)
def tyX3 : Nat → FieldType := fun k => match k with
  | _ => .int
abbrev wsX30 : List Cond := u_ws RX3 TX3 0
theorem nmX3 : ∀ a, a < 0 → ∀ b, b < 0 → a ≠ b → (TX3 a).2.1 ≠ (TX3 b).2.1 := by decide +kernel
theorem tyX3_ok : ∀ k, k < 0 → parseFieldDescriptor (TX3 k).2.2.1 = some (tyX3 k) := by decide +kernel
def RX4 : String := "StraightTax$Errands"
def TX4 : u_T := fun k => match k with
  | 0 => ("StraightTax$Errands", "many", "I", false)
  | 1 => ("StraightTax$Errands", "from", "[I", true)
  | 2 => ("StraightTax$Errands", "to", "[I", true)
  | 3 => ("StraightTax$Errands", "direct", "[I", true)
  | _ => ("StraightTax$Errands", "rests", "[I", true)
def tyX4 : Nat → FieldType := fun k => match k with
  | 0 => .int
  | 1 => .array .int
  | 2 => .array .int
  | 3 => .array .int
  | _ => .array .int
abbrev wsX40 : List Cond := u_ws RX4 TX4 5
theorem nmX4 : ∀ a, a < 5 → ∀ b, b < 5 → a ≠ b → (TX4 a).2.1 ≠ (TX4 b).2.1 := by decide +kernel
theorem tyX4_ok : ∀ k, k < 5 → parseFieldDescriptor (TX4 k).2.2.1 = some (tyX4 k) := by decide +kernel
def RX5 : String := "StraightTax$Lawyer"
def TX5 : u_T := fun k => match k with
  | _ => ("", "", "", false)
def tyX5 : Nat → FieldType := fun k => match k with
  | _ => .int
abbrev wsX50 : List Cond := u_ws RX5 TX5 0
theorem nmX5 : ∀ a, a < 0 → ∀ b, b < 0 → a ≠ b → (TX5 a).2.1 ≠ (TX5 b).2.1 := by decide +kernel
theorem tyX5_ok : ∀ k, k < 0 → parseFieldDescriptor (TX5 k).2.2.1 = some (tyX5 k) := by decide +kernel
def RX6 : String := "StraightTax$Text"
def TX6 : u_T := fun k => match k with
  | 0 => ("StraightTax$Text", "length", "I", false)
  | 1 => ("StraightTax$Text", "bytes", "[B", true)
  | 2 => ("StraightTax$Text", "at", "I", false)
  | 3 => ("StraightTax$Text", "place", "I", false)
  | 4 => ("StraightTax$Text", "token", "I", false)
  | 5 => ("StraightTax$Text", "value", "I", false)
  | 6 => ("StraightTax$Text", "toldTax", "Z", false)
  | 7 => ("StraightTax$Text", "toldDouble", "Z", false)
  | _ => ("StraightTax$Text", "toldHaste", "Z", false)
def tyX6 : Nat → FieldType := fun k => match k with
  | 0 => .int
  | 1 => .array .byte
  | 2 => .int
  | 3 => .int
  | 4 => .int
  | 5 => .int
  | 6 => .boolean
  | 7 => .boolean
  | _ => .boolean
abbrev wsX60 : List Cond := u_ws RX6 TX6 9
theorem nmX6 : ∀ a, a < 9 → ∀ b, b < 9 → a ≠ b → (TX6 a).2.1 ≠ (TX6 b).2.1 := by decide +kernel
theorem tyX6_ok : ∀ k, k < 9 → parseFieldDescriptor (TX6 k).2.2.1 = some (tyX6 k) := by decide +kernel
def RX7 : String := "StraightTax$Town"
def TX7 : u_T := fun k => match k with
  | 0 => ("StraightTax$Town", "wide", "I", false)
  | 1 => ("StraightTax$Town", "high", "I", false)
  | 2 => ("StraightTax$Town", "free", "I", false)
  | 3 => ("StraightTax$Town", "rate", "I", false)
  | 4 => ("StraightTax$Town", "form", "I", false)
  | 5 => ("StraightTax$Town", "doubled", "Z", false)
  | 6 => ("StraightTax$Town", "haste", "I", false)
  | 7 => ("StraightTax$Town", "things", "[I", true)
  | _ => ("StraightTax$Town", "next", "[I", true)
def tyX7 : Nat → FieldType := fun k => match k with
  | 0 => .int
  | 1 => .int
  | 2 => .int
  | 3 => .int
  | 4 => .int
  | 5 => .boolean
  | 6 => .int
  | 7 => .array .int
  | _ => .array .int
abbrev wsX70 : List Cond := u_ws RX7 TX7 9
theorem nmX7 : ∀ a, a < 9 → ∀ b, b < 9 → a ≠ b → (TX7 a).2.1 ≠ (TX7 b).2.1 := by decide +kernel
theorem tyX7_ok : ∀ k, k < 9 → parseFieldDescriptor (TX7 k).2.2.1 = some (tyX7 k) := by decide +kernel
def RX8 : String := "StraightTax$Walk"
def TX8 : u_T := fun k => match k with
  | 0 => ("StraightTax$Walk", "at", "I", false)
  | 1 => ("StraightTax$Walk", "paid", "I", false)
  | 2 => ("StraightTax$Walk", "steps", "I", false)
  | 3 => ("StraightTax$Walk", "night", "Z", false)
  | 4 => ("StraightTax$Walk", "froms", "[I", true)
  | 5 => ("StraightTax$Walk", "directions", "[I", true)
  | 6 => ("StraightTax$Walk", "runs", "[I", true)
  | _ => ("StraightTax$Walk", "fares", "[I", true)
def tyX8 : Nat → FieldType := fun k => match k with
  | 0 => .int
  | 1 => .int
  | 2 => .int
  | 3 => .boolean
  | 4 => .array .int
  | 5 => .array .int
  | 6 => .array .int
  | _ => .array .int
abbrev wsX80 : List Cond := u_ws RX8 TX8 8
theorem nmX8 : ∀ a, a < 8 → ∀ b, b < 8 → a ≠ b → (TX8 a).2.1 ≠ (TX8 b).2.1 := by decide +kernel
theorem tyX8_ok : ∀ k, k < 8 → parseFieldDescriptor (TX8 k).2.2.1 = some (tyX8 k) := by decide +kernel
def RX9 : String := "StraightTax$Walker"
def TX9 : u_T := fun k => match k with
  | _ => ("", "", "", false)
def tyX9 : Nat → FieldType := fun k => match k with
  | _ => .int
abbrev wsX90 : List Cond := u_ws RX9 TX9 0
theorem nmX9 : ∀ a, a < 0 → ∀ b, b < 0 → a ≠ b → (TX9 a).2.1 ≠ (TX9 b).2.1 := by decide +kernel
theorem tyX9_ok : ∀ k, k < 0 → parseFieldDescriptor (TX9 k).2.2.1 = some (tyX9 k) := by decide +kernel
def RX10 : String := "StraightTax$Ways"
def TX10 : u_T := fun k => match k with
  | 0 => ("StraightTax$Ways", "town", "LStraightTax$Town;", false)
  | 1 => ("StraightTax$Ways", "night", "Z", false)
  | 2 => ("StraightTax$Ways", "goal", "I", false)
  | 3 => ("StraightTax$Ways", "sums", "[I", true)
  | 4 => ("StraightTax$Ways", "weights", "[I", true)
  | 5 => ("StraightTax$Ways", "outward", "[I", true)
  | 6 => ("StraightTax$Ways", "onward", "[I", true)
  | 7 => ("StraightTax$Ways", "inward", "[I", true)
  | 8 => ("StraightTax$Ways", "near", "[I", true)
  | 9 => ("StraightTax$Ways", "stops", "[I", true)
  | _ => ("StraightTax$Ways", "legs", "[I", true)
def tyX10 : Nat → FieldType := fun k => match k with
  | 0 => .object "StraightTax$Town"
  | 1 => .boolean
  | 2 => .int
  | 3 => .array .int
  | 4 => .array .int
  | 5 => .array .int
  | 6 => .array .int
  | 7 => .array .int
  | 8 => .array .int
  | 9 => .array .int
  | _ => .array .int
abbrev wsX100 : List Cond := u_ws RX10 TX10 11
theorem nmX10 : ∀ a, a < 11 → ∀ b, b < 11 → a ≠ b → (TX10 a).2.1 ≠ (TX10 b).2.1 := by decide +kernel
theorem tyX10_ok : ∀ k, k < 11 → parseFieldDescriptor (TX10 k).2.2.1 = some (tyX10 k) := by decide +kernel
def RX11 : String := "StraightTax"
def TX11 : u_T := fun k => match k with
  | 0 => ("StraightTax", "text", "LStraightTax$Text;", true)
  | 1 => ("StraightTax", "now", "LStraightTax$Walk;", true)
  | 2 => ("StraightTax", "images", "[LStraightTax$Walk;", true)
  | 3 => ("StraightTax", "kept", "[Z", true)
  | 4 => ("StraightTax", "errands", "LStraightTax$Errands;", true)
  | 5 => ("StraightTax", "kinds", "[LStraightTax$Walker;", true)
  | 6 => ("StraightTax", "ways", "LStraightTax$Ways;", true)
  | 7 => ("StraightTax", "here", "LStraightTax$Town;", false)
  | 8 => ("StraightTax", "spare", "LStraightTax$Town;", false)
  | _ => ("StraightTax", "marks", "J", false)
def tyX11 : Nat → FieldType := fun k => match k with
  | 0 => .object "StraightTax$Text"
  | 1 => .object "StraightTax$Walk"
  | 2 => .array (.object "StraightTax$Walk")
  | 3 => .array .boolean
  | 4 => .object "StraightTax$Errands"
  | 5 => .array (.object "StraightTax$Walker")
  | 6 => .object "StraightTax$Ways"
  | 7 => .object "StraightTax$Town"
  | 8 => .object "StraightTax$Town"
  | _ => .long
abbrev wsX110 : List Cond := u_ws RX11 TX11 10
theorem nmX11 : ∀ a, a < 10 → ∀ b, b < 10 → a ≠ b → (TX11 a).2.1 ≠ (TX11 b).2.1 := by decide +kernel
theorem tyX11_ok : ∀ k, k < 10 → parseFieldDescriptor (TX11 k).2.2.1 = some (tyX11 k) := by decide +kernel
def RX12 : String := "StraightTaxModel"
def TX12 : u_T := fun k => match k with
  | 0 => ("StraightTaxModel", "wide", "I", false)
  | 1 => ("StraightTaxModel", "high", "I", false)
  | 2 => ("StraightTaxModel", "houses", "I", false)
  | 3 => ("StraightTaxModel", "elbows", "I", false)
  | 4 => ("StraightTaxModel", "free", "I", false)
  | 5 => ("StraightTaxModel", "rate", "I", false)
  | 6 => ("StraightTaxModel", "form", "I", false)
  | 7 => ("StraightTaxModel", "doubled", "I", false)
  | 8 => ("StraightTaxModel", "haste", "I", false)
  | 9 => ("StraightTaxModel", "text", "[I", true)
  | 10 => ("StraightTaxModel", "texted", "I", false)
  | 11 => ("StraightTaxModel", "w", "[I", true)
  | 12 => ("StraightTaxModel", "isKept", "[Z", true)
  | 13 => ("StraightTaxModel", "errands", "I", false)
  | 14 => ("StraightTaxModel", "froms", "[I", true)
  | 15 => ("StraightTaxModel", "tos", "[I", true)
  | 16 => ("StraightTaxModel", "trace", "J", false)
  | 17 => ("StraightTaxModel", "readWide", "I", false)
  | 18 => ("StraightTaxModel", "readHigh", "I", false)
  | 19 => ("StraightTaxModel", "readHouses", "I", false)
  | 20 => ("StraightTaxModel", "readElbows", "I", false)
  | 21 => ("StraightTaxModel", "readTax", "[I", true)
  | 22 => ("StraightTaxModel", "toldOnce", "I", false)
  | 23 => ("StraightTaxModel", "items", "I", false)
  | 24 => ("StraightTaxModel", "at", "I", false)
  | 25 => ("StraightTaxModel", "fault", "I", false)
  | 26 => ("StraightTaxModel", "rest", "[I", true)
  | 27 => ("StraightTaxModel", "then", "[I", true)
  | 28 => ("StraightTaxModel", "least", "[I", true)
  | 29 => ("StraightTaxModel", "places", "[I", true)
  | 30 => ("StraightTaxModel", "between", "[I", true)
  | 31 => ("StraightTaxModel", "rounds", "[I", true)
  | 32 => ("StraightTaxModel", "ways", "[I", true)
  | 33 => ("StraightTaxModel", "states", "[I", true)
  | _ => ("StraightTaxModel", "sums", "[I", true)
def tyX12 : Nat → FieldType := fun k => match k with
  | 0 => .int
  | 1 => .int
  | 2 => .int
  | 3 => .int
  | 4 => .int
  | 5 => .int
  | 6 => .int
  | 7 => .int
  | 8 => .int
  | 9 => .array .int
  | 10 => .int
  | 11 => .array .int
  | 12 => .array .boolean
  | 13 => .int
  | 14 => .array .int
  | 15 => .array .int
  | 16 => .long
  | 17 => .int
  | 18 => .int
  | 19 => .int
  | 20 => .int
  | 21 => .array .int
  | 22 => .int
  | 23 => .int
  | 24 => .int
  | 25 => .int
  | 26 => .array .int
  | 27 => .array .int
  | 28 => .array .int
  | 29 => .array .int
  | 30 => .array .int
  | 31 => .array .int
  | 32 => .array .int
  | 33 => .array .int
  | _ => .array .int
abbrev wsX120 : List Cond := u_ws RX12 TX12 35
theorem nmX12 : ∀ a, a < 35 → ∀ b, b < 35 → a ≠ b → (TX12 a).2.1 ≠ (TX12 b).2.1 := by decide +kernel
theorem tyX12_ok : ∀ k, k < 35 → parseFieldDescriptor (TX12 k).2.2.1 = some (tyX12 k) := by decide +kernel
abbrev vwCl : List vw_C := [(RX0, TX0, 0), (RX1, TX1, 0), (RX2, TX2, 0), (RX3, TX3, 0), (RX4, TX4, 5), (RX5, TX5, 0), (RX6, TX6, 9), (RX7, TX7, 9), (RX8, TX8, 8), (RX9, TX9, 0), (RX10, TX10, 11), (RX11, TX11, 10), (RX12, TX12, 35)]
theorem qinX : ∀ (ci : Nat) (q : vw_C), vwCl[ci]? = some q → ∀ w ∈ u_ws q.1 q.2.1 q.2.2, w ∈ lw_tbl ∧ goodWord w = true := by
  intro ci q h
  match ci, h with
  | 0, h => cases h; decide +kernel
  | 1, h => cases h; decide +kernel
  | 2, h => cases h; decide +kernel
  | 3, h => cases h; decide +kernel
  | 4, h => cases h; decide +kernel
  | 5, h => cases h; decide +kernel
  | 6, h => cases h; decide +kernel
  | 7, h => cases h; decide +kernel
  | 8, h => cases h; decide +kernel
  | 9, h => cases h; decide +kernel
  | 10, h => cases h; decide +kernel
  | 11, h => cases h; decide +kernel
  | 12, h => cases h; decide +kernel
  | n + 13, h => simp [vwCl] at h
end
section
def qcn : List String := ["StraightTax$Beggar", "StraightTax$Courtier", "StraightTax$Dancer", "StraightTax$Drover", "StraightTax$Errands", "StraightTax$Lawyer", "StraightTax$Text", "StraightTax$Town", "StraightTax$Walk", "StraightTax$Walker", "StraightTax$Ways", "StraightTax", "StraightTaxModel", "java/lang/String", "java/lang/StringLatin1", "jdk/internal/util/Preconditions", "java/lang/Math", "java/lang/Integer", "java/util/Arrays"]
/-- a method: its class, code, locals, name, answer, how many it takes (the receiver not counted) -/
abbrev QRow : Type := Nat × ByteArray × Nat × MethodName × Option FieldType × Nat
def qr_0 : QRow := (0, prog_2_method_2_code, 2, ⟨"StraightTax$Beggar", "rate", "(LStraightTax;)I"⟩, (some .int), 1)
def qr_1 : QRow := (1, prog_3_method_2_code, 2, ⟨"StraightTax$Courtier", "rate", "(LStraightTax;)I"⟩, (some .int), 1)
def qr_2 : QRow := (2, prog_4_method_2_code, 2, ⟨"StraightTax$Dancer", "rate", "(LStraightTax;)I"⟩, (some .int), 1)
def qr_3 : QRow := (3, prog_5_method_2_code, 2, ⟨"StraightTax$Drover", "rate", "(LStraightTax;)I"⟩, (some .int), 1)
def qr_4 : QRow := (4, prog_6_method_2_code, 3, ⟨"StraightTax$Errands", "add", "(II)Z"⟩, (some .boolean), 2)
def qr_5 : QRow := (4, prog_6_method_3_code, 4, ⟨"StraightTax$Errands", "haveWays", "(LStraightTax$Ways;)Z"⟩, (some .boolean), 1)
def qr_6 : QRow := (4, prog_6_method_4_code, 7, ⟨"StraightTax$Errands", "withElbow", "(ILStraightTax$Ways;)I"⟩, (some .int), 2)
def qr_7 : QRow := (5, prog_7_method_2_code, 2, ⟨"StraightTax$Lawyer", "rate", "(LStraightTax;)I"⟩, (some .int), 1)
def qr_8 : QRow := (6, prog_8_method_2_code, 5, ⟨"StraightTax$Text", "add", "(JI)I"⟩, (some .int), 2)
def qr_9 : QRow := (6, prog_8_method_3_code, 4, ⟨"StraightTax$Text", "tell", "(LStraightTax$Town;)I"⟩, (some .int), 1)
def qr_10 : QRow := (6, prog_8_method_11_code, 1, ⟨"StraightTax$Text", "advance", "()V"⟩, none, 0)
def qr_11 : QRow := (6, prog_8_method_15_code, 1, ⟨"StraightTax$Text", "isLetter", "(B)Z"⟩, (some .boolean), 1)
def qr_12 : QRow := (6, prog_8_method_12_code, 1, ⟨"StraightTax$Text", "readWord", "()V"⟩, none, 0)
def qr_13 : QRow := (6, prog_8_method_13_code, 3, ⟨"StraightTax$Text", "isWord", "(Ljava/lang/String;)Z"⟩, (some .boolean), 1)
def qr_14 : QRow := (6, prog_8_method_16_code, 1, ⟨"StraightTax$Text", "isFigure", "(B)Z"⟩, (some .boolean), 1)
def qr_15 : QRow := (6, prog_8_method_14_code, 2, ⟨"StraightTax$Text", "readNumber", "()V"⟩, none, 0)
def qr_16 : QRow := (6, prog_8_method_4_code, 2, ⟨"StraightTax$Text", "isSize", "(LStraightTax$Town;)Z"⟩, (some .boolean), 1)
def qr_17 : QRow := (6, prog_8_method_9_code, 3, ⟨"StraightTax$Text", "isNumber", "(II)Z"⟩, (some .boolean), 2)
def qr_18 : QRow := (6, prog_8_method_5_code, 5, ⟨"StraightTax$Text", "isThing", "(LStraightTax$Town;I)Z"⟩, (some .boolean), 2)
def qr_19 : QRow := (6, prog_8_method_6_code, 2, ⟨"StraightTax$Text", "isTax", "(LStraightTax$Town;)Z"⟩, (some .boolean), 1)
def qr_20 : QRow := (6, prog_8_method_7_code, 2, ⟨"StraightTax$Text", "isDouble", "(LStraightTax$Town;)Z"⟩, (some .boolean), 1)
def qr_21 : QRow := (6, prog_8_method_8_code, 2, ⟨"StraightTax$Text", "isHaste", "(LStraightTax$Town;)Z"⟩, (some .boolean), 1)
def qr_22 : QRow := (6, prog_8_method_10_code, 1, ⟨"StraightTax$Text", "isStop", "()Z"⟩, (some .boolean), 0)
def qr_23 : QRow := (7, prog_9_method_2_code, 1, ⟨"StraightTax$Town", "begin", "()V"⟩, none, 0)
def qr_24 : QRow := (7, prog_9_method_3_code, 5, ⟨"StraightTax$Town", "join", "()V"⟩, none, 0)
def qr_25 : QRow := (7, prog_9_method_4_code, 3, ⟨"StraightTax$Town", "squareAt", "(II)I"⟩, (some .int), 2)
def qr_26 : QRow := (7, prog_9_method_9_code, 2, ⟨"StraightTax$Town", "isOpen", "(I)Z"⟩, (some .boolean), 1)
def qr_27 : QRow := (7, prog_9_method_6_code, 2, ⟨"StraightTax$Town", "has", "(I)Z"⟩, (some .boolean), 1)
def qr_28 : QRow := (7, prog_9_method_5_code, 1, ⟨"StraightTax$Town", "squares", "()I"⟩, (some .int), 0)
def qr_29 : QRow := (7, prog_9_method_7_code, 2, ⟨"StraightTax$Town", "thingOn", "(I)I"⟩, (some .int), 1)
def qr_30 : QRow := (7, prog_9_method_13_code, 1, ⟨"StraightTax$Town", "isHeld", "(I)Z"⟩, (some .boolean), 1)
def qr_31 : QRow := (7, prog_9_method_8_code, 3, ⟨"StraightTax$Town", "put", "(II)V"⟩, none, 2)
def qr_32 : QRow := (7, prog_9_method_12_code, 3, ⟨"StraightTax$Town", "ahead", "(II)I"⟩, (some .int), 2)
def qr_33 : QRow := (7, prog_9_method_17_code, 5, ⟨"StraightTax$Town", "runOf", "(IIII)I"⟩, (some .int), 4)
def qr_34 : QRow := (7, prog_9_method_10_code, 2, ⟨"StraightTax$Town", "isElbow", "(I)Z"⟩, (some .boolean), 1)
def qr_35 : QRow := (7, prog_9_method_18_code, 5, ⟨"StraightTax$Town", "price", "(IZ)I"⟩, (some .int), 2)
def qr_36 : QRow := (7, prog_9_method_16_code, 6, ⟨"StraightTax$Town", "straightFrom", "(I)I"⟩, (some .int), 1)
def qr_37 : QRow := (7, prog_9_method_14_code, 6, ⟨"StraightTax$Town", "shifted", "(II)I"⟩, (some .int), 2)
def qr_38 : QRow := (7, prog_9_method_15_code, 4, ⟨"StraightTax$Town", "around", "(I)I"⟩, (some .int), 1)
def qr_39 : QRow := (7, prog_9_method_11_code, 4, ⟨"StraightTax$Town", "countOf", "(I)I"⟩, (some .int), 1)
def qr_40 : QRow := (8, prog_10_method_2_code, 1, ⟨"StraightTax$Walk", "leave", "()V"⟩, none, 0)
def qr_41 : QRow := (8, prog_10_method_3_code, 1, ⟨"StraightTax$Walk", "lastDirection", "()I"⟩, (some .int), 0)
def qr_42 : QRow := (8, prog_10_method_4_code, 1, ⟨"StraightTax$Walk", "lastRun", "()I"⟩, (some .int), 0)
def qr_43 : QRow := (8, prog_10_method_5_code, 5, ⟨"StraightTax$Walk", "go", "(IIII)V"⟩, none, 4)
def qr_44 : QRow := (8, prog_10_method_6_code, 1, ⟨"StraightTax$Walk", "takeBack", "()I"⟩, (some .int), 0)
def qr_45 : QRow := (8, prog_10_method_7_code, 2, ⟨"StraightTax$Walk", "become", "(LStraightTax$Walk;)V"⟩, none, 1)
def qr_46 : QRow := (9, prog_11_method_2_code, 2, ⟨"StraightTax$Walker", "rate", "(LStraightTax;)I"⟩, (some .int), 1)
def qr_47 : QRow := (10, prog_12_method_2_code, 4, ⟨"StraightTax$Ways", "look", "(LStraightTax$Town;Z)V"⟩, none, 2)
def qr_48 : QRow := (10, prog_12_method_5_code, 12, ⟨"StraightTax$Ways", "told", "(II)I"⟩, (some .int), 2)
def qr_49 : QRow := (10, prog_12_method_6_code, 6, ⟨"StraightTax$Ways", "aim", "(I)V"⟩, none, 1)
def qr_50 : QRow := (10, prog_12_method_7_code, 5, ⟨"StraightTax$Ways", "makesLess", "(I)Z"⟩, (some .boolean), 1)
def qr_51 : QRow := (10, prog_12_method_8_code, 7, ⟨"StraightTax$Ways", "straightOn", "(III)I"⟩, (some .int), 3)
def qr_52 : QRow := (10, prog_12_method_9_code, 5, ⟨"StraightTax$Ways", "turning", "(II)I"⟩, (some .int), 2)
def qr_53 : QRow := (10, prog_12_method_10_code, 2, ⟨"StraightTax$Ways", "burdenFrom", "(I)I"⟩, (some .int), 1)
def qr_54 : QRow := (10, prog_12_method_3_code, 1, ⟨"StraightTax$Ways", "penceOf", "(I)I"⟩, (some .int), 1)
def qr_55 : QRow := (10, prog_12_method_4_code, 1, ⟨"StraightTax$Ways", "stepsOf", "(I)I"⟩, (some .int), 1)
def qr_56 : QRow := (10, prog_12_method_13_code, 9, ⟨"StraightTax$Ways", "stepAlong", "(II)I"⟩, (some .int), 2)
def qr_57 : QRow := (10, prog_12_method_14_code, 6, ⟨"StraightTax$Ways", "firstOfBest", "(IIII)I"⟩, (some .int), 4)
def qr_58 : QRow := (10, prog_12_method_12_code, 3, ⟨"StraightTax$Ways", "leastPence", "(II)I"⟩, (some .int), 2)
def qr_59 : QRow := (10, prog_12_method_11_code, 3, ⟨"StraightTax$Ways", "penceFrom", "(I)I"⟩, (some .int), 1)
def qr_60 : QRow := (10, prog_12_method_15_code, 6, ⟨"StraightTax$Ways", "leastIn", "(III)I"⟩, (some .int), 3)
def qr_61 : QRow := (10, prog_12_method_16_code, 7, ⟨"StraightTax$Ways", "comingIn", "(III)I"⟩, (some .int), 3)
def qr_62 : QRow := (10, prog_12_method_17_code, 7, ⟨"StraightTax$Ways", "turned", "(III)I"⟩, (some .int), 3)
def qr_63 : QRow := (10, prog_12_method_18_code, 7, ⟨"StraightTax$Ways", "tour", "(II)I"⟩, (some .int), 2)
def qr_64 : QRow := (10, prog_12_method_19_code, 6, ⟨"StraightTax$Ways", "tourOn", "(II)I"⟩, (some .int), 2)
def qr_65 : QRow := (10, prog_12_method_20_code, 6, ⟨"StraightTax$Ways", "fitting", "(IIII)I"⟩, (some .int), 4)
def qr_66 : QRow := (10, prog_12_method_21_code, 10, ⟨"StraightTax$Ways", "fittingOn", "(IIIII)I"⟩, (some .int), 5)
def qr_67 : QRow := (11, prog_1_method_2_code, 4, ⟨"StraightTax", "type", "(JI)I"⟩, (some .int), 2)
def qr_68 : QRow := (11, prog_1_method_3_code, 2, ⟨"StraightTax", "clear", "()I"⟩, (some .int), 0)
def qr_69 : QRow := (11, prog_1_method_4_code, 4, ⟨"StraightTax", "town", "()I"⟩, (some .int), 0)
def qr_70 : QRow := (11, prog_1_method_5_code, 2, ⟨"StraightTax", "square", "(I)I"⟩, (some .int), 1)
def qr_71 : QRow := (11, prog_1_method_6_code, 2, ⟨"StraightTax", "law", "(I)I"⟩, (some .int), 1)
def qr_72 : QRow := (11, prog_1_method_7_code, 2, ⟨"StraightTax", "stand", "(I)I"⟩, (some .int), 1)
def qr_73 : QRow := (11, prog_1_method_8_code, 5, ⟨"StraightTax", "step", "(I)I"⟩, (some .int), 1)
def qr_74 : QRow := (11, prog_1_method_27_code, 1, ⟨"StraightTax", "isDirection", "(I)Z"⟩, (some .boolean), 1)
def qr_75 : QRow := (11, prog_1_method_9_code, 1, ⟨"StraightTax", "undo", "()I"⟩, (some .int), 0)
def qr_76 : QRow := (11, prog_1_method_10_code, 2, ⟨"StraightTax", "one", "(I)I"⟩, (some .int), 1)
def qr_77 : QRow := (11, prog_1_method_11_code, 3, ⟨"StraightTax", "dusk", "(I)I"⟩, (some .int), 1)
def qr_78 : QRow := (11, prog_1_method_28_code, 1, ⟨"StraightTax", "isFlag", "(I)Z"⟩, (some .boolean), 1)
def qr_79 : QRow := (11, prog_1_method_12_code, 3, ⟨"StraightTax", "cost", "(II)I"⟩, (some .int), 2)
def qr_80 : QRow := (11, prog_1_method_32_code, 3, ⟨"StraightTax", "areFigures", "(I)Z"⟩, (some .boolean), 1)
def qr_81 : QRow := (11, prog_1_method_13_code, 5, ⟨"StraightTax", "cheapest", "(III)I"⟩, (some .int), 3)
def qr_82 : QRow := (11, prog_1_method_31_code, 3, ⟨"StraightTax", "areEnds", "(II)Z"⟩, (some .boolean), 2)
def qr_83 : QRow := (11, prog_1_method_14_code, 6, ⟨"StraightTax", "quickest", "(III)I"⟩, (some .int), 3)
def qr_84 : QRow := (11, prog_1_method_15_code, 10, ⟨"StraightTax", "line", "(IIII)I"⟩, (some .int), 4)
def qr_85 : QRow := (11, prog_1_method_16_code, 6, ⟨"StraightTax", "fewTurns", "(II)I"⟩, (some .int), 2)
def qr_86 : QRow := (11, prog_1_method_30_code, 2, ⟨"StraightTax", "isIn", "(II)Z"⟩, (some .boolean), 2)
def qr_87 : QRow := (11, prog_1_method_17_code, 3, ⟨"StraightTax", "round", "(II)I"⟩, (some .int), 2)
def qr_88 : QRow := (11, prog_1_method_33_code, 3, ⟨"StraightTax", "arePlaces", "(I)Z"⟩, (some .boolean), 1)
def qr_89 : QRow := (11, prog_1_method_18_code, 3, ⟨"StraightTax", "errand", "(II)I"⟩, (some .int), 2)
def qr_90 : QRow := (11, prog_1_method_19_code, 2, ⟨"StraightTax", "home", "()I"⟩, (some .int), 0)
def qr_91 : QRow := (11, prog_1_method_20_code, 6, ⟨"StraightTax", "help", "(I)I"⟩, (some .int), 1)
def qr_92 : QRow := (11, prog_1_method_21_code, 5, ⟨"StraightTax", "fits", "(IIII)I"⟩, (some .int), 4)
def qr_93 : QRow := (11, prog_1_method_22_code, 2, ⟨"StraightTax", "rating", "(I)I"⟩, (some .int), 1)
def qr_94 : QRow := (11, prog_1_method_23_code, 2, ⟨"StraightTax", "keep", "(I)I"⟩, (some .int), 1)
def qr_95 : QRow := (11, prog_1_method_29_code, 1, ⟨"StraightTax", "isImage", "(I)Z"⟩, (some .boolean), 1)
def qr_96 : QRow := (11, prog_1_method_24_code, 2, ⟨"StraightTax", "back", "(I)I"⟩, (some .int), 1)
def qr_97 : QRow := (11, prog_1_method_25_code, 2, ⟨"StraightTax", "count", "(I)I"⟩, (some .int), 1)
def qr_98 : QRow := (11, prog_1_method_26_code, 1, ⟨"StraightTax", "trace", "()J"⟩, (some .long), 0)
def qr_99 : QRow := (12, prog_14_method_9_code, 5, ⟨"StraightTaxModel", "type", "(JI)I"⟩, (some .int), 2)
def qr_100 : QRow := (12, prog_14_method_3_code, 6, ⟨"StraightTaxModel", "in", "(JJJ)Z"⟩, (some .boolean), 3)
def qr_101 : QRow := (12, prog_14_method_10_code, 2, ⟨"StraightTaxModel", "clear", "()I"⟩, (some .int), 0)
def qr_102 : QRow := (12, prog_14_method_17_code, 1, ⟨"StraightTaxModel", "town", "()I"⟩, (some .int), 0)
def qr_103 : QRow := (12, prog_14_method_11_code, 1, ⟨"StraightTaxModel", "isEnd", "()Z"⟩, (some .boolean), 0)
def qr_104 : QRow := (12, prog_14_method_16_code, 4, ⟨"StraightTaxModel", "takeItem", "()V"⟩, none, 0)
def qr_105 : QRow := (12, prog_14_method_13_code, 4, ⟨"StraightTaxModel", "takeLetters", "()J"⟩, (some .long), 0)
def qr_106 : QRow := (12, prog_14_method_12_code, 6, ⟨"StraightTaxModel", "takeNumber", "(II)I"⟩, (some .int), 2)
def qr_107 : QRow := (12, prog_14_method_6_code, 2, ⟨"StraightTaxModel", "lesser", "(II)I"⟩, (some .int), 2)
def qr_108 : QRow := (12, prog_14_method_14_code, 5, ⟨"StraightTaxModel", "takeSquare", "(Z)V"⟩, none, 1)
def qr_109 : QRow := (12, prog_14_method_4_code, 2, ⟨"StraightTaxModel", "has", "(II)Z"⟩, (some .boolean), 2)
def qr_110 : QRow := (12, prog_14_method_15_code, 4, ⟨"StraightTaxModel", "isAgain", "(II)Z"⟩, (some .boolean), 2)
def qr_111 : QRow := (12, prog_14_method_18_code, 2, ⟨"StraightTaxModel", "square", "(I)I"⟩, (some .int), 1)
def qr_112 : QRow := (12, prog_14_method_7_code, 2, ⟨"StraightTaxModel", "isSquare", "(I)Z"⟩, (some .boolean), 1)
def qr_113 : QRow := (12, prog_14_method_19_code, 2, ⟨"StraightTaxModel", "law", "(I)I"⟩, (some .int), 1)
def qr_114 : QRow := (12, prog_14_method_24_code, 2, ⟨"StraightTaxModel", "stand", "(I)I"⟩, (some .int), 1)
def qr_115 : QRow := (12, prog_14_method_8_code, 2, ⟨"StraightTaxModel", "isOpen", "(I)Z"⟩, (some .boolean), 1)
def qr_116 : QRow := (12, prog_14_method_25_code, 6, ⟨"StraightTaxModel", "step", "(I)I"⟩, (some .int), 1)
def qr_117 : QRow := (12, prog_14_method_20_code, 6, ⟨"StraightTaxModel", "to", "(II)I"⟩, (some .int), 2)
def qr_118 : QRow := (12, prog_14_method_22_code, 5, ⟨"StraightTaxModel", "runNow", "()I"⟩, (some .int), 0)
def qr_119 : QRow := (12, prog_14_method_23_code, 3, ⟨"StraightTaxModel", "behind", "(II)I"⟩, (some .int), 2)
def qr_120 : QRow := (12, prog_14_method_21_code, 4, ⟨"StraightTaxModel", "priceOf", "(I)I"⟩, (some .int), 1)
def qr_121 : QRow := (12, prog_14_method_26_code, 2, ⟨"StraightTaxModel", "undo", "()I"⟩, (some .int), 0)
def qr_122 : QRow := (12, prog_14_method_27_code, 2, ⟨"StraightTaxModel", "one", "(I)I"⟩, (some .int), 1)
def qr_123 : QRow := (12, prog_14_method_28_code, 3, ⟨"StraightTaxModel", "dusk", "(I)I"⟩, (some .int), 1)
def qr_124 : QRow := (12, prog_14_method_29_code, 10, ⟨"StraightTaxModel", "cost", "(II)I"⟩, (some .int), 2)
def qr_125 : QRow := (12, prog_14_method_34_code, 8, ⟨"StraightTaxModel", "cheapest", "(III)I"⟩, (some .int), 3)
def qr_126 : QRow := (12, prog_14_method_33_code, 3, ⟨"StraightTaxModel", "areOpen", "(II)Z"⟩, (some .boolean), 2)
def qr_127 : QRow := (12, prog_14_method_32_code, 10, ⟨"StraightTaxModel", "findRest", "(II)V"⟩, none, 2)
def qr_128 : QRow := (12, prog_14_method_31_code, 4, ⟨"StraightTaxModel", "runBehind", "(II)I"⟩, (some .int), 2)
def qr_129 : QRow := (12, prog_14_method_30_code, 8, ⟨"StraightTaxModel", "onward", "(III)I"⟩, (some .int), 3)
def qr_130 : QRow := (12, prog_14_method_35_code, 5, ⟨"StraightTaxModel", "isFirst", "(II)Z"⟩, (some .boolean), 2)
def qr_131 : QRow := (12, prog_14_method_37_code, 5, ⟨"StraightTaxModel", "quickest", "(III)I"⟩, (some .int), 3)
def qr_132 : QRow := (12, prog_14_method_36_code, 9, ⟨"StraightTaxModel", "findLine", "(II)V"⟩, none, 2)
def qr_133 : QRow := (12, prog_14_method_38_code, 8, ⟨"StraightTaxModel", "line", "(IIII)I"⟩, (some .int), 4)
def qr_134 : QRow := (12, prog_14_method_39_code, 9, ⟨"StraightTaxModel", "fewTurns", "(II)I"⟩, (some .int), 2)
def qr_135 : QRow := (12, prog_14_method_41_code, 8, ⟨"StraightTaxModel", "round", "(II)I"⟩, (some .int), 2)
def qr_136 : QRow := (12, prog_14_method_5_code, 3, ⟨"StraightTaxModel", "ones", "(I)I"⟩, (some .int), 1)
def qr_137 : QRow := (12, prog_14_method_40_code, 5, ⟨"StraightTaxModel", "costOf", "(III)I"⟩, (some .int), 3)
def qr_138 : QRow := (12, prog_14_method_42_code, 3, ⟨"StraightTaxModel", "errand", "(II)I"⟩, (some .int), 2)
def qr_139 : QRow := (12, prog_14_method_43_code, 2, ⟨"StraightTaxModel", "home", "()I"⟩, (some .int), 0)
def qr_140 : QRow := (12, prog_14_method_44_code, 7, ⟨"StraightTaxModel", "help", "(I)I"⟩, (some .int), 1)
def qr_141 : QRow := (12, prog_14_method_45_code, 9, ⟨"StraightTaxModel", "fits", "(IIII)I"⟩, (some .int), 4)
def qr_142 : QRow := (12, prog_14_method_46_code, 2, ⟨"StraightTaxModel", "rating", "(I)I"⟩, (some .int), 1)
def qr_143 : QRow := (12, prog_14_method_48_code, 2, ⟨"StraightTaxModel", "keep", "(I)I"⟩, (some .int), 1)
def qr_144 : QRow := (12, prog_14_method_47_code, 4, ⟨"StraightTaxModel", "copy", "(II)V"⟩, none, 2)
def qr_145 : QRow := (12, prog_14_method_49_code, 2, ⟨"StraightTaxModel", "back", "(I)I"⟩, (some .int), 1)
def qr_146 : QRow := (12, prog_14_method_50_code, 2, ⟨"StraightTaxModel", "count", "(I)I"⟩, (some .int), 1)
def qr_147 : QRow := (12, prog_14_method_51_code, 1, ⟨"StraightTaxModel", "trace", "()J"⟩, (some .long), 0)
def qr_148 : QRow := (13, prog_17_method_54_code, 1, ⟨"java/lang/String", "length", "()I"⟩, (some .int), 0)
def qr_149 : QRow := (13, prog_17_method_152_code, 1, ⟨"java/lang/String", "coder", "()B"⟩, (some .byte), 0)
def qr_150 : QRow := (13, prog_17_method_56_code, 2, ⟨"java/lang/String", "charAt", "(I)C"⟩, (some .char), 1)
def qr_151 : QRow := (13, prog_17_method_154_code, 1, ⟨"java/lang/String", "isLatin1", "()Z"⟩, (some .boolean), 0)
def qr_152 : QRow := (13, prog_17_method_155_code, 2, ⟨"java/lang/String", "checkIndex", "(II)V"⟩, none, 2)
def qr_153 : QRow := (14, prog_18_method_2_code, 2, ⟨"java/lang/StringLatin1", "charAt", "([BI)C"⟩, (some .char), 2)
def qr_154 : QRow := (15, prog_22_method_11_code, 3, ⟨"jdk/internal/util/Preconditions", "checkIndex", "(IILjava/util/function/BiFunction;)I"⟩, (some .int), 3)
def qr_155 : QRow := (16, prog_16_method_69_code, 2, ⟨"java/lang/Math", "min", "(II)I"⟩, (some .int), 2)
def qr_156 : QRow := (16, prog_16_method_65_code, 2, ⟨"java/lang/Math", "max", "(II)I"⟩, (some .int), 2)
def qr_157 : QRow := (17, prog_15_method_49_code, 1, ⟨"java/lang/Integer", "bitCount", "(I)I"⟩, (some .int), 1)
def qr_158 : QRow := (18, prog_21_method_103_code, 4, ⟨"java/util/Arrays", "fill", "([II)V"⟩, none, 2)
def qmt : List QRow := [qr_0, qr_1, qr_2, qr_3, qr_4, qr_5, qr_6, qr_7, qr_8, qr_9, qr_10, qr_11, qr_12, qr_13, qr_14, qr_15, qr_16, qr_17, qr_18, qr_19, qr_20, qr_21, qr_22, qr_23, qr_24, qr_25, qr_26, qr_27, qr_28, qr_29, qr_30, qr_31, qr_32, qr_33, qr_34, qr_35, qr_36, qr_37, qr_38, qr_39, qr_40, qr_41, qr_42, qr_43, qr_44, qr_45, qr_46, qr_47, qr_48, qr_49, qr_50, qr_51, qr_52, qr_53, qr_54, qr_55, qr_56, qr_57, qr_58, qr_59, qr_60, qr_61, qr_62, qr_63, qr_64, qr_65, qr_66, qr_67, qr_68, qr_69, qr_70, qr_71, qr_72, qr_73, qr_74, qr_75, qr_76, qr_77, qr_78, qr_79, qr_80, qr_81, qr_82, qr_83, qr_84, qr_85, qr_86, qr_87, qr_88, qr_89, qr_90, qr_91, qr_92, qr_93, qr_94, qr_95, qr_96, qr_97, qr_98, qr_99, qr_100, qr_101, qr_102, qr_103, qr_104, qr_105, qr_106, qr_107, qr_108, qr_109, qr_110, qr_111, qr_112, qr_113, qr_114, qr_115, qr_116, qr_117, qr_118, qr_119, qr_120, qr_121, qr_122, qr_123, qr_124, qr_125, qr_126, qr_127, qr_128, qr_129, qr_130, qr_131, qr_132, qr_133, qr_134, qr_135, qr_136, qr_137, qr_138, qr_139, qr_140, qr_141, qr_142, qr_143, qr_144, qr_145, qr_146, qr_147, qr_148, qr_149, qr_150, qr_151, qr_152, qr_153, qr_154, qr_155, qr_156, qr_157, qr_158]
set_option maxRecDepth 20000 in
theorem qi_0 : Cond.code qr_0.2.2.2.1 qr_0.2.1 qr_0.2.2.1 qr_0.2.2.2.2.1 ∈ lw_tbl := List.mem_of_getElem? (i := 789) rfl
set_option maxRecDepth 20000 in
theorem qi_1 : Cond.code qr_1.2.2.2.1 qr_1.2.1 qr_1.2.2.1 qr_1.2.2.2.2.1 ∈ lw_tbl := List.mem_of_getElem? (i := 794) rfl
set_option maxRecDepth 20000 in
theorem qi_2 : Cond.code qr_2.2.2.2.1 qr_2.2.1 qr_2.2.2.1 qr_2.2.2.2.2.1 ∈ lw_tbl := List.mem_of_getElem? (i := 800) rfl
set_option maxRecDepth 20000 in
theorem qi_3 : Cond.code qr_3.2.2.2.1 qr_3.2.1 qr_3.2.2.1 qr_3.2.2.2.2.1 ∈ lw_tbl := List.mem_of_getElem? (i := 804) rfl
set_option maxRecDepth 20000 in
theorem qi_4 : Cond.code qr_4.2.2.2.1 qr_4.2.1 qr_4.2.2.1 qr_4.2.2.2.2.1 ∈ lw_tbl := List.mem_of_getElem? (i := 742) rfl
set_option maxRecDepth 20000 in
theorem qi_5 : Cond.code qr_5.2.2.2.1 qr_5.2.1 qr_5.2.2.1 qr_5.2.2.2.2.1 ∈ lw_tbl := List.mem_of_getElem? (i := 754) rfl
set_option maxRecDepth 20000 in
theorem qi_6 : Cond.code qr_6.2.2.2.1 qr_6.2.1 qr_6.2.2.1 qr_6.2.2.2.2.1 ∈ lw_tbl := List.mem_of_getElem? (i := 761) rfl
set_option maxRecDepth 20000 in
theorem qi_7 : Cond.code qr_7.2.2.2.1 qr_7.2.1 qr_7.2.2.1 qr_7.2.2.2.2.1 ∈ lw_tbl := List.mem_of_getElem? (i := 810) rfl
set_option maxRecDepth 20000 in
theorem qi_8 : Cond.code qr_8.2.2.2.1 qr_8.2.1 qr_8.2.2.1 qr_8.2.2.2.2.1 ∈ lw_tbl := List.mem_of_getElem? (i := 390) rfl
set_option maxRecDepth 20000 in
theorem qi_9 : Cond.code qr_9.2.2.2.1 qr_9.2.1 qr_9.2.2.1 qr_9.2.2.2.2.1 ∈ lw_tbl := List.mem_of_getElem? (i := 402) rfl
set_option maxRecDepth 20000 in
theorem qi_10 : Cond.code qr_10.2.2.2.1 qr_10.2.1 qr_10.2.2.1 qr_10.2.2.2.2.1 ∈ lw_tbl := List.mem_of_getElem? (i := 407) rfl
set_option maxRecDepth 20000 in
theorem qi_11 : Cond.code qr_11.2.2.2.1 qr_11.2.1 qr_11.2.2.1 qr_11.2.2.2.2.1 ∈ lw_tbl := List.mem_of_getElem? (i := 410) rfl
set_option maxRecDepth 20000 in
theorem qi_12 : Cond.code qr_12.2.2.2.1 qr_12.2.1 qr_12.2.2.1 qr_12.2.2.2.2.1 ∈ lw_tbl := List.mem_of_getElem? (i := 414) rfl
set_option maxRecDepth 20000 in
theorem qi_13 : Cond.code qr_13.2.2.2.1 qr_13.2.1 qr_13.2.2.1 qr_13.2.2.2.2.1 ∈ lw_tbl := List.mem_of_getElem? (i := 419) rfl
set_option maxRecDepth 20000 in
theorem qi_14 : Cond.code qr_14.2.2.2.1 qr_14.2.1 qr_14.2.2.1 qr_14.2.2.2.2.1 ∈ lw_tbl := List.mem_of_getElem? (i := 475) rfl
set_option maxRecDepth 20000 in
theorem qi_15 : Cond.code qr_15.2.2.2.1 qr_15.2.1 qr_15.2.2.1 qr_15.2.2.2.2.1 ∈ lw_tbl := List.mem_of_getElem? (i := 479) rfl
set_option maxRecDepth 20000 in
theorem qi_16 : Cond.code qr_16.2.2.2.1 qr_16.2.1 qr_16.2.2.1 qr_16.2.2.2.2.1 ∈ lw_tbl := List.mem_of_getElem? (i := 486) rfl
set_option maxRecDepth 20000 in
theorem qi_17 : Cond.code qr_17.2.2.2.1 qr_17.2.1 qr_17.2.2.1 qr_17.2.2.2.2.1 ∈ lw_tbl := List.mem_of_getElem? (i := 490) rfl
set_option maxRecDepth 20000 in
theorem qi_18 : Cond.code qr_18.2.2.2.1 qr_18.2.1 qr_18.2.2.1 qr_18.2.2.2.2.1 ∈ lw_tbl := List.mem_of_getElem? (i := 494) rfl
set_option maxRecDepth 20000 in
theorem qi_19 : Cond.code qr_19.2.2.2.1 qr_19.2.1 qr_19.2.2.1 qr_19.2.2.2.2.1 ∈ lw_tbl := List.mem_of_getElem? (i := 504) rfl
set_option maxRecDepth 20000 in
theorem qi_20 : Cond.code qr_20.2.2.2.1 qr_20.2.1 qr_20.2.2.1 qr_20.2.2.2.2.1 ∈ lw_tbl := List.mem_of_getElem? (i := 508) rfl
set_option maxRecDepth 20000 in
theorem qi_21 : Cond.code qr_21.2.2.2.1 qr_21.2.1 qr_21.2.2.1 qr_21.2.2.2.2.1 ∈ lw_tbl := List.mem_of_getElem? (i := 512) rfl
set_option maxRecDepth 20000 in
theorem qi_22 : Cond.code qr_22.2.2.2.1 qr_22.2.1 qr_22.2.2.1 qr_22.2.2.2.2.1 ∈ lw_tbl := List.mem_of_getElem? (i := 516) rfl
set_option maxRecDepth 20000 in
theorem qi_23 : Cond.code qr_23.2.2.2.1 qr_23.2.1 qr_23.2.2.1 qr_23.2.2.2.2.1 ∈ lw_tbl := List.mem_of_getElem? (i := 183) rfl
set_option maxRecDepth 20000 in
theorem qi_24 : Cond.code qr_24.2.2.2.1 qr_24.2.1 qr_24.2.2.1 qr_24.2.2.2.2.1 ∈ lw_tbl := List.mem_of_getElem? (i := 190) rfl
set_option maxRecDepth 20000 in
theorem qi_25 : Cond.code qr_25.2.2.2.1 qr_25.2.1 qr_25.2.2.1 qr_25.2.2.2.2.1 ∈ lw_tbl := List.mem_of_getElem? (i := 198) rfl
set_option maxRecDepth 20000 in
theorem qi_26 : Cond.code qr_26.2.2.2.1 qr_26.2.1 qr_26.2.2.1 qr_26.2.2.2.2.1 ∈ lw_tbl := List.mem_of_getElem? (i := 202) rfl
set_option maxRecDepth 20000 in
theorem qi_27 : Cond.code qr_27.2.2.2.1 qr_27.2.1 qr_27.2.2.1 qr_27.2.2.2.2.1 ∈ lw_tbl := List.mem_of_getElem? (i := 206) rfl
set_option maxRecDepth 20000 in
theorem qi_28 : Cond.code qr_28.2.2.2.1 qr_28.2.1 qr_28.2.2.1 qr_28.2.2.2.2.1 ∈ lw_tbl := List.mem_of_getElem? (i := 210) rfl
set_option maxRecDepth 20000 in
theorem qi_29 : Cond.code qr_29.2.2.2.1 qr_29.2.1 qr_29.2.2.1 qr_29.2.2.2.2.1 ∈ lw_tbl := List.mem_of_getElem? (i := 214) rfl
set_option maxRecDepth 20000 in
theorem qi_30 : Cond.code qr_30.2.2.2.1 qr_30.2.1 qr_30.2.2.1 qr_30.2.2.2.2.1 ∈ lw_tbl := List.mem_of_getElem? (i := 217) rfl
set_option maxRecDepth 20000 in
theorem qi_31 : Cond.code qr_31.2.2.2.1 qr_31.2.1 qr_31.2.2.1 qr_31.2.2.2.2.1 ∈ lw_tbl := List.mem_of_getElem? (i := 500) rfl
set_option maxRecDepth 20000 in
theorem qi_32 : Cond.code qr_32.2.2.2.1 qr_32.2.1 qr_32.2.2.1 qr_32.2.2.2.2.1 ∈ lw_tbl := List.mem_of_getElem? (i := 547) rfl
set_option maxRecDepth 20000 in
theorem qi_33 : Cond.code qr_33.2.2.2.1 qr_33.2.1 qr_33.2.2.1 qr_33.2.2.2.2.1 ∈ lw_tbl := List.mem_of_getElem? (i := 560) rfl
set_option maxRecDepth 20000 in
theorem qi_34 : Cond.code qr_34.2.2.2.1 qr_34.2.1 qr_34.2.2.1 qr_34.2.2.2.2.1 ∈ lw_tbl := List.mem_of_getElem? (i := 564) rfl
set_option maxRecDepth 20000 in
theorem qi_35 : Cond.code qr_35.2.2.2.1 qr_35.2.1 qr_35.2.2.1 qr_35.2.2.2.2.1 ∈ lw_tbl := List.mem_of_getElem? (i := 568) rfl
set_option maxRecDepth 20000 in
theorem qi_36 : Cond.code qr_36.2.2.2.1 qr_36.2.1 qr_36.2.2.1 qr_36.2.2.2.2.1 ∈ lw_tbl := List.mem_of_getElem? (i := 701) rfl
set_option maxRecDepth 20000 in
theorem qi_37 : Cond.code qr_37.2.2.2.1 qr_37.2.1 qr_37.2.2.1 qr_37.2.2.2.2.1 ∈ lw_tbl := List.mem_of_getElem? (i := 705) rfl
set_option maxRecDepth 20000 in
theorem qi_38 : Cond.code qr_38.2.2.2.1 qr_38.2.1 qr_38.2.2.1 qr_38.2.2.2.2.1 ∈ lw_tbl := List.mem_of_getElem? (i := 774) rfl
set_option maxRecDepth 20000 in
theorem qi_39 : Cond.code qr_39.2.2.2.1 qr_39.2.1 qr_39.2.2.1 qr_39.2.2.2.2.1 ∈ lw_tbl := List.mem_of_getElem? (i := 843) rfl
set_option maxRecDepth 20000 in
theorem qi_40 : Cond.code qr_40.2.2.2.1 qr_40.2.1 qr_40.2.2.1 qr_40.2.2.2.2.1 ∈ lw_tbl := List.mem_of_getElem? (i := 521) rfl
set_option maxRecDepth 20000 in
theorem qi_41 : Cond.code qr_41.2.2.2.1 qr_41.2.1 qr_41.2.2.1 qr_41.2.2.2.2.1 ∈ lw_tbl := List.mem_of_getElem? (i := 552) rfl
set_option maxRecDepth 20000 in
theorem qi_42 : Cond.code qr_42.2.2.2.1 qr_42.2.1 qr_42.2.2.1 qr_42.2.2.2.2.1 ∈ lw_tbl := List.mem_of_getElem? (i := 556) rfl
set_option maxRecDepth 20000 in
theorem qi_43 : Cond.code qr_43.2.2.2.1 qr_43.2.1 qr_43.2.2.1 qr_43.2.2.2.2.1 ∈ lw_tbl := List.mem_of_getElem? (i := 572) rfl
set_option maxRecDepth 20000 in
theorem qi_44 : Cond.code qr_44.2.2.2.1 qr_44.2.1 qr_44.2.2.1 qr_44.2.2.2.2.1 ∈ lw_tbl := List.mem_of_getElem? (i := 580) rfl
set_option maxRecDepth 20000 in
theorem qi_45 : Cond.code qr_45.2.2.2.1 qr_45.2.1 qr_45.2.2.1 qr_45.2.2.2.2.1 ∈ lw_tbl := List.mem_of_getElem? (i := 828) rfl
set_option maxRecDepth 20000 in
theorem qi_46 : Cond.code qr_46.2.2.2.1 qr_46.2.1 qr_46.2.2.1 qr_46.2.2.2.2.1 ∈ lw_tbl := List.mem_of_getElem? (i := 816) rfl
set_option maxRecDepth 20000 in
theorem qi_47 : Cond.code qr_47.2.2.2.1 qr_47.2.1 qr_47.2.2.1 qr_47.2.2.2.2.1 ∈ lw_tbl := List.mem_of_getElem? (i := 603) rfl
set_option maxRecDepth 20000 in
theorem qi_48 : Cond.code qr_48.2.2.2.1 qr_48.2.1 qr_48.2.2.1 qr_48.2.2.2.2.1 ∈ lw_tbl := List.mem_of_getElem? (i := 608) rfl
set_option maxRecDepth 20000 in
theorem qi_49 : Cond.code qr_49.2.2.2.1 qr_49.2.1 qr_49.2.2.1 qr_49.2.2.2.2.1 ∈ lw_tbl := List.mem_of_getElem? (i := 623) rfl
set_option maxRecDepth 20000 in
theorem qi_50 : Cond.code qr_50.2.2.2.1 qr_50.2.1 qr_50.2.2.1 qr_50.2.2.2.2.1 ∈ lw_tbl := List.mem_of_getElem? (i := 630) rfl
set_option maxRecDepth 20000 in
theorem qi_51 : Cond.code qr_51.2.2.2.1 qr_51.2.1 qr_51.2.2.1 qr_51.2.2.2.2.1 ∈ lw_tbl := List.mem_of_getElem? (i := 635) rfl
set_option maxRecDepth 20000 in
theorem qi_52 : Cond.code qr_52.2.2.2.1 qr_52.2.1 qr_52.2.2.1 qr_52.2.2.2.2.1 ∈ lw_tbl := List.mem_of_getElem? (i := 641) rfl
set_option maxRecDepth 20000 in
theorem qi_53 : Cond.code qr_53.2.2.2.1 qr_53.2.1 qr_53.2.2.1 qr_53.2.2.2.2.1 ∈ lw_tbl := List.mem_of_getElem? (i := 645) rfl
set_option maxRecDepth 20000 in
theorem qi_54 : Cond.code qr_54.2.2.2.1 qr_54.2.1 qr_54.2.2.1 qr_54.2.2.2.2.1 ∈ lw_tbl := List.mem_of_getElem? (i := 649) rfl
set_option maxRecDepth 20000 in
theorem qi_55 : Cond.code qr_55.2.2.2.1 qr_55.2.1 qr_55.2.2.1 qr_55.2.2.2.2.1 ∈ lw_tbl := List.mem_of_getElem? (i := 652) rfl
set_option maxRecDepth 20000 in
theorem qi_56 : Cond.code qr_56.2.2.2.1 qr_56.2.1 qr_56.2.2.1 qr_56.2.2.2.2.1 ∈ lw_tbl := List.mem_of_getElem? (i := 656) rfl
set_option maxRecDepth 20000 in
theorem qi_57 : Cond.code qr_57.2.2.2.1 qr_57.2.1 qr_57.2.2.1 qr_57.2.2.2.2.1 ∈ lw_tbl := List.mem_of_getElem? (i := 661) rfl
set_option maxRecDepth 20000 in
theorem qi_58 : Cond.code qr_58.2.2.2.1 qr_58.2.1 qr_58.2.2.1 qr_58.2.2.2.2.1 ∈ lw_tbl := List.mem_of_getElem? (i := 671) rfl
set_option maxRecDepth 20000 in
theorem qi_59 : Cond.code qr_59.2.2.2.1 qr_59.2.1 qr_59.2.2.1 qr_59.2.2.2.2.1 ∈ lw_tbl := List.mem_of_getElem? (i := 676) rfl
set_option maxRecDepth 20000 in
theorem qi_60 : Cond.code qr_60.2.2.2.1 qr_60.2.1 qr_60.2.2.1 qr_60.2.2.2.2.1 ∈ lw_tbl := List.mem_of_getElem? (i := 681) rfl
set_option maxRecDepth 20000 in
theorem qi_61 : Cond.code qr_61.2.2.2.1 qr_61.2.1 qr_61.2.2.1 qr_61.2.2.2.2.1 ∈ lw_tbl := List.mem_of_getElem? (i := 685) rfl
set_option maxRecDepth 20000 in
theorem qi_62 : Cond.code qr_62.2.2.2.1 qr_62.2.1 qr_62.2.2.1 qr_62.2.2.2.2.1 ∈ lw_tbl := List.mem_of_getElem? (i := 689) rfl
set_option maxRecDepth 20000 in
theorem qi_63 : Cond.code qr_63.2.2.2.1 qr_63.2.1 qr_63.2.2.1 qr_63.2.2.2.2.1 ∈ lw_tbl := List.mem_of_getElem? (i := 729) rfl
set_option maxRecDepth 20000 in
theorem qi_64 : Cond.code qr_64.2.2.2.1 qr_64.2.1 qr_64.2.2.1 qr_64.2.2.2.2.1 ∈ lw_tbl := List.mem_of_getElem? (i := 734) rfl
set_option maxRecDepth 20000 in
theorem qi_65 : Cond.code qr_65.2.2.2.1 qr_65.2.1 qr_65.2.2.1 qr_65.2.2.2.2.1 ∈ lw_tbl := List.mem_of_getElem? (i := 770) rfl
set_option maxRecDepth 20000 in
theorem qi_66 : Cond.code qr_66.2.2.2.1 qr_66.2.1 qr_66.2.2.1 qr_66.2.2.2.2.1 ∈ lw_tbl := List.mem_of_getElem? (i := 778) rfl
set_option maxRecDepth 20000 in
theorem qi_67 : Cond.code qr_67.2.2.2.1 qr_67.2.1 qr_67.2.2.1 qr_67.2.2.2.2.1 ∈ lw_tbl := List.mem_of_getElem? (i := 386) rfl
set_option maxRecDepth 20000 in
theorem qi_68 : Cond.code qr_68.2.2.2.1 qr_68.2.1 qr_68.2.2.1 qr_68.2.2.2.2.1 ∈ lw_tbl := List.mem_of_getElem? (i := 394) rfl
set_option maxRecDepth 20000 in
theorem qi_69 : Cond.code qr_69.2.2.2.1 qr_69.2.1 qr_69.2.2.1 qr_69.2.2.2.2.1 ∈ lw_tbl := List.mem_of_getElem? (i := 398) rfl
set_option maxRecDepth 20000 in
theorem qi_70 : Cond.code qr_70.2.2.2.1 qr_70.2.1 qr_70.2.2.1 qr_70.2.2.2.2.1 ∈ lw_tbl := List.mem_of_getElem? (i := 525) rfl
set_option maxRecDepth 20000 in
theorem qi_71 : Cond.code qr_71.2.2.2.1 qr_71.2.1 qr_71.2.2.1 qr_71.2.2.2.2.1 ∈ lw_tbl := List.mem_of_getElem? (i := 531) rfl
set_option maxRecDepth 20000 in
theorem qi_72 : Cond.code qr_72.2.2.2.1 qr_72.2.1 qr_72.2.2.1 qr_72.2.2.2.2.1 ∈ lw_tbl := List.mem_of_getElem? (i := 535) rfl
set_option maxRecDepth 20000 in
theorem qi_73 : Cond.code qr_73.2.2.2.1 qr_73.2.1 qr_73.2.2.1 qr_73.2.2.2.2.1 ∈ lw_tbl := List.mem_of_getElem? (i := 540) rfl
set_option maxRecDepth 20000 in
theorem qi_74 : Cond.code qr_74.2.2.2.1 qr_74.2.1 qr_74.2.2.1 qr_74.2.2.2.2.1 ∈ lw_tbl := List.mem_of_getElem? (i := 543) rfl
set_option maxRecDepth 20000 in
theorem qi_75 : Cond.code qr_75.2.2.2.1 qr_75.2.1 qr_75.2.2.1 qr_75.2.2.2.2.1 ∈ lw_tbl := List.mem_of_getElem? (i := 576) rfl
set_option maxRecDepth 20000 in
theorem qi_76 : Cond.code qr_76.2.2.2.1 qr_76.2.1 qr_76.2.2.1 qr_76.2.2.2.2.1 ∈ lw_tbl := List.mem_of_getElem? (i := 584) rfl
set_option maxRecDepth 20000 in
theorem qi_77 : Cond.code qr_77.2.2.2.1 qr_77.2.1 qr_77.2.2.1 qr_77.2.2.2.2.1 ∈ lw_tbl := List.mem_of_getElem? (i := 588) rfl
set_option maxRecDepth 20000 in
theorem qi_78 : Cond.code qr_78.2.2.2.1 qr_78.2.1 qr_78.2.2.1 qr_78.2.2.2.2.1 ∈ lw_tbl := List.mem_of_getElem? (i := 591) rfl
set_option maxRecDepth 20000 in
theorem qi_79 : Cond.code qr_79.2.2.2.1 qr_79.2.1 qr_79.2.2.1 qr_79.2.2.2.2.1 ∈ lw_tbl := List.mem_of_getElem? (i := 595) rfl
set_option maxRecDepth 20000 in
theorem qi_80 : Cond.code qr_80.2.2.2.1 qr_80.2.1 qr_80.2.2.1 qr_80.2.2.2.2.1 ∈ lw_tbl := List.mem_of_getElem? (i := 598) rfl
set_option maxRecDepth 20000 in
theorem qi_81 : Cond.code qr_81.2.2.2.1 qr_81.2.1 qr_81.2.2.1 qr_81.2.2.2.2.1 ∈ lw_tbl := List.mem_of_getElem? (i := 615) rfl
set_option maxRecDepth 20000 in
theorem qi_82 : Cond.code qr_82.2.2.2.1 qr_82.2.1 qr_82.2.2.1 qr_82.2.2.2.2.1 ∈ lw_tbl := List.mem_of_getElem? (i := 619) rfl
set_option maxRecDepth 20000 in
theorem qi_83 : Cond.code qr_83.2.2.2.1 qr_83.2.1 qr_83.2.2.1 qr_83.2.2.2.2.1 ∈ lw_tbl := List.mem_of_getElem? (i := 665) rfl
set_option maxRecDepth 20000 in
theorem qi_84 : Cond.code qr_84.2.2.2.1 qr_84.2.1 qr_84.2.2.1 qr_84.2.2.2.2.1 ∈ lw_tbl := List.mem_of_getElem? (i := 693) rfl
set_option maxRecDepth 20000 in
theorem qi_85 : Cond.code qr_85.2.2.2.1 qr_85.2.1 qr_85.2.2.1 qr_85.2.2.2.2.1 ∈ lw_tbl := List.mem_of_getElem? (i := 697) rfl
set_option maxRecDepth 20000 in
theorem qi_86 : Cond.code qr_86.2.2.2.1 qr_86.2.1 qr_86.2.2.1 qr_86.2.2.2.2.1 ∈ lw_tbl := List.mem_of_getElem? (i := 708) rfl
set_option maxRecDepth 20000 in
theorem qi_87 : Cond.code qr_87.2.2.2.1 qr_87.2.1 qr_87.2.2.1 qr_87.2.2.2.2.1 ∈ lw_tbl := List.mem_of_getElem? (i := 714) rfl
set_option maxRecDepth 20000 in
theorem qi_88 : Cond.code qr_88.2.2.2.1 qr_88.2.1 qr_88.2.2.1 qr_88.2.2.2.2.1 ∈ lw_tbl := List.mem_of_getElem? (i := 718) rfl
set_option maxRecDepth 20000 in
theorem qi_89 : Cond.code qr_89.2.2.2.1 qr_89.2.1 qr_89.2.2.1 qr_89.2.2.2.2.1 ∈ lw_tbl := List.mem_of_getElem? (i := 738) rfl
set_option maxRecDepth 20000 in
theorem qi_90 : Cond.code qr_90.2.2.2.1 qr_90.2.1 qr_90.2.2.1 qr_90.2.2.2.2.1 ∈ lw_tbl := List.mem_of_getElem? (i := 746) rfl
set_option maxRecDepth 20000 in
theorem qi_91 : Cond.code qr_91.2.2.2.1 qr_91.2.1 qr_91.2.2.1 qr_91.2.2.2.2.1 ∈ lw_tbl := List.mem_of_getElem? (i := 750) rfl
set_option maxRecDepth 20000 in
theorem qi_92 : Cond.code qr_92.2.2.2.1 qr_92.2.1 qr_92.2.2.1 qr_92.2.2.2.2.1 ∈ lw_tbl := List.mem_of_getElem? (i := 766) rfl
set_option maxRecDepth 20000 in
theorem qi_93 : Cond.code qr_93.2.2.2.1 qr_93.2.1 qr_93.2.2.1 qr_93.2.2.2.2.1 ∈ lw_tbl := List.mem_of_getElem? (i := 782) rfl
set_option maxRecDepth 20000 in
theorem qi_94 : Cond.code qr_94.2.2.2.1 qr_94.2.1 qr_94.2.2.1 qr_94.2.2.2.2.1 ∈ lw_tbl := List.mem_of_getElem? (i := 821) rfl
set_option maxRecDepth 20000 in
theorem qi_95 : Cond.code qr_95.2.2.2.1 qr_95.2.1 qr_95.2.2.1 qr_95.2.2.2.2.1 ∈ lw_tbl := List.mem_of_getElem? (i := 824) rfl
set_option maxRecDepth 20000 in
theorem qi_96 : Cond.code qr_96.2.2.2.1 qr_96.2.1 qr_96.2.2.1 qr_96.2.2.2.2.1 ∈ lw_tbl := List.mem_of_getElem? (i := 835) rfl
set_option maxRecDepth 20000 in
theorem qi_97 : Cond.code qr_97.2.2.2.1 qr_97.2.1 qr_97.2.2.1 qr_97.2.2.2.2.1 ∈ lw_tbl := List.mem_of_getElem? (i := 839) rfl
set_option maxRecDepth 20000 in
theorem qi_98 : Cond.code qr_98.2.2.2.1 qr_98.2.1 qr_98.2.2.1 qr_98.2.2.2.2.1 ∈ lw_tbl := List.mem_of_getElem? (i := 847) rfl
set_option maxRecDepth 20000 in
theorem qi_99 : Cond.code qr_99.2.2.2.1 qr_99.2.1 qr_99.2.2.1 qr_99.2.2.2.2.1 ∈ lw_tbl := List.mem_of_getElem? (i := 963) rfl
set_option maxRecDepth 20000 in
theorem qi_100 : Cond.code qr_100.2.2.2.1 qr_100.2.1 qr_100.2.2.1 qr_100.2.2.2.2.1 ∈ lw_tbl := List.mem_of_getElem? (i := 967) rfl
set_option maxRecDepth 20000 in
theorem qi_101 : Cond.code qr_101.2.2.2.1 qr_101.2.1 qr_101.2.2.1 qr_101.2.2.2.2.1 ∈ lw_tbl := List.mem_of_getElem? (i := 972) rfl
set_option maxRecDepth 20000 in
theorem qi_102 : Cond.code qr_102.2.2.2.1 qr_102.2.1 qr_102.2.2.1 qr_102.2.2.2.2.1 ∈ lw_tbl := List.mem_of_getElem? (i := 976) rfl
set_option maxRecDepth 20000 in
theorem qi_103 : Cond.code qr_103.2.2.2.1 qr_103.2.1 qr_103.2.2.1 qr_103.2.2.2.2.1 ∈ lw_tbl := List.mem_of_getElem? (i := 980) rfl
set_option maxRecDepth 20000 in
theorem qi_104 : Cond.code qr_104.2.2.2.1 qr_104.2.1 qr_104.2.2.1 qr_104.2.2.2.2.1 ∈ lw_tbl := List.mem_of_getElem? (i := 984) rfl
set_option maxRecDepth 20000 in
theorem qi_105 : Cond.code qr_105.2.2.2.1 qr_105.2.1 qr_105.2.2.1 qr_105.2.2.2.2.1 ∈ lw_tbl := List.mem_of_getElem? (i := 988) rfl
set_option maxRecDepth 20000 in
theorem qi_106 : Cond.code qr_106.2.2.2.1 qr_106.2.1 qr_106.2.2.1 qr_106.2.2.2.2.1 ∈ lw_tbl := List.mem_of_getElem? (i := 997) rfl
set_option maxRecDepth 20000 in
theorem qi_107 : Cond.code qr_107.2.2.2.1 qr_107.2.1 qr_107.2.2.1 qr_107.2.2.2.2.1 ∈ lw_tbl := List.mem_of_getElem? (i := 1002) rfl
set_option maxRecDepth 20000 in
theorem qi_108 : Cond.code qr_108.2.2.2.1 qr_108.2.1 qr_108.2.2.1 qr_108.2.2.2.2.1 ∈ lw_tbl := List.mem_of_getElem? (i := 1008) rfl
set_option maxRecDepth 20000 in
theorem qi_109 : Cond.code qr_109.2.2.2.1 qr_109.2.1 qr_109.2.2.1 qr_109.2.2.2.2.1 ∈ lw_tbl := List.mem_of_getElem? (i := 1011) rfl
set_option maxRecDepth 20000 in
theorem qi_110 : Cond.code qr_110.2.2.2.1 qr_110.2.1 qr_110.2.2.1 qr_110.2.2.2.2.1 ∈ lw_tbl := List.mem_of_getElem? (i := 1016) rfl
set_option maxRecDepth 20000 in
theorem qi_111 : Cond.code qr_111.2.2.2.1 qr_111.2.1 qr_111.2.2.1 qr_111.2.2.2.2.1 ∈ lw_tbl := List.mem_of_getElem? (i := 1022) rfl
set_option maxRecDepth 20000 in
theorem qi_112 : Cond.code qr_112.2.2.2.1 qr_112.2.1 qr_112.2.2.1 qr_112.2.2.2.2.1 ∈ lw_tbl := List.mem_of_getElem? (i := 1026) rfl
set_option maxRecDepth 20000 in
theorem qi_113 : Cond.code qr_113.2.2.2.1 qr_113.2.1 qr_113.2.2.1 qr_113.2.2.2.2.1 ∈ lw_tbl := List.mem_of_getElem? (i := 1030) rfl
set_option maxRecDepth 20000 in
theorem qi_114 : Cond.code qr_114.2.2.2.1 qr_114.2.1 qr_114.2.2.1 qr_114.2.2.2.2.1 ∈ lw_tbl := List.mem_of_getElem? (i := 1034) rfl
set_option maxRecDepth 20000 in
theorem qi_115 : Cond.code qr_115.2.2.2.1 qr_115.2.1 qr_115.2.2.1 qr_115.2.2.2.2.1 ∈ lw_tbl := List.mem_of_getElem? (i := 1038) rfl
set_option maxRecDepth 20000 in
theorem qi_116 : Cond.code qr_116.2.2.2.1 qr_116.2.1 qr_116.2.2.1 qr_116.2.2.2.2.1 ∈ lw_tbl := List.mem_of_getElem? (i := 1042) rfl
set_option maxRecDepth 20000 in
theorem qi_117 : Cond.code qr_117.2.2.2.1 qr_117.2.1 qr_117.2.2.1 qr_117.2.2.2.2.1 ∈ lw_tbl := List.mem_of_getElem? (i := 1047) rfl
set_option maxRecDepth 20000 in
theorem qi_118 : Cond.code qr_118.2.2.2.1 qr_118.2.1 qr_118.2.2.1 qr_118.2.2.2.2.1 ∈ lw_tbl := List.mem_of_getElem? (i := 1051) rfl
set_option maxRecDepth 20000 in
theorem qi_119 : Cond.code qr_119.2.2.2.1 qr_119.2.1 qr_119.2.2.1 qr_119.2.2.2.2.1 ∈ lw_tbl := List.mem_of_getElem? (i := 1055) rfl
set_option maxRecDepth 20000 in
theorem qi_120 : Cond.code qr_120.2.2.2.1 qr_120.2.1 qr_120.2.2.1 qr_120.2.2.2.2.1 ∈ lw_tbl := List.mem_of_getElem? (i := 1059) rfl
set_option maxRecDepth 20000 in
theorem qi_121 : Cond.code qr_121.2.2.2.1 qr_121.2.1 qr_121.2.2.1 qr_121.2.2.2.2.1 ∈ lw_tbl := List.mem_of_getElem? (i := 1063) rfl
set_option maxRecDepth 20000 in
theorem qi_122 : Cond.code qr_122.2.2.2.1 qr_122.2.1 qr_122.2.2.1 qr_122.2.2.2.2.1 ∈ lw_tbl := List.mem_of_getElem? (i := 1067) rfl
set_option maxRecDepth 20000 in
theorem qi_123 : Cond.code qr_123.2.2.2.1 qr_123.2.1 qr_123.2.2.1 qr_123.2.2.2.2.1 ∈ lw_tbl := List.mem_of_getElem? (i := 1071) rfl
set_option maxRecDepth 20000 in
theorem qi_124 : Cond.code qr_124.2.2.2.1 qr_124.2.1 qr_124.2.2.1 qr_124.2.2.2.2.1 ∈ lw_tbl := List.mem_of_getElem? (i := 1075) rfl
set_option maxRecDepth 20000 in
theorem qi_125 : Cond.code qr_125.2.2.2.1 qr_125.2.1 qr_125.2.2.1 qr_125.2.2.2.2.1 ∈ lw_tbl := List.mem_of_getElem? (i := 1081) rfl
set_option maxRecDepth 20000 in
theorem qi_126 : Cond.code qr_126.2.2.2.1 qr_126.2.1 qr_126.2.2.1 qr_126.2.2.2.2.1 ∈ lw_tbl := List.mem_of_getElem? (i := 1085) rfl
set_option maxRecDepth 20000 in
theorem qi_127 : Cond.code qr_127.2.2.2.1 qr_127.2.1 qr_127.2.2.1 qr_127.2.2.2.2.1 ∈ lw_tbl := List.mem_of_getElem? (i := 1089) rfl
set_option maxRecDepth 20000 in
theorem qi_128 : Cond.code qr_128.2.2.2.1 qr_128.2.1 qr_128.2.2.1 qr_128.2.2.2.2.1 ∈ lw_tbl := List.mem_of_getElem? (i := 1094) rfl
set_option maxRecDepth 20000 in
theorem qi_129 : Cond.code qr_129.2.2.2.1 qr_129.2.1 qr_129.2.2.1 qr_129.2.2.2.2.1 ∈ lw_tbl := List.mem_of_getElem? (i := 1098) rfl
set_option maxRecDepth 20000 in
theorem qi_130 : Cond.code qr_130.2.2.2.1 qr_130.2.1 qr_130.2.2.1 qr_130.2.2.2.2.1 ∈ lw_tbl := List.mem_of_getElem? (i := 1102) rfl
set_option maxRecDepth 20000 in
theorem qi_131 : Cond.code qr_131.2.2.2.1 qr_131.2.1 qr_131.2.2.1 qr_131.2.2.2.2.1 ∈ lw_tbl := List.mem_of_getElem? (i := 1106) rfl
set_option maxRecDepth 20000 in
theorem qi_132 : Cond.code qr_132.2.2.2.1 qr_132.2.1 qr_132.2.2.1 qr_132.2.2.2.2.1 ∈ lw_tbl := List.mem_of_getElem? (i := 1110) rfl
set_option maxRecDepth 20000 in
theorem qi_133 : Cond.code qr_133.2.2.2.1 qr_133.2.1 qr_133.2.2.1 qr_133.2.2.2.2.1 ∈ lw_tbl := List.mem_of_getElem? (i := 1114) rfl
set_option maxRecDepth 20000 in
theorem qi_134 : Cond.code qr_134.2.2.2.1 qr_134.2.1 qr_134.2.2.1 qr_134.2.2.2.2.1 ∈ lw_tbl := List.mem_of_getElem? (i := 1118) rfl
set_option maxRecDepth 20000 in
theorem qi_135 : Cond.code qr_135.2.2.2.1 qr_135.2.1 qr_135.2.2.1 qr_135.2.2.2.2.1 ∈ lw_tbl := List.mem_of_getElem? (i := 1122) rfl
set_option maxRecDepth 20000 in
theorem qi_136 : Cond.code qr_136.2.2.2.1 qr_136.2.1 qr_136.2.2.1 qr_136.2.2.2.2.1 ∈ lw_tbl := List.mem_of_getElem? (i := 1125) rfl
set_option maxRecDepth 20000 in
theorem qi_137 : Cond.code qr_137.2.2.2.1 qr_137.2.1 qr_137.2.2.1 qr_137.2.2.2.2.1 ∈ lw_tbl := List.mem_of_getElem? (i := 1129) rfl
set_option maxRecDepth 20000 in
theorem qi_138 : Cond.code qr_138.2.2.2.1 qr_138.2.1 qr_138.2.2.1 qr_138.2.2.2.2.1 ∈ lw_tbl := List.mem_of_getElem? (i := 1133) rfl
set_option maxRecDepth 20000 in
theorem qi_139 : Cond.code qr_139.2.2.2.1 qr_139.2.1 qr_139.2.2.1 qr_139.2.2.2.2.1 ∈ lw_tbl := List.mem_of_getElem? (i := 1137) rfl
set_option maxRecDepth 20000 in
theorem qi_140 : Cond.code qr_140.2.2.2.1 qr_140.2.1 qr_140.2.2.1 qr_140.2.2.2.2.1 ∈ lw_tbl := List.mem_of_getElem? (i := 1141) rfl
set_option maxRecDepth 20000 in
theorem qi_141 : Cond.code qr_141.2.2.2.1 qr_141.2.1 qr_141.2.2.1 qr_141.2.2.2.2.1 ∈ lw_tbl := List.mem_of_getElem? (i := 1145) rfl
set_option maxRecDepth 20000 in
theorem qi_142 : Cond.code qr_142.2.2.2.1 qr_142.2.1 qr_142.2.2.1 qr_142.2.2.2.2.1 ∈ lw_tbl := List.mem_of_getElem? (i := 1149) rfl
set_option maxRecDepth 20000 in
theorem qi_143 : Cond.code qr_143.2.2.2.1 qr_143.2.1 qr_143.2.2.1 qr_143.2.2.2.2.1 ∈ lw_tbl := List.mem_of_getElem? (i := 1159) rfl
set_option maxRecDepth 20000 in
theorem qi_144 : Cond.code qr_144.2.2.2.1 qr_144.2.1 qr_144.2.2.1 qr_144.2.2.2.2.1 ∈ lw_tbl := List.mem_of_getElem? (i := 1163) rfl
set_option maxRecDepth 20000 in
theorem qi_145 : Cond.code qr_145.2.2.2.1 qr_145.2.1 qr_145.2.2.1 qr_145.2.2.2.2.1 ∈ lw_tbl := List.mem_of_getElem? (i := 1167) rfl
set_option maxRecDepth 20000 in
theorem qi_146 : Cond.code qr_146.2.2.2.1 qr_146.2.1 qr_146.2.2.1 qr_146.2.2.2.2.1 ∈ lw_tbl := List.mem_of_getElem? (i := 1171) rfl
set_option maxRecDepth 20000 in
theorem qi_147 : Cond.code qr_147.2.2.2.1 qr_147.2.1 qr_147.2.2.1 qr_147.2.2.2.2.1 ∈ lw_tbl := List.mem_of_getElem? (i := 1175) rfl
set_option maxRecDepth 20000 in
theorem qi_148 : Cond.code qr_148.2.2.2.1 qr_148.2.1 qr_148.2.2.1 qr_148.2.2.2.2.1 ∈ lw_tbl := List.mem_of_getElem? (i := 423) rfl
set_option maxRecDepth 20000 in
theorem qi_149 : Cond.code qr_149.2.2.2.1 qr_149.2.1 qr_149.2.2.1 qr_149.2.2.2.2.1 ∈ lw_tbl := List.mem_of_getElem? (i := 427) rfl
set_option maxRecDepth 20000 in
theorem qi_150 : Cond.code qr_150.2.2.2.1 qr_150.2.1 qr_150.2.2.1 qr_150.2.2.2.2.1 ∈ lw_tbl := List.mem_of_getElem? (i := 433) rfl
set_option maxRecDepth 20000 in
theorem qi_151 : Cond.code qr_151.2.2.2.1 qr_151.2.1 qr_151.2.2.1 qr_151.2.2.2.2.1 ∈ lw_tbl := List.mem_of_getElem? (i := 437) rfl
set_option maxRecDepth 20000 in
theorem qi_152 : Cond.code qr_152.2.2.2.1 qr_152.2.1 qr_152.2.2.1 qr_152.2.2.2.2.1 ∈ lw_tbl := List.mem_of_getElem? (i := 443) rfl
set_option maxRecDepth 20000 in
theorem qi_153 : Cond.code qr_153.2.2.2.1 qr_153.2.1 qr_153.2.2.1 qr_153.2.2.2.2.1 ∈ lw_tbl := List.mem_of_getElem? (i := 440) rfl
set_option maxRecDepth 20000 in
theorem qi_154 : Cond.code qr_154.2.2.2.1 qr_154.2.1 qr_154.2.2.1 qr_154.2.2.2.2.1 ∈ lw_tbl := List.mem_of_getElem? (i := 448) rfl
set_option maxRecDepth 20000 in
theorem qi_155 : Cond.code qr_155.2.2.2.1 qr_155.2.1 qr_155.2.2.1 qr_155.2.2.2.2.1 ∈ lw_tbl := List.mem_of_getElem? (i := 482) rfl
set_option maxRecDepth 20000 in
theorem qi_156 : Cond.code qr_156.2.2.2.1 qr_156.2.1 qr_156.2.2.1 qr_156.2.2.2.2.1 ∈ lw_tbl := List.mem_of_getElem? (i := 815) rfl
set_option maxRecDepth 20000 in
theorem qi_157 : Cond.code qr_157.2.2.2.1 qr_157.2.1 qr_157.2.2.1 qr_157.2.2.2.2.1 ∈ lw_tbl := List.mem_of_getElem? (i := 722) rfl
set_option maxRecDepth 20000 in
theorem qi_158 : Cond.code qr_158.2.2.2.1 qr_158.2.1 qr_158.2.2.1 qr_158.2.2.2.2.1 ∈ lw_tbl := List.mem_of_getElem? (i := 186) rfl
theorem qic_0 : ∀ r ∈ ([qr_0, qr_1, qr_2, qr_3, qr_4, qr_5, qr_6, qr_7, qr_8, qr_9, qr_10, qr_11, qr_12, qr_13, qr_14, qr_15, qr_16, qr_17, qr_18, qr_19] : List QRow), Cond.code r.2.2.2.1 r.2.1 r.2.2.1 r.2.2.2.2.1 ∈ lw_tbl := (List.forall_mem_cons.mpr ⟨qi_0, (List.forall_mem_cons.mpr ⟨qi_1, (List.forall_mem_cons.mpr ⟨qi_2, (List.forall_mem_cons.mpr ⟨qi_3, (List.forall_mem_cons.mpr ⟨qi_4, (List.forall_mem_cons.mpr ⟨qi_5, (List.forall_mem_cons.mpr ⟨qi_6, (List.forall_mem_cons.mpr ⟨qi_7, (List.forall_mem_cons.mpr ⟨qi_8, (List.forall_mem_cons.mpr ⟨qi_9, (List.forall_mem_cons.mpr ⟨qi_10, (List.forall_mem_cons.mpr ⟨qi_11, (List.forall_mem_cons.mpr ⟨qi_12, (List.forall_mem_cons.mpr ⟨qi_13, (List.forall_mem_cons.mpr ⟨qi_14, (List.forall_mem_cons.mpr ⟨qi_15, (List.forall_mem_cons.mpr ⟨qi_16, (List.forall_mem_cons.mpr ⟨qi_17, (List.forall_mem_cons.mpr ⟨qi_18, (List.forall_mem_cons.mpr ⟨qi_19, (fun _ h => absurd h List.not_mem_nil)⟩)⟩)⟩)⟩)⟩)⟩)⟩)⟩)⟩)⟩)⟩)⟩)⟩)⟩)⟩)⟩)⟩)⟩)⟩)⟩)
theorem qic_1 : ∀ r ∈ ([qr_20, qr_21, qr_22, qr_23, qr_24, qr_25, qr_26, qr_27, qr_28, qr_29, qr_30, qr_31, qr_32, qr_33, qr_34, qr_35, qr_36, qr_37, qr_38, qr_39] : List QRow), Cond.code r.2.2.2.1 r.2.1 r.2.2.1 r.2.2.2.2.1 ∈ lw_tbl := (List.forall_mem_cons.mpr ⟨qi_20, (List.forall_mem_cons.mpr ⟨qi_21, (List.forall_mem_cons.mpr ⟨qi_22, (List.forall_mem_cons.mpr ⟨qi_23, (List.forall_mem_cons.mpr ⟨qi_24, (List.forall_mem_cons.mpr ⟨qi_25, (List.forall_mem_cons.mpr ⟨qi_26, (List.forall_mem_cons.mpr ⟨qi_27, (List.forall_mem_cons.mpr ⟨qi_28, (List.forall_mem_cons.mpr ⟨qi_29, (List.forall_mem_cons.mpr ⟨qi_30, (List.forall_mem_cons.mpr ⟨qi_31, (List.forall_mem_cons.mpr ⟨qi_32, (List.forall_mem_cons.mpr ⟨qi_33, (List.forall_mem_cons.mpr ⟨qi_34, (List.forall_mem_cons.mpr ⟨qi_35, (List.forall_mem_cons.mpr ⟨qi_36, (List.forall_mem_cons.mpr ⟨qi_37, (List.forall_mem_cons.mpr ⟨qi_38, (List.forall_mem_cons.mpr ⟨qi_39, (fun _ h => absurd h List.not_mem_nil)⟩)⟩)⟩)⟩)⟩)⟩)⟩)⟩)⟩)⟩)⟩)⟩)⟩)⟩)⟩)⟩)⟩)⟩)⟩)⟩)
theorem qic_2 : ∀ r ∈ ([qr_40, qr_41, qr_42, qr_43, qr_44, qr_45, qr_46, qr_47, qr_48, qr_49, qr_50, qr_51, qr_52, qr_53, qr_54, qr_55, qr_56, qr_57, qr_58, qr_59] : List QRow), Cond.code r.2.2.2.1 r.2.1 r.2.2.1 r.2.2.2.2.1 ∈ lw_tbl := (List.forall_mem_cons.mpr ⟨qi_40, (List.forall_mem_cons.mpr ⟨qi_41, (List.forall_mem_cons.mpr ⟨qi_42, (List.forall_mem_cons.mpr ⟨qi_43, (List.forall_mem_cons.mpr ⟨qi_44, (List.forall_mem_cons.mpr ⟨qi_45, (List.forall_mem_cons.mpr ⟨qi_46, (List.forall_mem_cons.mpr ⟨qi_47, (List.forall_mem_cons.mpr ⟨qi_48, (List.forall_mem_cons.mpr ⟨qi_49, (List.forall_mem_cons.mpr ⟨qi_50, (List.forall_mem_cons.mpr ⟨qi_51, (List.forall_mem_cons.mpr ⟨qi_52, (List.forall_mem_cons.mpr ⟨qi_53, (List.forall_mem_cons.mpr ⟨qi_54, (List.forall_mem_cons.mpr ⟨qi_55, (List.forall_mem_cons.mpr ⟨qi_56, (List.forall_mem_cons.mpr ⟨qi_57, (List.forall_mem_cons.mpr ⟨qi_58, (List.forall_mem_cons.mpr ⟨qi_59, (fun _ h => absurd h List.not_mem_nil)⟩)⟩)⟩)⟩)⟩)⟩)⟩)⟩)⟩)⟩)⟩)⟩)⟩)⟩)⟩)⟩)⟩)⟩)⟩)⟩)
theorem qic_3 : ∀ r ∈ ([qr_60, qr_61, qr_62, qr_63, qr_64, qr_65, qr_66, qr_67, qr_68, qr_69, qr_70, qr_71, qr_72, qr_73, qr_74, qr_75, qr_76, qr_77, qr_78, qr_79] : List QRow), Cond.code r.2.2.2.1 r.2.1 r.2.2.1 r.2.2.2.2.1 ∈ lw_tbl := (List.forall_mem_cons.mpr ⟨qi_60, (List.forall_mem_cons.mpr ⟨qi_61, (List.forall_mem_cons.mpr ⟨qi_62, (List.forall_mem_cons.mpr ⟨qi_63, (List.forall_mem_cons.mpr ⟨qi_64, (List.forall_mem_cons.mpr ⟨qi_65, (List.forall_mem_cons.mpr ⟨qi_66, (List.forall_mem_cons.mpr ⟨qi_67, (List.forall_mem_cons.mpr ⟨qi_68, (List.forall_mem_cons.mpr ⟨qi_69, (List.forall_mem_cons.mpr ⟨qi_70, (List.forall_mem_cons.mpr ⟨qi_71, (List.forall_mem_cons.mpr ⟨qi_72, (List.forall_mem_cons.mpr ⟨qi_73, (List.forall_mem_cons.mpr ⟨qi_74, (List.forall_mem_cons.mpr ⟨qi_75, (List.forall_mem_cons.mpr ⟨qi_76, (List.forall_mem_cons.mpr ⟨qi_77, (List.forall_mem_cons.mpr ⟨qi_78, (List.forall_mem_cons.mpr ⟨qi_79, (fun _ h => absurd h List.not_mem_nil)⟩)⟩)⟩)⟩)⟩)⟩)⟩)⟩)⟩)⟩)⟩)⟩)⟩)⟩)⟩)⟩)⟩)⟩)⟩)⟩)
theorem qic_4 : ∀ r ∈ ([qr_80, qr_81, qr_82, qr_83, qr_84, qr_85, qr_86, qr_87, qr_88, qr_89, qr_90, qr_91, qr_92, qr_93, qr_94, qr_95, qr_96, qr_97, qr_98, qr_99] : List QRow), Cond.code r.2.2.2.1 r.2.1 r.2.2.1 r.2.2.2.2.1 ∈ lw_tbl := (List.forall_mem_cons.mpr ⟨qi_80, (List.forall_mem_cons.mpr ⟨qi_81, (List.forall_mem_cons.mpr ⟨qi_82, (List.forall_mem_cons.mpr ⟨qi_83, (List.forall_mem_cons.mpr ⟨qi_84, (List.forall_mem_cons.mpr ⟨qi_85, (List.forall_mem_cons.mpr ⟨qi_86, (List.forall_mem_cons.mpr ⟨qi_87, (List.forall_mem_cons.mpr ⟨qi_88, (List.forall_mem_cons.mpr ⟨qi_89, (List.forall_mem_cons.mpr ⟨qi_90, (List.forall_mem_cons.mpr ⟨qi_91, (List.forall_mem_cons.mpr ⟨qi_92, (List.forall_mem_cons.mpr ⟨qi_93, (List.forall_mem_cons.mpr ⟨qi_94, (List.forall_mem_cons.mpr ⟨qi_95, (List.forall_mem_cons.mpr ⟨qi_96, (List.forall_mem_cons.mpr ⟨qi_97, (List.forall_mem_cons.mpr ⟨qi_98, (List.forall_mem_cons.mpr ⟨qi_99, (fun _ h => absurd h List.not_mem_nil)⟩)⟩)⟩)⟩)⟩)⟩)⟩)⟩)⟩)⟩)⟩)⟩)⟩)⟩)⟩)⟩)⟩)⟩)⟩)⟩)
theorem qic_5 : ∀ r ∈ ([qr_100, qr_101, qr_102, qr_103, qr_104, qr_105, qr_106, qr_107, qr_108, qr_109, qr_110, qr_111, qr_112, qr_113, qr_114, qr_115, qr_116, qr_117, qr_118, qr_119] : List QRow), Cond.code r.2.2.2.1 r.2.1 r.2.2.1 r.2.2.2.2.1 ∈ lw_tbl := (List.forall_mem_cons.mpr ⟨qi_100, (List.forall_mem_cons.mpr ⟨qi_101, (List.forall_mem_cons.mpr ⟨qi_102, (List.forall_mem_cons.mpr ⟨qi_103, (List.forall_mem_cons.mpr ⟨qi_104, (List.forall_mem_cons.mpr ⟨qi_105, (List.forall_mem_cons.mpr ⟨qi_106, (List.forall_mem_cons.mpr ⟨qi_107, (List.forall_mem_cons.mpr ⟨qi_108, (List.forall_mem_cons.mpr ⟨qi_109, (List.forall_mem_cons.mpr ⟨qi_110, (List.forall_mem_cons.mpr ⟨qi_111, (List.forall_mem_cons.mpr ⟨qi_112, (List.forall_mem_cons.mpr ⟨qi_113, (List.forall_mem_cons.mpr ⟨qi_114, (List.forall_mem_cons.mpr ⟨qi_115, (List.forall_mem_cons.mpr ⟨qi_116, (List.forall_mem_cons.mpr ⟨qi_117, (List.forall_mem_cons.mpr ⟨qi_118, (List.forall_mem_cons.mpr ⟨qi_119, (fun _ h => absurd h List.not_mem_nil)⟩)⟩)⟩)⟩)⟩)⟩)⟩)⟩)⟩)⟩)⟩)⟩)⟩)⟩)⟩)⟩)⟩)⟩)⟩)⟩)
theorem qic_6 : ∀ r ∈ ([qr_120, qr_121, qr_122, qr_123, qr_124, qr_125, qr_126, qr_127, qr_128, qr_129, qr_130, qr_131, qr_132, qr_133, qr_134, qr_135, qr_136, qr_137, qr_138, qr_139] : List QRow), Cond.code r.2.2.2.1 r.2.1 r.2.2.1 r.2.2.2.2.1 ∈ lw_tbl := (List.forall_mem_cons.mpr ⟨qi_120, (List.forall_mem_cons.mpr ⟨qi_121, (List.forall_mem_cons.mpr ⟨qi_122, (List.forall_mem_cons.mpr ⟨qi_123, (List.forall_mem_cons.mpr ⟨qi_124, (List.forall_mem_cons.mpr ⟨qi_125, (List.forall_mem_cons.mpr ⟨qi_126, (List.forall_mem_cons.mpr ⟨qi_127, (List.forall_mem_cons.mpr ⟨qi_128, (List.forall_mem_cons.mpr ⟨qi_129, (List.forall_mem_cons.mpr ⟨qi_130, (List.forall_mem_cons.mpr ⟨qi_131, (List.forall_mem_cons.mpr ⟨qi_132, (List.forall_mem_cons.mpr ⟨qi_133, (List.forall_mem_cons.mpr ⟨qi_134, (List.forall_mem_cons.mpr ⟨qi_135, (List.forall_mem_cons.mpr ⟨qi_136, (List.forall_mem_cons.mpr ⟨qi_137, (List.forall_mem_cons.mpr ⟨qi_138, (List.forall_mem_cons.mpr ⟨qi_139, (fun _ h => absurd h List.not_mem_nil)⟩)⟩)⟩)⟩)⟩)⟩)⟩)⟩)⟩)⟩)⟩)⟩)⟩)⟩)⟩)⟩)⟩)⟩)⟩)⟩)
theorem qic_7 : ∀ r ∈ ([qr_140, qr_141, qr_142, qr_143, qr_144, qr_145, qr_146, qr_147, qr_148, qr_149, qr_150, qr_151, qr_152, qr_153, qr_154, qr_155, qr_156, qr_157, qr_158] : List QRow), Cond.code r.2.2.2.1 r.2.1 r.2.2.1 r.2.2.2.2.1 ∈ lw_tbl := (List.forall_mem_cons.mpr ⟨qi_140, (List.forall_mem_cons.mpr ⟨qi_141, (List.forall_mem_cons.mpr ⟨qi_142, (List.forall_mem_cons.mpr ⟨qi_143, (List.forall_mem_cons.mpr ⟨qi_144, (List.forall_mem_cons.mpr ⟨qi_145, (List.forall_mem_cons.mpr ⟨qi_146, (List.forall_mem_cons.mpr ⟨qi_147, (List.forall_mem_cons.mpr ⟨qi_148, (List.forall_mem_cons.mpr ⟨qi_149, (List.forall_mem_cons.mpr ⟨qi_150, (List.forall_mem_cons.mpr ⟨qi_151, (List.forall_mem_cons.mpr ⟨qi_152, (List.forall_mem_cons.mpr ⟨qi_153, (List.forall_mem_cons.mpr ⟨qi_154, (List.forall_mem_cons.mpr ⟨qi_155, (List.forall_mem_cons.mpr ⟨qi_156, (List.forall_mem_cons.mpr ⟨qi_157, (List.forall_mem_cons.mpr ⟨qi_158, (fun _ h => absurd h List.not_mem_nil)⟩)⟩)⟩)⟩)⟩)⟩)⟩)⟩)⟩)⟩)⟩)⟩)⟩)⟩)⟩)⟩)⟩)⟩)⟩)
theorem qmt_in : ∀ r ∈ qmt, Cond.code r.2.2.2.1 r.2.1 r.2.2.1 r.2.2.2.2.1 ∈ lw_tbl := by
  show ∀ r ∈ ([qr_0, qr_1, qr_2, qr_3, qr_4, qr_5, qr_6, qr_7, qr_8, qr_9, qr_10, qr_11, qr_12, qr_13, qr_14, qr_15, qr_16, qr_17, qr_18, qr_19] ++ ([qr_20, qr_21, qr_22, qr_23, qr_24, qr_25, qr_26, qr_27, qr_28, qr_29, qr_30, qr_31, qr_32, qr_33, qr_34, qr_35, qr_36, qr_37, qr_38, qr_39] ++ ([qr_40, qr_41, qr_42, qr_43, qr_44, qr_45, qr_46, qr_47, qr_48, qr_49, qr_50, qr_51, qr_52, qr_53, qr_54, qr_55, qr_56, qr_57, qr_58, qr_59] ++ ([qr_60, qr_61, qr_62, qr_63, qr_64, qr_65, qr_66, qr_67, qr_68, qr_69, qr_70, qr_71, qr_72, qr_73, qr_74, qr_75, qr_76, qr_77, qr_78, qr_79] ++ ([qr_80, qr_81, qr_82, qr_83, qr_84, qr_85, qr_86, qr_87, qr_88, qr_89, qr_90, qr_91, qr_92, qr_93, qr_94, qr_95, qr_96, qr_97, qr_98, qr_99] ++ ([qr_100, qr_101, qr_102, qr_103, qr_104, qr_105, qr_106, qr_107, qr_108, qr_109, qr_110, qr_111, qr_112, qr_113, qr_114, qr_115, qr_116, qr_117, qr_118, qr_119] ++ ([qr_120, qr_121, qr_122, qr_123, qr_124, qr_125, qr_126, qr_127, qr_128, qr_129, qr_130, qr_131, qr_132, qr_133, qr_134, qr_135, qr_136, qr_137, qr_138, qr_139] ++ ([qr_140, qr_141, qr_142, qr_143, qr_144, qr_145, qr_146, qr_147, qr_148, qr_149, qr_150, qr_151, qr_152, qr_153, qr_154, qr_155, qr_156, qr_157, qr_158]))))))) : List QRow), Cond.code r.2.2.2.1 r.2.1 r.2.2.1 r.2.2.2.2.1 ∈ lw_tbl
  exact List.forall_mem_append.mpr ⟨qic_0, List.forall_mem_append.mpr ⟨qic_1, List.forall_mem_append.mpr ⟨qic_2, List.forall_mem_append.mpr ⟨qic_3, List.forall_mem_append.mpr ⟨qic_4, List.forall_mem_append.mpr ⟨qic_5, List.forall_mem_append.mpr ⟨qic_6, qic_7⟩⟩⟩⟩⟩⟩⟩
/-- a call, by the caller's class and the pool's entry: 0 virtual, 1 static, 2 static of a nest mate, 3 super, 4 by the receiver's kind, 5 arraycopy; and the method -/
def qct : List ((Nat × Nat) × (Nat × Nat)) := [((0, 15), (3, 46)), ((1, 15), (3, 46)), ((1, 23), (0, 42)), ((2, 15), (3, 3)), ((3, 15), (3, 46)), ((4, 28), (0, 49)), ((4, 34), (0, 59)), ((4, 39), (1, 155)), ((5, 15), (3, 1)), ((5, 29), (1, 156)), ((6, 19), (0, 23)), ((6, 37), (0, 10)), ((6, 43), (0, 16)), ((6, 47), (0, 18)), ((6, 51), (0, 19)), ((6, 54), (0, 20)), ((6, 57), (0, 21)), ((6, 60), (0, 22)), ((6, 67), (0, 17)), ((6, 80), (0, 25)), ((6, 84), (0, 29)), ((6, 88), (0, 31)), ((6, 107), (1, 11)), ((6, 111), (0, 12)), ((6, 114), (1, 14)), ((6, 117), (0, 15)), ((6, 122), (0, 13)), ((6, 135), (0, 148)), ((6, 140), (0, 150)), ((6, 144), (1, 155)), ((7, 47), (1, 158)), ((7, 59), (0, 25)), ((7, 63), (0, 26)), ((7, 67), (0, 28)), ((7, 71), (1, 30)), ((7, 74), (0, 27)), ((7, 77), (0, 29)), ((7, 81), (2, 74)), ((7, 84), (2, 86)), ((7, 88), (0, 32)), ((7, 91), (0, 37)), ((7, 94), (0, 34)), ((8, 38), (5, 0)), ((10, 48), (0, 35)), ((10, 55), (0, 32)), ((10, 59), (0, 33)), ((10, 64), (1, 158)), ((10, 70), (0, 28)), ((10, 74), (0, 50)), ((10, 78), (0, 26)), ((10, 81), (0, 51)), ((10, 85), (0, 34)), ((10, 88), (0, 52)), ((10, 91), (1, 155)), ((10, 96), (0, 53)), ((10, 100), (1, 54)), ((10, 103), (0, 49)), ((10, 107), (0, 59)), ((10, 110), (0, 57)), ((10, 113), (0, 61)), ((10, 116), (0, 62)), ((10, 119), (2, 86)), ((10, 123), (0, 64)), ((10, 126), (0, 38)), ((10, 129), (0, 66)), ((11, 83), (0, 8)), ((11, 91), (0, 9)), ((11, 95), (0, 24)), ((11, 98), (0, 40)), ((11, 108), (0, 27)), ((11, 112), (0, 29)), ((11, 131), (0, 26)), ((11, 137), (1, 74)), ((11, 140), (0, 32)), ((11, 147), (0, 41)), ((11, 151), (0, 42)), ((11, 154), (0, 33)), ((11, 158), (0, 35)), ((11, 162), (0, 43)), ((11, 166), (0, 44)), ((11, 172), (1, 78)), ((11, 175), (1, 80)), ((11, 178), (0, 47)), ((11, 182), (0, 48)), ((11, 185), (0, 82)), ((11, 189), (0, 49)), ((11, 193), (0, 53)), ((11, 197), (1, 54)), ((11, 200), (1, 55)), ((11, 203), (0, 56)), ((11, 207), (1, 155)), ((11, 212), (0, 58)), ((11, 215), (0, 60)), ((11, 219), (0, 36)), ((11, 222), (1, 86)), ((11, 225), (0, 88)), ((11, 228), (0, 63)), ((11, 231), (0, 4)), ((11, 233), (0, 5)), ((11, 237), (0, 28)), ((11, 240), (0, 6)), ((11, 244), (0, 65)), ((11, 247), (4, 46)), ((11, 251), (1, 95)), ((11, 254), (0, 45)), ((11, 264), (0, 39)), ((11, 268), (1, 157)), ((12, 72), (1, 100)), ((12, 76), (0, 112)), ((12, 83), (1, 109)), ((12, 100), (0, 103)), ((12, 108), (1, 107)), ((12, 123), (0, 106)), ((12, 138), (0, 105)), ((12, 151), (0, 108)), ((12, 157), (0, 110)), ((12, 164), (0, 104)), ((12, 179), (0, 119)), ((12, 182), (0, 115)), ((12, 187), (0, 117)), ((12, 190), (0, 118)), ((12, 194), (0, 120)), ((12, 203), (0, 128)), ((12, 206), (0, 129)), ((12, 210), (0, 126)), ((12, 213), (0, 127)), ((12, 217), (0, 130)), ((12, 220), (0, 132)), ((12, 223), (1, 136)), ((12, 226), (0, 137)), ((12, 244), (0, 144)), ((13, 335), (0, 149)), ((13, 492), (0, 151)), ((13, 495), (1, 153)), ((13, 1059), (1, 154)), ((14, 9), (1, 152))]
def qcp : List (List Nat) := [[791, 786, 300, 784, 48], [796, 786, 279, 784, 48], [797, 554, 555, 44], [802, 1177, 286, 803, 49], [806, 786, 272, 784, 48], [755, 621, 622, 54], [756, 674, 675, 54], [762, 481, 60], [812, 1178, 293, 793, 50], [813, 814, 60], [403, 181, 182, 46], [404, 406, 0, 43], [483, 485, 4, 43], [491, 493, 6, 43], [501, 503, 7, 43], [505, 507, 8, 43], [509, 511, 9, 43], [513, 515, 10, 43], [487, 489, 5, 43], [495, 196, 197, 46], [496, 212, 213, 46], [497, 498, 499, 46], [408, 409, 43], [411, 413, 1, 43], [473, 474, 43], [476, 478, 3, 43], [416, 418, 2, 43], [420, 421, 422, 56], [430, 431, 432, 56], [480, 481, 60], [184, 185, 47], [195, 196, 197, 46], [199, 200, 201, 46], [207, 208, 209, 46], [215, 216, 46], [203, 204, 205, 46], [211, 212, 213, 46], [0, 542, 42], [0, 707, 42], [709, 545, 546, 46], [702, 703, 704, 46], [561, 562, 563, 46], [], [604, 566, 567, 46], [610, 545, 546, 46], [611, 558, 559, 46], [625, 185, 47], [626, 208, 209, 46], [627, 629, 12, 54], [631, 200, 201, 46], [632, 634, 13, 54], [637, 562, 563, 46], [638, 640, 14, 54], [636, 481, 60], [657, 643, 644, 54], [677, 648, 54], [672, 621, 622, 54], [673, 674, 675, 54], [658, 660, 15, 54], [682, 684, 16, 54], [686, 688, 17, 54], [0, 707, 42], [731, 733, 19, 54], [771, 772, 773, 46], [775, 777, 20, 54], [387, 388, 389, 43], [399, 400, 401, 43], [517, 188, 189, 46], [518, 519, 520, 44], [526, 204, 205, 46], [527, 212, 213, 46], [536, 200, 201, 46], [541, 542, 42], [544, 545, 546, 46], [549, 550, 551, 44], [553, 554, 555, 44], [557, 558, 559, 46], [565, 566, 567, 46], [569, 570, 571, 44], [577, 578, 579, 44], [589, 590, 42], [596, 597, 42], [600, 601, 602, 54], [605, 606, 607, 54], [616, 618, 11, 42], [620, 621, 622, 54], [642, 643, 644, 54], [647, 648, 54], [650, 651, 54], [653, 654, 655, 54], [667, 481, 60], [668, 669, 670, 54], [678, 679, 680, 54], [698, 699, 700, 46], [710, 707, 42], [715, 717, 18, 42], [726, 727, 728, 54], [739, 740, 741, 45], [751, 752, 753, 45], [719, 208, 209, 46], [758, 759, 760, 45], [767, 768, 769, 54], [783, 786, 784], [822, 823, 42], [825, 826, 827, 44], [840, 841, 842, 46], [720, 721, 61], [965, 966, 55], [1023, 1025, 27, 55], [1009, 1010, 55], [977, 979, 21, 55], [1000, 1001, 55], [994, 996, 24, 55], [985, 987, 23, 55], [1005, 1007, 25, 55], [1013, 1015, 26, 55], [981, 983, 22, 55], [1052, 1054, 31, 55], [1035, 1037, 28, 55], [1044, 1046, 29, 55], [1048, 1050, 30, 55], [1056, 1058, 32, 55], [1091, 1093, 35, 55], [1095, 1097, 36, 55], [1082, 1084, 33, 55], [1086, 1088, 34, 55], [1099, 1101, 37, 55], [1107, 1109, 38, 55], [1123, 1124, 55], [1126, 1128, 39, 55], [1160, 1162, 40, 55], [424, 425, 426, 56], [434, 435, 436, 56], [438, 439, 57], [446, 447, 58], [441, 442, 56]]
def qdt : List (Nat × Nat) := [(0, 0), (1, 1), (2, 2), (3, 3), (5, 7), (9, 46)]
/-- a field: its class, its place, whether a nest mate's -/
def qft : List ((Nat × Nat) × (Nat × Nat × Nat)) := [((0, 7), (11, 9, 1)), ((0, 19), (11, 4, 1)), ((0, 23), (4, 0, 0)), ((1, 7), (11, 9, 1)), ((1, 19), (11, 1, 1)), ((2, 7), (11, 9, 1)), ((3, 7), (11, 9, 1)), ((3, 19), (11, 1, 1)), ((3, 23), (8, 2, 0)), ((4, 9), (4, 0, 0)), ((4, 15), (4, 1, 0)), ((4, 19), (4, 2, 0)), ((4, 22), (4, 3, 0)), ((4, 25), (4, 4, 0)), ((5, 7), (11, 9, 1)), ((5, 19), (11, 1, 1)), ((5, 23), (8, 0, 0)), ((6, 9), (6, 0, 0)), ((6, 15), (6, 1, 0)), ((6, 24), (6, 2, 0)), ((6, 27), (6, 6, 0)), ((6, 31), (6, 7, 0)), ((6, 34), (6, 8, 0)), ((6, 40), (6, 4, 0)), ((6, 64), (6, 3, 0)), ((6, 71), (6, 5, 0)), ((6, 74), (7, 0, 0)), ((6, 77), (7, 1, 0)), ((6, 92), (7, 2, 0)), ((6, 95), (7, 3, 0)), ((6, 98), (7, 4, 0)), ((6, 101), (7, 5, 0)), ((6, 104), (7, 6, 0)), ((7, 9), (7, 7, 0)), ((7, 15), (7, 8, 0)), ((7, 24), (7, 0, 0)), ((7, 28), (7, 1, 0)), ((7, 31), (7, 2, 0)), ((7, 34), (7, 3, 0)), ((7, 37), (7, 4, 0)), ((7, 40), (7, 5, 0)), ((7, 44), (7, 6, 0)), ((8, 9), (8, 0, 0)), ((8, 15), (8, 1, 0)), ((8, 18), (8, 2, 0)), ((8, 21), (8, 3, 0)), ((8, 25), (8, 4, 0)), ((8, 29), (8, 5, 0)), ((8, 32), (8, 6, 0)), ((8, 35), (8, 7, 0)), ((9, 7), (11, 9, 1)), ((9, 13), (11, 1, 1)), ((9, 17), (8, 1, 0)), ((10, 9), (10, 1, 0)), ((10, 15), (10, 2, 0)), ((10, 19), (10, 3, 0)), ((10, 23), (10, 4, 0)), ((10, 26), (10, 5, 0)), ((10, 29), (10, 6, 0)), ((10, 32), (10, 7, 0)), ((10, 35), (10, 8, 0)), ((10, 38), (10, 9, 0)), ((10, 41), (10, 10, 0)), ((10, 44), (10, 0, 0)), ((11, 12), (11, 0, 0)), ((11, 19), (11, 1, 0)), ((11, 23), (11, 2, 0)), ((11, 27), (11, 3, 0)), ((11, 34), (11, 4, 0)), ((11, 40), (11, 5, 0)), ((11, 47), (11, 7, 0)), ((11, 51), (11, 8, 0)), ((11, 54), (11, 9, 0)), ((11, 79), (11, 6, 0)), ((11, 87), (6, 0, 0)), ((11, 101), (8, 3, 0)), ((11, 105), (4, 0, 0)), ((11, 116), (7, 2, 0)), ((11, 119), (7, 3, 0)), ((11, 122), (7, 4, 0)), ((11, 125), (7, 5, 0)), ((11, 128), (7, 6, 0)), ((11, 134), (8, 0, 0)), ((11, 144), (8, 2, 0)), ((11, 169), (8, 1, 0)), ((11, 258), (7, 0, 0)), ((11, 261), (7, 1, 0)), ((12, 7), (12, 0, 0)), ((12, 13), (12, 1, 0)), ((12, 16), (12, 4, 0)), ((12, 19), (12, 5, 0)), ((12, 22), (12, 6, 0)), ((12, 25), (12, 9, 0)), ((12, 29), (12, 11, 0)), ((12, 32), (12, 12, 0)), ((12, 36), (12, 14, 0)), ((12, 39), (12, 15, 0)), ((12, 42), (12, 21, 0)), ((12, 45), (12, 26, 0)), ((12, 48), (12, 27, 0)), ((12, 51), (12, 28, 0)), ((12, 54), (12, 29, 0)), ((12, 57), (12, 30, 0)), ((12, 60), (12, 31, 0)), ((12, 63), (12, 32, 0)), ((12, 66), (12, 33, 0)), ((12, 69), (12, 34, 0)), ((12, 80), (12, 2, 0)), ((12, 89), (12, 10, 0)), ((12, 94), (12, 24, 0)), ((12, 97), (12, 25, 0)), ((12, 120), (12, 17, 0)), ((12, 126), (12, 18, 0)), ((12, 129), (12, 19, 0)), ((12, 132), (12, 20, 0)), ((12, 135), (12, 22, 0)), ((12, 144), (12, 23, 0)), ((12, 167), (12, 3, 0)), ((12, 170), (12, 7, 0)), ((12, 173), (12, 8, 0)), ((12, 176), (12, 13, 0)), ((12, 229), (12, 16, 0)), ((13, 9), (13, 0, 0)), ((13, 15), (13, 1, 0))]
def qst : List ((Nat × Nat) × Value) := [((7, 53), .ref 1000), ((7, 56), .ref 1001), ((13, 38), .int 1), ((13, 1053), .ref 1030)]
def qci : List ((Nat × Nat) × Int32) := [((4, 38), 1073741824), ((10, 54), 99999999), ((10, 63), 1073741824), ((11, 196), 1073741824), ((11, 206), 1073741823), ((11, 250), -1000000), ((11, 267), 999999999), ((12, 202), 100000000), ((12, 243), -1000000), ((17, 265), 1431655765), ((17, 266), 858993459), ((17, 267), 252645135)]
def qcj : List ((Nat × Nat) × Int64) := [((0, 13), 100000), ((1, 13), 100), ((2, 13), 1000), ((3, 13), 10), ((5, 13), 10000), ((12, 87), 8), ((12, 92), 255), ((12, 104), 48), ((12, 106), 57), ((12, 112), 97), ((12, 114), 122), ((12, 116), 32), ((12, 118), 96), ((12, 142), 671470), ((12, 147), 8902245), ((12, 149), 5638647), ((12, 155), 20536), ((12, 160), 150636933), ((12, 162), 8441477), ((12, 185), 3), ((12, 198), 444444444), ((12, 200), 4), ((12, 233), 11), ((12, 235), 101), ((12, 237), 1011), ((12, 239), 10101), ((12, 241), 100001)]
def qcs : List ((Nat × Nat) × Nat) := [((6, 120), 0), ((6, 126), 1), ((6, 128), 2), ((6, 130), 3), ((6, 132), 4), ((6, 134), 5)]
def q_tyf : Nat → Nat → FieldType := fun ci => match ci with
  | 0 => tyX0
  | 1 => tyX1
  | 2 => tyX2
  | 3 => tyX3
  | 4 => tyX4
  | 5 => tyX5
  | 6 => tyX6
  | 7 => tyX7
  | 8 => tyX8
  | 9 => tyX9
  | 10 => tyX10
  | 11 => tyX11
  | 12 => tyX12
  | _ => fun _ => .int
def qstx : List String := ["town", "house", "elbow", "tax", "double", "haste"]
def qsix : List Nat := [120, 126, 128, 130, 132, 134]
def qsln : List Nat := [4, 5, 5, 3, 6, 5]
def qsby : List (List Int32) := [[116, 111, 119, 110], [104, 111, 117, 115, 101], [101, 108, 98, 111, 119], [116, 97, 120], [100, 111, 117, 98, 108, 101], [104, 97, 115, 116, 101]]
def qnest : List Cond := [(Jvm.Cond.fieldLinkNest "StraightTax$Beggar" (7 : Nat) "StraightTax" "marks" "J" "StraightTax"), (Jvm.Cond.fieldLinkNest "StraightTax$Beggar" (19 : Nat) "StraightTax" "errands" "LStraightTax$Errands;" "StraightTax"), (Jvm.Cond.fieldLinkNest "StraightTax$Courtier" (7 : Nat) "StraightTax" "marks" "J" "StraightTax"), (Jvm.Cond.fieldLinkNest "StraightTax$Courtier" (19 : Nat) "StraightTax" "now" "LStraightTax$Walk;" "StraightTax"), (Jvm.Cond.fieldLinkNest "StraightTax$Dancer" (7 : Nat) "StraightTax" "marks" "J" "StraightTax"), (Jvm.Cond.fieldLinkNest "StraightTax$Drover" (7 : Nat) "StraightTax" "marks" "J" "StraightTax"), (Jvm.Cond.fieldLinkNest "StraightTax$Drover" (19 : Nat) "StraightTax" "now" "LStraightTax$Walk;" "StraightTax"), (Jvm.Cond.fieldLinkNest "StraightTax$Lawyer" (7 : Nat) "StraightTax" "marks" "J" "StraightTax"), (Jvm.Cond.fieldLinkNest "StraightTax$Lawyer" (19 : Nat) "StraightTax" "now" "LStraightTax$Walk;" "StraightTax"), (Jvm.Cond.fieldLinkNest "StraightTax$Walker" (7 : Nat) "StraightTax" "marks" "J" "StraightTax"), (Jvm.Cond.fieldLinkNest "StraightTax$Walker" (13 : Nat) "StraightTax" "now" "LStraightTax$Walk;" "StraightTax"), (Jvm.Cond.methodLinkNest "StraightTax$Town" (81 : Nat) ({ cls := "StraightTax", name := "isDirection", desc := "(I)Z" } : Jvm.MethodName) "StraightTax"), (Jvm.Cond.methodLinkNest "StraightTax$Town" (84 : Nat) ({ cls := "StraightTax", name := "isIn", desc := "(II)Z" } : Jvm.MethodName) "StraightTax"), (Jvm.Cond.methodLinkNest "StraightTax$Ways" (119 : Nat) ({ cls := "StraightTax", name := "isIn", desc := "(II)Z" } : Jvm.MethodName) "StraightTax")]
end
section
/-! THE SMALL MACHINE: the class's bytecode over a memory of numbered cells (ints, longs, references apart). No cell is made here. -/
abbrev QV : Type := (Nat → Nat → Int32) × (Nat → Nat → Int64) × (Nat → Nat → Option Nat)
abbrev QL : Type := List (Option Value)
abbrev QH : Type := List (Nat × Nat)
def q_at (l : QL) (i : Nat) : Option Value := l.getD i none
def q_unl : Option Value → Option Value
  | some (.long _) => none
  | some (.double _) => none
  | x => x
def q_st1 : QL → Nat → Value → QL
  | [], _, _ => []
  | _ :: t, 0, v => some v :: t
  | x :: t, 1, v => q_unl x :: q_st1 t 0 v
  | x :: t, i + 2, v => x :: q_st1 t (i + 1) v
def q_st2 : QL → Nat → Value → QL
  | [], _, _ => []
  | [_], 0, _ => []
  | _ :: _ :: t, 0, v => some v :: none :: t
  | x :: t, 1, v => q_unl x :: q_st2 t 0 v
  | x :: t, i + 2, v => x :: q_st2 t (i + 1) v
/-- a method's locals at its entry -/
def q_en : List Value → Nat → QL
  | [], n => List.replicate n none
  | .int v :: t, n + 1 => some (.int v) :: q_en t n
  | .ref v :: t, n + 1 => some (.ref v) :: q_en t n
  | .long v :: t, n + 2 => some (.long v) :: none :: q_en t n
  | _ :: _, n => List.replicate n none
def q_lk {α : Type} (t : List ((Nat × Nat) × α)) (o i : Nat) : Option α := (t.find? (fun e => e.1.1 == o && e.1.2 == i)).map (fun e => e.2)
/-- an instruction: the class that it stands in, what it is, how long -/
def q_dec (j pc : Nat) : Option (Nat × Instr × Nat) := match qmt[j]? with
  | none => none
  | some r => match decode r.2.1 pc with
    | .error _ => none
    | .ok (i, n) => some (r.1, i, n)
def q_rt (j : Nat) : Option (Option FieldType) := (qmt[j]?).map (fun r => r.2.2.2.2.1)
/-- its end -/
def q_ret (j : Nat) (i : Instr) (n : Nat) (st : List Value) : Option (Option Value) := match i with
  | .ireturn => match st with
    | [.int v] => if n = 1 then (match q_rt j with
      | some (some ty) => if narrow ty (.int v) = .int v then some (some (.int v)) else none
      | _ => none) else none
    | _ => none
  | .lreturn => match st with
    | [.long v] => if n = 1 ∧ q_rt j = some (some .long) then some (some (.long v)) else none
    | _ => none
  | .return_ => match st with
    | [] => if n = 1 ∧ q_rt j = some none then some none else none
    | _ => none
  | _ => none
/-- the kind of a cell: of this world's own, or a text constant -/
def q_cls (sh : QH) (c : Nat) : Option Nat := match sh[c]? with
  | some (k, _) => some k
  | none => if 1010 ≤ c ∧ c < 1016 then some 13 else none
def q_np (j : Nat) : Nat := (qmt[j]?).elim 0 (fun r => r.2.2.2.2.2)
def q_own (j : Nat) : Nat := (qmt[j]?).elim 99 (fun r => r.1)
def q_ml (j : Nat) : Nat := (qmt[j]?).elim 0 (fun r => r.2.2.1)
def q_nm (j : Nat) : String := (qmt[j]?).elim "" (fun r => r.2.2.2.1.name)
/-- a call: the method, what it is given, what stays on the stack -/
def q_call (sh : QH) (o : Nat) (i : Instr) (n : Nat) (st : List Value) : Option (Nat × List Value × List Value) := match i with
  | .invokevirtual x => match q_lk qct o x with
    | some (0, j) => match st.drop (q_np j) with
      | .ref c :: r => if n = 3 ∧ q_cls sh c = some (q_own j) ∧ (r.map fun v => v.category).sum ≤ 8 then some (j, .ref c :: (st.take (q_np j)).reverse, r) else none
      | _ => none
    | some (4, j0) => match st.drop (q_np j0) with
      | .ref c :: r => match q_cls sh c with
        | some k => match (qdt.find? (fun e => e.1 == k)) with
          | some (_, j) => if n = 3 ∧ c < sh.length ∧ (r.map fun v => v.category).sum ≤ 8 then some (j, .ref c :: (st.take (q_np j0)).reverse, r) else none
          | none => none
        | none => none
      | _ => none
    | _ => none
  | .invokestatic x => match q_lk qct o x with
    | some (1, j) => if n = 3 ∧ q_np j ≤ st.length ∧ ((st.drop (q_np j)).map fun v => v.category).sum ≤ 8 then some (j, (st.take (q_np j)).reverse, st.drop (q_np j)) else none
    | some (2, j) => if n = 3 ∧ q_np j ≤ st.length ∧ ((st.drop (q_np j)).map fun v => v.category).sum ≤ 8 then some (j, (st.take (q_np j)).reverse, st.drop (q_np j)) else none
    | _ => none
  | .invokespecial x => match q_lk qct o x with
    | some (3, j) => match st.drop (q_np j) with
      | .ref c :: r => match q_cls sh c with
        | some k => if n = 3 ∧ c < sh.length ∧ k < 13 ∧ (r.map fun v => v.category).sum ≤ 8 then some (j, .ref c :: (st.take (q_np j)).reverse, r) else none
        | none => none
      | _ => none
    | _ => none
  | _ => none
abbrev QN : Type := Nat × QL × List Value
def q_ldI (k i n pc : Nat) (ls : QL) (st : List Value) : Option QN := match q_at ls i with
  | some (.int x) => if n = k then some (pc + k, ls, .int x :: st) else none
  | _ => none
def q_ldL (k i n pc : Nat) (ls : QL) (st : List Value) : Option QN := match q_at ls i with
  | some (.long x) => if n = k then some (pc + k, ls, .long x :: st) else none
  | _ => none
def q_ldA (k i n pc : Nat) (ls : QL) (st : List Value) : Option QN := match q_at ls i with
  | some (.ref x) => if n = k then some (pc + k, ls, .ref x :: st) else none
  | _ => none
def q_stI (k i n pc : Nat) (ls : QL) (st : List Value) : Option QN := match st with
  | .int x :: r => if n = k ∧ i < ls.length then some (pc + k, q_st1 ls i (.int x), r) else none
  | _ => none
def q_stL (k i n pc : Nat) (ls : QL) (st : List Value) : Option QN := match st with
  | .long x :: r => if n = k ∧ i + 1 < ls.length then some (pc + k, q_st2 ls i (.long x), r) else none
  | _ => none
def q_stA (k i n pc : Nat) (ls : QL) (st : List Value) : Option QN := match st with
  | .ref x :: r => if n = k ∧ i < ls.length then some (pc + k, q_st1 ls i (.ref x), r) else none
  | _ => none
def q_b (f : Int32 → Int32 → Int32) (n pc : Nat) (ls : QL) (st : List Value) : Option QN := match st with
  | .int y :: .int x :: r => if n = 1 then some (pc + 1, ls, .int (f x y) :: r) else none
  | _ => none
def q_bz (f : Int32 → Int32 → Int32) (n pc : Nat) (ls : QL) (st : List Value) : Option QN := match st with
  | .int y :: .int x :: r => if n = 1 ∧ ¬ y = 0 then some (pc + 1, ls, .int (f x y) :: r) else none
  | _ => none
def q_bl (f : Int64 → Int64 → Int64) (n pc : Nat) (ls : QL) (st : List Value) : Option QN := match st with
  | .long y :: .long x :: r => if n = 1 then some (pc + 1, ls, .long (f x y) :: r) else none
  | _ => none
def q_u (f : Int32 → Int32) (n pc : Nat) (ls : QL) (st : List Value) : Option QN := match st with
  | .int x :: r => if n = 1 then some (pc + 1, ls, .int (f x) :: r) else none
  | _ => none
def q_cd (c : Jvm.ClassFile.Cond) (x y : Int32) : Bool := match c with
  | .eq => x = y
  | .ne => ¬ x = y
  | .lt => x < y
  | .ge => y ≤ x
  | .gt => y < x
  | .le => x ≤ y
def q_to (pc : Nat) (off : Int) : Nat := ((pc : Int) + off).toNat
/-- what touches neither memory nor frames -/
def q_s (o : Nat) (i : Instr) (n pc : Nat) (ls : QL) (st : List Value) : Option QN := match i with
  | .iconst k => if n = 1 then some (pc + 1, ls, .int (Int32.ofInt k) :: st) else none
  | .bipush k => if n = 2 then some (pc + 2, ls, .int (Int8.ofInt k).toInt32 :: st) else none
  | .sipush k => if n = 3 then some (pc + 3, ls, .int (Int16.ofInt k).toInt32 :: st) else none
  | .lconst k => if n = 1 then some (pc + 1, ls, .long (Int64.ofNat (k : Nat)) :: st) else none
  | .ldc x => if n = 2 then (match q_lk qci o x with
    | some v => some (pc + 2, ls, .int v :: st)
    | none => match q_lk qcs o x with
      | some k => some (pc + 2, ls, .ref (1010 + k) :: st)
      | none => none) else none
  | .ldc_w x => if n = 3 then (match q_lk qci o x with
    | some v => some (pc + 3, ls, .int v :: st)
    | none => none) else none
  | .ldc2_w x => if n = 3 then (match q_lk qcj o x with
    | some v => some (pc + 3, ls, .long v :: st)
    | none => none) else none
  | .iload_n k => q_ldI 1 k n pc ls st
  | .iload k => q_ldI 2 k n pc ls st
  | .lload_n k => q_ldL 1 k n pc ls st
  | .lload k => q_ldL 2 k n pc ls st
  | .aload_n k => q_ldA 1 k n pc ls st
  | .aload k => q_ldA 2 k n pc ls st
  | .istore_n k => q_stI 1 k n pc ls st
  | .istore k => q_stI 2 k n pc ls st
  | .lstore_n k => q_stL 1 k n pc ls st
  | .lstore k => q_stL 2 k n pc ls st
  | .astore_n k => q_stA 1 k n pc ls st
  | .astore k => q_stA 2 k n pc ls st
  | .iinc k z => match q_at ls k with
    | some (.int x) => if n = 3 ∧ k < ls.length then some (pc + 3, q_st1 ls k (.int (x + Int32.ofInt z)), st) else none
    | _ => none
  | .iadd => q_b (fun x y => x + y) n pc ls st
  | .isub => q_b (fun x y => x - y) n pc ls st
  | .imul => q_b (fun x y => x * y) n pc ls st
  | .iand => q_b (fun x y => x &&& y) n pc ls st
  | .ior => q_b (fun x y => x ||| y) n pc ls st
  | .ixor => q_b (fun x y => x ^^^ y) n pc ls st
  | .ishl => q_b (fun x y => x <<< (y &&& 31)) n pc ls st
  | .ishr => q_b (fun x y => x >>> (y &&& 31)) n pc ls st
  | .iushr => q_b (fun x y => (x.toUInt32 >>> (y.toUInt32 &&& Int32.toUInt32 31)).toInt32) n pc ls st
  | .idiv => q_bz (fun x y => x / y) n pc ls st
  | .irem => q_bz (fun x y => x - x / y * y) n pc ls st
  | .ineg => q_u (fun x => -x) n pc ls st
  | .i2b => q_u (fun x => x.toInt8.toInt32) n pc ls st
  | .i2c => q_u (fun x => (x.toUInt32 % 65536).toInt32) n pc ls st
  | .ladd => q_bl (fun x y => x + y) n pc ls st
  | .lsub => q_bl (fun x y => x - y) n pc ls st
  | .lmul => q_bl (fun x y => x * y) n pc ls st
  | .land => q_bl (fun x y => x &&& y) n pc ls st
  | .lshr => match st with
    | .int y :: .long x :: r => if n = 1 then some (pc + 1, ls, .long (x >>> (y.toInt64 &&& 63)) :: r) else none
    | _ => none
  | .i2l => match st with
    | .int x :: r => if n = 1 then some (pc + 1, ls, .long x.toInt64 :: r) else none
    | _ => none
  | .l2i => match st with
    | .long x :: r => if n = 1 then some (pc + 1, ls, .int x.toInt32 :: r) else none
    | _ => none
  | .lcmp => match st with
    | .long y :: .long x :: r => if n = 1 then some (pc + 1, ls, .int (lg_cmp x y) :: r) else none
    | _ => none
  | .dup => match st with
    | .int x :: r => if n = 1 then some (pc + 1, ls, .int x :: .int x :: r) else none
    | .ref x :: r => if n = 1 then some (pc + 1, ls, .ref x :: .ref x :: r) else none
    | _ => none
  | .dup2 => match st with
    | .int y :: .ref x :: r => if n = 1 then some (pc + 1, ls, .int y :: .ref x :: .int y :: .ref x :: r) else none
    | _ => none
  | .pop => match st with
    | .int _ :: r => if n = 1 then some (pc + 1, ls, r) else none
    | _ => none
  | .ifCond c off => match st with
    | .int x :: r => if n = 3 ∧ 0 ≤ (pc : Int) + off then some (bif q_cd c x 0 then q_to pc off else pc + 3, ls, r) else none
    | _ => none
  | .if_icmp c off => match st with
    | .int y :: .int x :: r => if n = 3 ∧ 0 ≤ (pc : Int) + off then some (bif q_cd c x y then q_to pc off else pc + 3, ls, r) else none
    | _ => none
  | .goto off => if n = 3 ∧ 0 ≤ (pc : Int) + off then some (q_to pc off, ls, st) else none
  | .tableswitch df lo hi offs => match st with
    | .int x :: r => if x.toInt < lo ∨ hi < x.toInt then (if 0 ≤ (pc : Int) + df then some (q_to pc df, ls, r) else none) else (match offs[(x.toInt - lo).toNat]? with
      | some off => if 0 ≤ (pc : Int) + off then some (q_to pc off, ls, r) else none
      | none => none)
    | _ => none
  | _ => none
def q_rf (r : Option Nat) : Value := match r with
  | none => .null
  | some a => .ref a
def q_rd (V : QV) (c k : Nat) (ty : FieldType) : Value := match ty with
  | .long => .long (V.2.1 c k)
  | .object _ => q_rf (V.2.2 c k)
  | .array _ => q_rf (V.2.2 c k)
  | _ => .int (V.1 c k)
def q_up {α : Type} (f : Nat → Nat → α) (c k : Nat) (v : α) : Nat → Nat → α := fun c' k' => if c' = c ∧ k' = k then v else f c' k'
def q_uI (V : QV) (c k : Nat) (v : Int32) : QV := (q_up V.1 c k v, V.2)
def q_uL (V : QV) (c k : Nat) (v : Int64) : QV := (V.1, q_up V.2.1 c k v, V.2.2)
def q_uR (V : QV) (c k : Nat) (v : Option Nat) : QV := (V.1, V.2.1, q_up V.2.2 c k v)
def q_wr (V : QV) (c k : Nat) (ty : FieldType) (v : Value) : Option QV := match ty with
  | .long => match v with
    | .long x => some (q_uL V c k x)
    | _ => none
  | .object _ => match v with
    | .ref a => if a < 1000 then some (q_uR V c k (some a)) else none
    | _ => none
  | .int => match v with
    | .int x => some (q_uI V c k x)
    | _ => none
  | .boolean => match v with
    | .int x => if x = 0 ∨ x = 1 then some (q_uI V c k x) else none
    | _ => none
  | _ => none
/-- the arrays and objects that stand there before the law begins -/
def q_roI (c : Nat) : Option (List Int32) := match c with
  | 1000 => some [0, 1, 0, -1]
  | 1001 => some [-1, 0, 1, 0]
  | _ => none
def q_roB (c : Nat) : Option (List Int32) := if 1020 ≤ c ∧ c < 1026 then qsby[c - 1020]? else none
def q_roF (c k : Nat) : Option Value := if 1010 ≤ c ∧ c < 1016 then (if k = 0 then some (.ref (c + 10)) else some (.int 0)) else none
def q_in (x : Int32) (n : Nat) : Prop := 0 ≤ x.toInt ∧ x.toInt < n
abbrev q_ix (x : Int32) : Nat := x.toInt.toNat
def q_cp (f : Nat → Nat → Int32) (c0 c1 s0 s1 n : Nat) : Nat → Nat → Int32 := fun c k => if c = c1 then va_cpy (f c0) (f c1) s0 s1 n k else f c k
def q_nf (ci k : Nat) : Bool := match vwCl[ci]? with
  | some q => decide (k < q.2.2) && !(q.2.1 k).2.2.2
  | none => false
def q_kf (ci k : Nat) : Bool := match vwCl[ci]? with
  | some q => decide (k < q.2.2)
  | none => false
/-- what reads or writes memory; kinds of arrays: 100 int, 101 byte, 102 boolean, 103 Walk, 104 Walker -/
def q_m (sh : QH) (o : Nat) (i : Instr) (n pc : Nat) (st : List Value) (V : QV) : Option (Nat × List Value × QV) := match i with
  | .getfield x => match st with
    | .ref c :: r => match q_lk qft o x with
      | some (13, k, _) => match q_roF c k with
        | some v => if n = 3 ∧ o = 13 then some (pc + 3, v :: r, V) else none
        | none => none
      | some (ci, k, _) => match sh[c]? with
        | some (ci', _) => if n = 3 ∧ ci' = ci ∧ q_kf ci k = true then some (pc + 3, q_rd V c k (q_tyf ci k) :: r, V) else none
        | none => none
      | none => none
    | _ => none
  | .putfield x => match st with
    | v :: .ref c :: r => match q_lk qft o x with
      | some (ci, k, _) => match sh[c]? with
        | some (ci', _) => if n = 3 ∧ ci' = ci ∧ q_nf ci k = true then (match q_wr V c k (q_tyf ci k) v with
          | some V' => some (pc + 3, r, V')
          | none => none) else none
        | none => none
      | none => none
    | _ => none
  | .getstatic x => match q_lk qst o x with
    | some v => if n = 3 then some (pc + 3, v :: st, V) else none
    | none => none
  | .iaload => match st with
    | .int j :: .ref c :: r => match sh[c]? with
      | some (100, z) => if n = 1 ∧ (0 ≤ j.toInt ∧ j.toInt < z) then some (pc + 1, .int (V.1 c (q_ix j)) :: r, V) else none
      | some _ => none
      | none => match q_roI c with
        | some a => if n = 1 ∧ (0 ≤ j.toInt ∧ j.toInt < a.length) then some (pc + 1, .int (a.getD (q_ix j) 0) :: r, V) else none
        | none => none
    | _ => none
  | .baload => match st with
    | .int j :: .ref c :: r => match sh[c]? with
      | some (101, z) => if n = 1 ∧ (0 ≤ j.toInt ∧ j.toInt < z) then some (pc + 1, .int (V.1 c (q_ix j)) :: r, V) else none
      | some (102, z) => if n = 1 ∧ (0 ≤ j.toInt ∧ j.toInt < z) then some (pc + 1, .int (V.1 c (q_ix j)) :: r, V) else none
      | some _ => none
      | none => match q_roB c with
        | some a => if n = 1 ∧ (0 ≤ j.toInt ∧ j.toInt < a.length) then some (pc + 1, .int (a.getD (q_ix j) 0) :: r, V) else none
        | none => none
    | _ => none
  | .aaload => match st with
    | .int j :: .ref c :: r => match sh[c]? with
      | some (103, z) => (match V.2.2 c (q_ix j) with
        | some a => if n = 1 ∧ (0 ≤ j.toInt ∧ j.toInt < z) ∧ a < 1000 then some (pc + 1, .ref a :: r, V) else none
        | none => none)
      | some (104, z) => (match V.2.2 c (q_ix j) with
        | some a => if n = 1 ∧ (0 ≤ j.toInt ∧ j.toInt < z) ∧ a < 1000 then some (pc + 1, .ref a :: r, V) else none
        | none => none)
      | _ => none
    | _ => none
  | .iastore => match st with
    | .int v :: .int j :: .ref c :: r => match sh[c]? with
      | some (100, z) => if n = 1 ∧ (0 ≤ j.toInt ∧ j.toInt < z) then some (pc + 1, r, q_uI V c (q_ix j) v) else none
      | _ => none
    | _ => none
  | .bastore => match st with
    | .int v :: .int j :: .ref c :: r => match sh[c]? with
      | some (101, z) => if n = 1 ∧ (0 ≤ j.toInt ∧ j.toInt < z) then some (pc + 1, r, q_uI V c (q_ix j) v.toInt8.toInt32) else none
      | some (102, z) => if n = 1 ∧ (0 ≤ j.toInt ∧ j.toInt < z) ∧ (v = 0 ∨ v = 1) then some (pc + 1, r, q_uI V c (q_ix j) v) else none
      | _ => none
    | _ => none
  | .arraylength => match st with
    | .ref c :: r => match sh[c]? with
      | some (k, z) => if n = 1 ∧ k = 100 then some (pc + 1, .int (Int32.ofNat z) :: r, V) else none
      | none => match q_roB c with
        | some a => if n = 1 then some (pc + 1, .int (Int32.ofNat a.length) :: r, V) else none
        | none => none
    | _ => none
  | .invokestatic x => match q_lk qct o x with
    | some (5, _) => match st with
      | .int m :: .int dp :: .ref c1 :: .int sp :: .ref c0 :: r => match sh[c0]?, sh[c1]? with
        | some (100, z0), some (100, z1) => if n = 3 ∧ 0 ≤ sp.toInt ∧ 0 ≤ dp.toInt ∧ 0 ≤ m.toInt ∧ q_ix sp + q_ix m ≤ z0 ∧ q_ix dp + q_ix m ≤ z1 ∧ (r.map fun v => v.category).sum ≤ 8 then some (pc + 3, r, (q_cp V.1 c0 c1 (q_ix sp) (q_ix dp) (q_ix m), V.2)) else none
        | _, _ => none
      | _ => none
    | _ => none
  | _ => none
/-- one step, over what is done behind it -/
def q_go (sh : QH) (rec : Nat → Nat → Nat → QL → List Value → QV → Option (Option Value × QV)) (d j pc : Nat) (ls : QL) (st : List Value) (V : QV) : Option (Option Value × QV) := match q_dec j pc with
  | none => none
  | some (o, i, len) => match q_ret j i len st with
    | some v => some (v, V)
    | none => match q_call sh o i len st with
      | some (j2, as, r) => match d with
        | 0 => none
        | d2 + 1 => if (as.map fun v => v.category).sum ≤ q_ml j2 then (match rec d2 j2 0 (q_en as (q_ml j2)) [] V with
          | none => none
          | some (v, V2) => rec (d2 + 1) j (pc + 3) ls (v.toList ++ r) V2) else none
      | none => match q_s o i len pc ls st with
        | some (pc2, ls2, st2) => rec d j pc2 ls2 st2 V
        | none => match q_m sh o i len pc st V with
          | some (pc2, st2, V2) => rec d j pc2 ls st2 V2
          | none => none
def am (sh : QH) : Nat → Nat → Nat → Nat → QL → List Value → QV → Option (Option Value × QV)
  | 0 => fun _ _ _ _ _ _ => none
  | n + 1 => q_go sh (am sh n)
end
section
/-! RULES OF THE SMALL MACHINE -/
theorem q_go_mono {sh : QH} {rec rec' : Nat → Nat → Nat → QL → List Value → QV → Option (Option Value × QV)} (e : Nat) (h : ∀ d j pc ls st V r, rec d j pc ls st V = some r → rec' (d + e) j pc ls st V = some r) {d j pc : Nat} {ls : QL} {st : List Value} {V : QV} {r : Option Value × QV} (hg : q_go sh rec d j pc ls st V = some r) : q_go sh rec' (d + e) j pc ls st V = some r := by
  unfold q_go at hg ⊢
  cases hd : q_dec j pc with
  | none => rw [hd] at hg; cases hg
  | some x =>
    obtain ⟨o, i, len⟩ := x
    rw [hd] at hg
    dsimp only at hg ⊢
    cases hr : q_ret j i len st with
    | some v => rw [hr] at hg; exact hg
    | none =>
      rw [hr] at hg
      dsimp only at hg ⊢
      cases hc : q_call sh o i len st with
      | some y =>
        obtain ⟨j2, as, r2⟩ := y
        rw [hc] at hg
        dsimp only at hg ⊢
        cases d with
        | zero => cases hg
        | succ d2 =>
          have e1 : d2 + 1 + e = (d2 + e) + 1 := by omega
          rw [e1]
          dsimp only at hg ⊢
          by_cases hfit : (as.map fun v => v.category).sum ≤ q_ml j2
          · rw [if_pos hfit] at hg ⊢
            cases ha : rec d2 j2 0 (q_en as (q_ml j2)) [] V with
            | none => rw [ha] at hg; cases hg
            | some w =>
              obtain ⟨v, V2⟩ := w
              rw [ha] at hg
              rw [h _ _ _ _ _ _ _ ha]
              dsimp only at hg ⊢
              have := h _ _ _ _ _ _ _ hg
              rw [e1] at this
              exact this
          · rw [if_neg hfit] at hg; cases hg
      | none =>
        rw [hc] at hg
        dsimp only at hg ⊢
        cases hs : q_s o i len pc ls st with
        | some y =>
          rw [hs] at hg
          exact h _ _ _ _ _ _ _ hg
        | none =>
          rw [hs] at hg
          dsimp only at hg ⊢
          cases hm : q_m sh o i len pc st V with
          | some y =>
            rw [hm] at hg
            exact h _ _ _ _ _ _ _ hg
          | none => rw [hm] at hg; cases hg
theorem am_mono {sh : QH} (k e : Nat) : ∀ (n d j pc : Nat) (ls : QL) (st : List Value) (V : QV) (r : Option Value × QV), am sh n d j pc ls st V = some r → am sh (n + k) (d + e) j pc ls st V = some r
  | 0, _, _, _, _, _, _, _, h => by cases h
  | n + 1, d, j, pc, ls, st, V, r, h => by
    have e1 : n + 1 + k = (n + k) + 1 := by omega
    rw [e1]
    exact q_go_mono e (fun d j pc ls st V r h => am_mono k e n d j pc ls st V r h) h
/-- from here it comes to its end, and then Q -/
def G (sh : QH) (d j pc : Nat) (ls : QL) (st : List Value) (V : QV) (Q : Option Value → QV → Prop) : Prop := ∃ n r V', am sh n d j pc ls st V = some (r, V') ∧ Q r V'
section GR
variable {sh : QH} {d j pc o : Nat} {ls : QL} {st : List Value} {V : QV} {Q : Option Value → QV → Prop}
theorem G.mono {Q2 : Option Value → QV → Prop} (h : G sh d j pc ls st V Q) (hq : ∀ r V', Q r V' → Q2 r V') : G sh d j pc ls st V Q2 := by
  obtain ⟨n, r, V', h1, h2⟩ := h
  exact ⟨n, r, V', h1, hq r V' h2⟩
theorem G.deep (e : Nat) (h : G sh d j pc ls st V Q) : G sh (d + e) j pc ls st V Q := by
  obtain ⟨n, r, V', h1, h2⟩ := h
  exact ⟨n, r, V', by simpa using am_mono 0 e n d j pc ls st V _ h1, h2⟩
theorem g_r {i : Instr} {n : Nat} {v : Option Value} (hd : q_dec j pc = some (o, i, n)) (hr : q_ret j i n st = some v) (hq : Q v V) : G sh d j pc ls st V Q := by
  refine ⟨1, v, V, ?_, hq⟩
  show q_go sh (am sh 0) d j pc ls st V = _
  unfold q_go
  rw [hd]; dsimp only; rw [hr]
theorem g_s {i : Instr} {n pc2 : Nat} {ls2 : QL} {st2 : List Value} (hd : q_dec j pc = some (o, i, n)) (hr : q_ret j i n st = none) (hc : q_call sh o i n st = none) (hs : q_s o i n pc ls st = some (pc2, ls2, st2)) (k : G sh d j pc2 ls2 st2 V Q) : G sh d j pc ls st V Q := by
  obtain ⟨m, r, V', h1, h2⟩ := k
  refine ⟨m + 1, r, V', ?_, h2⟩
  show q_go sh (am sh m) d j pc ls st V = _
  unfold q_go
  rw [hd]; dsimp only; rw [hr]; dsimp only; rw [hc]; dsimp only; rw [hs]; exact h1
theorem g_m {i : Instr} {n pc2 : Nat} {st2 : List Value} {V2 : QV} (hd : q_dec j pc = some (o, i, n)) (hr : q_ret j i n st = none) (hc : q_call sh o i n st = none) (hs : q_s o i n pc ls st = none) (hm : q_m sh o i n pc st V = some (pc2, st2, V2)) (k : G sh d j pc2 ls st2 V2 Q) : G sh d j pc ls st V Q := by
  obtain ⟨m, r, V', h1, h2⟩ := k
  refine ⟨m + 1, r, V', ?_, h2⟩
  show q_go sh (am sh m) d j pc ls st V = _
  unfold q_go
  rw [hd]; dsimp only; rw [hr]; dsimp only; rw [hc]; dsimp only; rw [hs]; dsimp only; rw [hm]; exact h1
/-- a call: from the callee's own contract -/
theorem g_c {i : Instr} {n j2 : Nat} {as r : List Value} {Q2 : Option Value → QV → Prop} (hd : q_dec j pc = some (o, i, n)) (hr : q_ret j i n st = none) (hc : q_call sh o i n st = some (j2, as, r)) (hfit : (as.map fun v => v.category).sum ≤ q_ml j2) (hk : G sh d j2 0 (q_en as (q_ml j2)) [] V Q2) (k : ∀ v V2, Q2 v V2 → G sh (d + 1) j (pc + 3) ls (v.toList ++ r) V2 Q) : G sh (d + 1) j pc ls st V Q := by
  obtain ⟨m1, v, V2, a1, a2⟩ := hk
  obtain ⟨m2, w, V3, b1, b2⟩ := k v V2 a2
  refine ⟨(m1 + m2) + 1, w, V3, ?_, b2⟩
  show q_go sh (am sh (m1 + m2)) (d + 1) j pc ls st V = _
  unfold q_go
  rw [hd]; dsimp only; rw [hr]; dsimp only; rw [hc]; dsimp only
  rw [if_pos hfit]
  rw [show am sh (m1 + m2) d j2 0 (q_en as (q_ml j2)) [] V = some (v, V2) from am_mono m2 0 m1 d j2 0 _ _ V _ a1]
  dsimp only
  rw [Nat.add_comm m1 m2]
  exact am_mono m1 0 m2 (d + 1) j (pc + 3) ls _ V2 _ b1
end GR
end
section
/-! THE SMALL MACHINE IS TRUE TO THE MACHINE, 1: locals, and what touches no memory -/
def q_lf (av : Nat → Value) : Value → Value
  | .ref c => av c
  | v => v
/-- where the numbered cells lie: only 1030 may be null -/
def q_AV (av : Nat → Value) : Prop := (∀ c, c ≠ 1030 → ∃ a, av c = .ref a) ∧ ((∃ a, av 1030 = .ref a) ∨ av 1030 = .null)
theorem q_AV.cat {av : Nat → Value} (h : q_AV av) (v : Value) : (q_lf av v).category = v.category := by
  cases v <;> try rfl
  rename_i c
  show (av c).category = 1
  by_cases hc : c = 1030
  · subst hc
    rcases h.2 with ⟨a, ha⟩ | ha <;> rw [ha] <;> rfl
  · obtain ⟨a, ha⟩ := h.1 c hc
    rw [ha]; rfl
theorem q_AV.refOrNull {av : Nat → Value} (h : q_AV av) (c : Nat) : (∃ a, av c = .ref a) ∨ av c = .null := by
  by_cases hc : c = 1030
  · subst hc; exact h.2
  · exact Or.inl (h.1 c hc)
theorem q_AV.sum {av : Nat → Value} (h : q_AV av) (l : List Value) : ((l.map (q_lf av)).map fun v => v.category).sum = (l.map fun v => v.category).sum := by
  rw [List.map_map]
  congr 1
  exact List.map_congr_left (fun v _ => h.cat v)
def q_asc (av : Nat → Value) (l : QL) : List (Nat × Value) := (List.range l.length).filterMap (fun i => (q_at l i).map (fun v => (i, q_lf av v)))
theorem q_at_lt {l : QL} {i : Nat} {v : Value} (h : q_at l i = some v) : i < l.length := by
  unfold q_at at h
  rcases Nat.lt_or_ge i l.length with hi | hi
  · exact hi
  · rw [List.getD_eq_getElem?_getD, List.getElem?_eq_none hi] at h; cases h
theorem q_asc_mem {av : Nat → Value} {l : QL} {q : Nat × Value} : q ∈ q_asc av l ↔ ∃ v, q_at l q.1 = some v ∧ q.2 = q_lf av v := by
  unfold q_asc
  rw [List.mem_filterMap]
  constructor
  · rintro ⟨i, hi, h⟩
    cases hv : q_at l i with
    | none => rw [hv] at h; cases h
    | some v => rw [hv] at h; cases h; exact ⟨v, hv, rfl⟩
  · rintro ⟨v, h1, h2⟩
    refine ⟨q.1, List.mem_range.mpr (q_at_lt h1), ?_⟩
    rw [h1]
    show some (q.1, q_lf av v) = some q
    rw [← h2]
def q_LR (av : Nat → Value) (LS : Array Slot) (nL : Nat) (l : QL) : Prop := l.length = nL ∧ lv_has LS nL (q_asc av l)
theorem q_LR.get {av : Nat → Value} {LS : Array Slot} {nL : Nat} {l : QL} (h : q_LR av LS nL l) {i : Nat} {v : Value} (hv : q_at l i = some v) : LS[i]? = some (.val (q_lf av v)) := h.2.2.2 (i, q_lf av v) (q_asc_mem.mpr ⟨v, hv, rfl⟩)
theorem q_st1_len : ∀ (l : QL) (i : Nat) (v : Value), (q_st1 l i v).length = l.length
  | [], _, _ => rfl
  | _ :: t, 0, v => rfl
  | x :: t, 1, v => by simp [q_st1, q_st1_len t 0 v]
  | x :: t, i + 2, v => by simp [q_st1, q_st1_len t (i + 1) v]
theorem q_at_S (x : Option Value) (t : QL) (k : Nat) : q_at (x :: t) (k + 1) = q_at t k := rfl
theorem q_at_0 (x : Option Value) (t : QL) : q_at (x :: t) 0 = x := by cases x <;> rfl
theorem q_unl_some {x : Option Value} {w : Value} (h : q_unl x = some w) : x = some w ∧ ¬ w.category = 2 := by
  cases x with
  | none => cases h
  | some v => cases v <;> first | (cases h; exact ⟨rfl, by simp [Value.category]⟩) | cases h
theorem q_st1_at : ∀ (l : QL) (i : Nat) (v : Value) (k : Nat) (w : Value), q_at (q_st1 l i v) k = some w → (k = i ∧ w = v) ∨ (k ≠ i ∧ q_at l k = some w ∧ ¬ (k + 1 = i ∧ w.category = 2))
  | [], _, _, k, w, h => by cases k <;> cases h
  | x :: t, 0, v, 0, w, h => by cases h; exact Or.inl ⟨rfl, rfl⟩
  | x :: t, 0, v, k + 1, w, h => Or.inr ⟨by omega, h, by omega⟩
  | x :: t, 1, v, 0, w, h => by
    rw [q_st1, q_at_0] at h
    obtain ⟨h1, h2⟩ := q_unl_some h
    exact Or.inr ⟨by omega, by rw [q_at_0]; exact h1, fun z => h2 z.2⟩
  | x :: t, 1, v, k + 1, w, h => by
    rw [q_st1, q_at_S] at h
    rcases q_st1_at t 0 v k w h with ⟨h1, h2⟩ | ⟨h1, h2, h3⟩
    · exact Or.inl ⟨by omega, h2⟩
    · exact Or.inr ⟨by omega, h2, by omega⟩
  | x :: t, i + 2, v, 0, w, h => Or.inr ⟨by omega, h, by omega⟩
  | x :: t, i + 2, v, k + 1, w, h => by
    rw [q_st1, q_at_S] at h
    rcases q_st1_at t (i + 1) v k w h with ⟨h1, h2⟩ | ⟨h1, h2, h3⟩
    · exact Or.inl ⟨by omega, h2⟩
    · exact Or.inr ⟨by omega, h2, fun z => h3 ⟨by omega, z.2⟩⟩
theorem q_LR.st1 {av : Nat → Value} (hav : q_AV av) {LS LS' : Array Slot} {nL : Nat} {l : QL} (h : q_LR av LS nL l) {i : Nat} {v : Value} (h' : lv_has LS' nL ((i, q_lf av v) :: (q_asc av l).filter (fun q => !(q.1 == i) && !(q.1 + 1 == i && q.2.category == 2)))) : q_LR av LS' nL (q_st1 l i v) := by
  refine ⟨(q_st1_len l i v).trans h.1, h'.1, h'.2.1, fun q hq => h'.2.2 q ?_⟩
  obtain ⟨w, h1, h2⟩ := q_asc_mem.mp hq
  rcases q_st1_at l i v q.1 w h1 with ⟨e1, e2⟩ | ⟨e1, e2, e3⟩
  · refine List.mem_cons.mpr (Or.inl ?_)
    rw [← e1, ← e2, ← h2]
  · refine List.mem_cons.mpr (Or.inr (List.mem_filter.mpr ⟨q_asc_mem.mpr ⟨w, e2, h2⟩, ?_⟩))
    have e4 : q.2.category = w.category := by rw [h2]; exact hav.cat w
    simp only [Bool.and_eq_true, Bool.not_eq_true', beq_eq_false_iff_ne, ne_eq, Bool.and_eq_false_imp, beq_iff_eq]
    exact ⟨e1, fun z => by rw [e4]; exact fun y => e3 ⟨z, y⟩⟩
theorem q_st2_at : ∀ (l : QL) (i : Nat) (v : Value) (k : Nat) (w : Value), q_at (q_st2 l i v) k = some w → (k = i ∧ w = v) ∨ (k ≠ i ∧ k ≠ i + 1 ∧ q_at l k = some w ∧ ¬ (k + 1 = i ∧ w.category = 2))
  | [], _, _, k, w, h => by cases k <;> cases h
  | [_], 0, _, k, w, h => by cases k <;> cases h
  | x :: y :: t, 0, v, 0, w, h => by cases h; exact Or.inl ⟨rfl, rfl⟩
  | x :: y :: t, 0, v, 1, w, h => by cases h
  | x :: y :: t, 0, v, k + 2, w, h => Or.inr ⟨by omega, by omega, h, by omega⟩
  | x :: t, 1, v, 0, w, h => by
    rw [q_st2, q_at_0] at h
    obtain ⟨h1, h2⟩ := q_unl_some h
    exact Or.inr ⟨by omega, by omega, by rw [q_at_0]; exact h1, fun z => h2 z.2⟩
  | x :: t, 1, v, k + 1, w, h => by
    rw [q_st2, q_at_S] at h
    rcases q_st2_at t 0 v k w h with ⟨h1, h2⟩ | ⟨h1, h0, h2, h3⟩
    · exact Or.inl ⟨by omega, h2⟩
    · exact Or.inr ⟨by omega, by omega, h2, by omega⟩
  | x :: t, i + 2, v, 0, w, h => Or.inr ⟨by omega, by omega, by rw [q_st2] at h; exact h, by omega⟩
  | x :: t, i + 2, v, k + 1, w, h => by
    rw [q_st2, q_at_S] at h
    rcases q_st2_at t (i + 1) v k w h with ⟨h1, h2⟩ | ⟨h1, h0, h2, h3⟩
    · exact Or.inl ⟨by omega, h2⟩
    · exact Or.inr ⟨by omega, by omega, h2, fun z => h3 ⟨by omega, z.2⟩⟩
theorem q_st2_len : ∀ (l : QL) (i : Nat) (v : Value), i + 1 < l.length → (q_st2 l i v).length = l.length
  | [], _, _, h => by simp at h
  | [_], 0, _, h => by simp at h
  | _ :: _ :: t, 0, v, _ => rfl
  | x :: t, 1, v, h => by simp only [List.length_cons] at h; simp [q_st2, q_st2_len t 0 v (by omega)]
  | x :: t, i + 2, v, h => by simp only [List.length_cons] at h; simp [q_st2, q_st2_len t (i + 1) v (by omega)]
theorem q_LR.st2 {av : Nat → Value} (hav : q_AV av) {LS LS' : Array Slot} {nL : Nat} {l : QL} (h : q_LR av LS nL l) {i : Nat} {v : Value} (hi : i + 1 < l.length) (h' : lv_has LS' nL ((i, q_lf av v) :: (q_asc av l).filter (fun q => !(q.1 == i) && (!(q.1 == i + 1) && !(q.1 + 1 == i && q.2.category == 2))))) : q_LR av LS' nL (q_st2 l i v) := by
  refine ⟨(q_st2_len l i v hi).trans h.1, h'.1, h'.2.1, fun q hq => h'.2.2 q ?_⟩
  obtain ⟨w, h1, h2⟩ := q_asc_mem.mp hq
  rcases q_st2_at l i v q.1 w h1 with ⟨e1, e2⟩ | ⟨e1, e0, e2, e3⟩
  · refine List.mem_cons.mpr (Or.inl ?_)
    rw [← e1, ← e2, ← h2]
  · refine List.mem_cons.mpr (Or.inr (List.mem_filter.mpr ⟨q_asc_mem.mpr ⟨w, e2, h2⟩, ?_⟩))
    have e4 : q.2.category = w.category := by rw [h2]; exact hav.cat w
    simp only [Bool.and_eq_true, Bool.not_eq_true', beq_eq_false_iff_ne, ne_eq, Bool.and_eq_false_imp, beq_iff_eq]
    exact ⟨e1, e0, fun z => by rw [e4]; exact fun y => e3 ⟨z, y⟩⟩
end
section
/-! THE SMALL MACHINE IS TRUE TO THE MACHINE, 2: what touches no memory -/
def q_tbl : List Cond := lw_tbl.filter goodWord
def q_ad (av : Nat → Value) (c : Nat) : Nat := match av c with
  | .ref a => a
  | _ => 0
theorem q_AV.ad {av : Nat → Value} (h : q_AV av) {c : Nat} (hc : c ≠ 1030) : av c = .ref (q_ad av c) := by
  obtain ⟨a, ha⟩ := h.1 c hc
  unfold q_ad; rw [ha]
/-- what stands there before the law begins, and the links of nest mates -/
def q_Fx (A : Nat → Prop) (av : Nat → Value) (U : State) : Prop :=
  (∀ w ∈ qnest, va_Nw w U) ∧
  va_Z "StraightTax$Town" "RIGHT" "[I" (av 1000) A U U.heap ∧ va_Z "StraightTax$Town" "DOWN" "[I" (av 1001) A U U.heap ∧
  va_Z "java/lang/String" "COMPACT_STRINGS" "Z" (.int 1) A U U.heap ∧ va_Z "jdk/internal/util/Preconditions" "SIOOBE_FORMATTER" "Ljava/util/function/BiFunction;" (av 1030) A U U.heap ∧
  va_T .int (q_ad av 1000) 4 (fun j => .int (([0, 1, 0, -1] : List Int32).getD j 0)) A U U.heap ∧ va_T .int (q_ad av 1001) 4 (fun j => .int (([-1, 0, 1, 0] : List Int32).getD j 0)) A U U.heap ∧
  vk_S 6 qsln qsby (fun i => q_ad av (1010 + i)) (fun i => q_ad av (1020 + i)) A U U.heap ∧
  ∀ i, i < 6 → vk_R "StraightTax$Text" (qsix.getD i 0) (qstx.getD i "") (q_ad av (1010 + i)) U
def q_wi (w : Cond) : Bool := decide (w ∈ lw_tbl) && goodWord w
theorem q_wi_in {w : Cond} (h : q_wi w = true) : w ∈ q_tbl := by
  unfold q_wi at h
  rw [Bool.and_eq_true, decide_eq_true_iff] at h
  exact List.mem_filter.mpr h
theorem q_lk_mem {α : Type} {t : List ((Nat × Nat) × α)} {o i : Nat} {v : α} (h : q_lk t o i = some v) : ((o, i), v) ∈ t := by
  unfold q_lk at h
  cases hf : t.find? (fun e => e.1.1 == o && e.1.2 == i) with
  | none => rw [hf] at h; cases h
  | some e =>
    rw [hf] at h
    cases h
    have h1 := List.find?_some hf
    rw [Bool.and_eq_true, beq_iff_eq, beq_iff_eq] at h1
    have h2 := List.mem_of_find?_eq_some hf
    obtain ⟨⟨a, b⟩, w⟩ := e
    obtain ⟨rfl, rfl⟩ := h1
    exact h2
def q_cn (o : Nat) : String := qcn.getD o ""
theorem qci_ok : ∀ e ∈ qci, q_wi (.constant (q_cn e.1.1) e.1.2 e.2) = true := by decide +kernel
theorem qcj_ok : ∀ e ∈ qcj, q_wi (.constantLong (q_cn e.1.1) e.1.2 e.2) = true := by decide +kernel
theorem qcs_ok : ∀ e ∈ qcs, q_cn e.1.1 = "StraightTax$Text" ∧ e.2 < 6 ∧ qsix.getD e.2 0 = e.1.2 := by decide +kernel
theorem q_ciw {o x : Nat} {v : Int32} (h : q_lk qci o x = some v) : Cond.constant (q_cn o) x v ∈ q_tbl := by
  have h1 := qci_ok _ (q_lk_mem h)
  exact q_wi_in h1
theorem q_cjw {o x : Nat} {v : Int64} (h : q_lk qcj o x = some v) : Cond.constantLong (q_cn o) x v ∈ q_tbl := by
  have h1 := qcj_ok _ (q_lk_mem h)
  exact q_wi_in h1
theorem q_ldI_spec {k i n pc : Nat} {ls : QL} {st : List Value} {z : QN} (h : q_ldI k i n pc ls st = some z) : ∃ x, q_at ls i = some (.int x) ∧ n = k ∧ z = (pc + k, ls, .int x :: st) := by
  unfold q_ldI at h
  split at h
  · split at h
    · cases h; exact ⟨_, by assumption, by assumption, rfl⟩
    · cases h
  · cases h
theorem q_ldL_spec {k i n pc : Nat} {ls : QL} {st : List Value} {z : QN} (h : q_ldL k i n pc ls st = some z) : ∃ x, q_at ls i = some (.long x) ∧ n = k ∧ z = (pc + k, ls, .long x :: st) := by
  unfold q_ldL at h
  split at h
  · split at h
    · cases h; exact ⟨_, by assumption, by assumption, rfl⟩
    · cases h
  · cases h
theorem q_ldA_spec {k i n pc : Nat} {ls : QL} {st : List Value} {z : QN} (h : q_ldA k i n pc ls st = some z) : ∃ x, q_at ls i = some (.ref x) ∧ n = k ∧ z = (pc + k, ls, .ref x :: st) := by
  unfold q_ldA at h
  split at h
  · split at h
    · cases h; exact ⟨_, by assumption, by assumption, rfl⟩
    · cases h
  · cases h
theorem q_stI_spec {k i n pc : Nat} {ls : QL} {st : List Value} {z : QN} (h : q_stI k i n pc ls st = some z) : ∃ x r, st = .int x :: r ∧ n = k ∧ i < ls.length ∧ z = (pc + k, q_st1 ls i (.int x), r) := by
  unfold q_stI at h
  split at h
  · split at h
    · rename_i hh; cases h; exact ⟨_, _, rfl, hh.1, hh.2, rfl⟩
    · cases h
  · cases h
theorem q_stA_spec {k i n pc : Nat} {ls : QL} {st : List Value} {z : QN} (h : q_stA k i n pc ls st = some z) : ∃ x r, st = .ref x :: r ∧ n = k ∧ i < ls.length ∧ z = (pc + k, q_st1 ls i (.ref x), r) := by
  unfold q_stA at h
  split at h
  · split at h
    · rename_i hh; cases h; exact ⟨_, _, rfl, hh.1, hh.2, rfl⟩
    · cases h
  · cases h
theorem q_stL_spec {k i n pc : Nat} {ls : QL} {st : List Value} {z : QN} (h : q_stL k i n pc ls st = some z) : ∃ x r, st = .long x :: r ∧ n = k ∧ i + 1 < ls.length ∧ z = (pc + k, q_st2 ls i (.long x), r) := by
  unfold q_stL at h
  split at h
  · split at h
    · rename_i hh; cases h; exact ⟨_, _, rfl, hh.1, hh.2, rfl⟩
    · cases h
  · cases h
theorem q_b_spec {f : Int32 → Int32 → Int32} {n pc : Nat} {ls : QL} {st : List Value} {z : QN} (h : q_b f n pc ls st = some z) : ∃ x y r, st = .int y :: .int x :: r ∧ n = 1 ∧ z = (pc + 1, ls, .int (f x y) :: r) := by
  unfold q_b at h
  split at h
  · split at h
    · cases h; exact ⟨_, _, _, rfl, by assumption, rfl⟩
    · cases h
  · cases h
theorem q_bz_spec {f : Int32 → Int32 → Int32} {n pc : Nat} {ls : QL} {st : List Value} {z : QN} (h : q_bz f n pc ls st = some z) : ∃ x y r, st = .int y :: .int x :: r ∧ n = 1 ∧ ¬ y = 0 ∧ z = (pc + 1, ls, .int (f x y) :: r) := by
  unfold q_bz at h
  split at h
  · split at h
    · rename_i hh; cases h; exact ⟨_, _, _, rfl, hh.1, hh.2, rfl⟩
    · cases h
  · cases h
theorem q_bl_spec {f : Int64 → Int64 → Int64} {n pc : Nat} {ls : QL} {st : List Value} {z : QN} (h : q_bl f n pc ls st = some z) : ∃ x y r, st = .long y :: .long x :: r ∧ n = 1 ∧ z = (pc + 1, ls, .long (f x y) :: r) := by
  unfold q_bl at h
  split at h
  · split at h
    · cases h; exact ⟨_, _, _, rfl, by assumption, rfl⟩
    · cases h
  · cases h
theorem q_u_spec {f : Int32 → Int32} {n pc : Nat} {ls : QL} {st : List Value} {z : QN} (h : q_u f n pc ls st = some z) : ∃ x r, st = .int x :: r ∧ n = 1 ∧ z = (pc + 1, ls, .int (f x) :: r) := by
  unfold q_u at h
  split at h
  · split at h
    · cases h; exact ⟨_, _, rfl, by assumption, rfl⟩
    · cases h
  · cases h
theorem q_to_eq {pc : Nat} {off : Int} (h : 0 ≤ (pc : Int) + off) : (pc : Int) + off = (q_to pc off : Int) := by
  unfold q_to; omega
section QS
variable {p : Program} {l : Launch} {e : Env} {R : Room} {s : State} {m : MethodId} {args : Array Value} {below : List Frame} {meth : Method} {c : Code} {H : Heap} {locs : List Loc} {cells slots : Nat} {Q : State → Prop}
variable {av : Nat → Value} {A : Nat → Prop} {cc : ByteArray} {nL : Nat}
theorem q_W_aload {i pc : Nat} {LS : Array Slot} {rest : List Value} {x : Nat} (hav : q_AV av) (hx : p.tables.exec = Jvm.exec) (hb : c.code = cc) (hdg : decode cc pc = .ok (.aload i, 2)) (hl : LS[i]? = some (.val (av x))) (k : W p l e R s m args below meth c H locs cells slots Q (F0 m (pc + 2) LS (av x :: rest))) : W p l e R s m args below meth c H locs cells slots Q (F0 m pc LS rest) := by
  rcases hav.refOrNull x with ⟨a, ha⟩ | ha
  · rw [ha] at hl k; exact lv_aload hx hb hdg hl k
  · rw [ha] at hl k; exact lv_aloadN hx hb hdg hl k
theorem q_W_aload_n {i : Fin 4} {pc : Nat} {LS : Array Slot} {rest : List Value} {x : Nat} (hav : q_AV av) (hx : p.tables.exec = Jvm.exec) (hb : c.code = cc) (hdg : decode cc pc = .ok (.aload_n i, 1)) (hl : LS[(i : Nat)]? = some (.val (av x))) (k : W p l e R s m args below meth c H locs cells slots Q (F0 m (pc + 1) LS (av x :: rest))) : W p l e R s m args below meth c H locs cells slots Q (F0 m pc LS rest) := by
  rcases hav.refOrNull x with ⟨a, ha⟩ | ha
  · rw [ha] at hl k; exact lv_aload_n hx hb hdg rfl hl k
  · rw [ha] at hl k; exact lv_aload_nN hx hb hdg rfl hl k
theorem q_W_astore {i pc : Nat} {LS : Array Slot} {lv lv' : List (Nat × Value)} {rest : List Value} {x : Nat} (hav : q_AV av) (hx : p.tables.exec = Jvm.exec) (hb : c.code = cc) (hdg : decode cc pc = .ok (.astore i, 2)) (h : lv_has LS nL lv) (hn : i < nL) (hl : (i, av x) :: lv.filter (fun q => !(q.1 == i) && !(q.1 + 1 == i && q.2.category == 2)) = lv') (k : ∀ ls' : Array Slot, lv_has ls' nL lv' → W p l e R s m args below meth c H locs cells slots Q (F0 m (pc + 2) ls' rest)) : W p l e R s m args below meth c H locs cells slots Q (F0 m pc LS (av x :: rest)) := by
  rcases hav.refOrNull x with ⟨a, ha⟩ | ha
  · rw [ha] at hl ⊢; exact lv_astore hx hb hdg h hn hl k
  · rw [ha] at hl ⊢; exact lv_astoreN hx hb hdg h hn hl k
theorem q_W_astore_n {i : Fin 4} {pc : Nat} {LS : Array Slot} {lv lv' : List (Nat × Value)} {rest : List Value} {x : Nat} (hav : q_AV av) (hx : p.tables.exec = Jvm.exec) (hb : c.code = cc) (hdg : decode cc pc = .ok (.astore_n i, 1)) (h : lv_has LS nL lv) (hn : (i : Nat) < nL) (hl : ((i : Nat), av x) :: lv.filter (fun q => !(q.1 == (i : Nat)) && !(q.1 + 1 == (i : Nat) && q.2.category == 2)) = lv') (k : ∀ ls' : Array Slot, lv_has ls' nL lv' → W p l e R s m args below meth c H locs cells slots Q (F0 m (pc + 1) ls' rest)) : W p l e R s m args below meth c H locs cells slots Q (F0 m pc LS (av x :: rest)) := by
  rcases hav.refOrNull x with ⟨a, ha⟩ | ha
  · rw [ha] at hl ⊢; exact lv_astore_n hx hb hdg rfl h hn hl k
  · rw [ha] at hl ⊢; exact lv_astore_nN hx hb hdg rfl h hn hl k
set_option maxHeartbeats 4000000 in
theorem q_simS (hav : q_AV av) (hx : p.tables.exec = Jvm.exec) (hb : c.code = cc) {o : Nat} (hown : s.vm.findClass (q_cn o) = some m.cls) (hts : ∀ w ∈ q_tbl, w.before args s = true) (hfx : q_Fx A av s) {i : Instr} {len pc pc2 : Nat} {LS : Array Slot} {ls ls2 : QL} {st st2 : List Value} (hdg : decode cc pc = .ok (i, len)) (hL : q_LR av LS nL ls) (h : q_s o i len pc ls st = some (pc2, ls2, st2)) (k : ∀ LS', q_LR av LS' nL ls2 → W p l e R s m args below meth c H locs cells slots Q (F0 m pc2 LS' (st2.map (q_lf av)))) : W p l e R s m args below meth c H locs cells slots Q (F0 m pc LS (st.map (q_lf av))) := by
  cases i with
  | iconst z =>
    simp only [q_s] at h
    split at h
    · rename_i hn; subst hn; cases h; exact lv_iconst hx hb hdg rfl (k LS hL)
    · cases h
  | bipush z =>
    simp only [q_s] at h
    split at h
    · rename_i hn; subst hn; cases h; exact lv_bipush hx hb hdg rfl (k LS hL)
    · cases h
  | sipush z =>
    simp only [q_s] at h
    split at h
    · rename_i hn; subst hn; cases h; exact lv_sipush hx hb hdg rfl (k LS hL)
    · cases h
  | lconst z =>
    simp only [q_s] at h
    split at h
    · rename_i hn; subst hn; cases h; exact lv_lconst hx hb hdg rfl (k LS hL)
    · cases h
  | ldc x =>
    simp only [q_s] at h
    split at h
    · rename_i hn
      subst hn
      split at h
      · rename_i v hv
        cases h
        exact lv_ldc hx hb hown (hts _ (q_ciw hv)) hdg (k LS hL)
      · split at h
        · rename_i z hz
          cases h
          obtain ⟨e1, e2, e3⟩ := qcs_ok _ (q_lk_mem hz)
          dsimp only at e1 e2 e3
          have hR := hfx.2.2.2.2.2.2.2.2 z e2
          rw [e3] at hR
          refine va_ldcS hx hb (own := "StraightTax$Text") (by rw [← e1]; exact hown) hR hdg ?_
          have h1 := k LS hL
          rw [List.map_cons, show q_lf av (.ref (1010 + z)) = .ref (q_ad av (1010 + z)) from hav.ad (by omega)] at h1
          exact h1
        · cases h
    · cases h
  | ldc_w x =>
    simp only [q_s] at h
    split at h
    · rename_i hn
      subst hn
      split at h
      · rename_i v hv
        cases h
        exact lv_ldcw hx hb hown (hts _ (q_ciw hv)) hdg (k LS hL)
      · cases h
    · cases h
  | ldc2_w x =>
    simp only [q_s] at h
    split at h
    · rename_i hn
      subst hn
      split at h
      · rename_i v hv
        cases h
        exact lv_ldc2 hx hb hown (hts _ (q_cjw hv)) hdg (k LS hL)
      · cases h
    · cases h
  | iload_n i => obtain ⟨x, hv, rfl, hz⟩ := q_ldI_spec h; cases hz; exact lv_iload_n hx hb hdg rfl (hL.get hv) (k LS hL)
  | iload i => obtain ⟨x, hv, rfl, hz⟩ := q_ldI_spec h; cases hz; exact lv_iload hx hb hdg (hL.get hv) (k LS hL)
  | lload_n i => obtain ⟨x, hv, rfl, hz⟩ := q_ldL_spec h; cases hz; exact lv_lload_n hx hb hdg rfl (hL.get hv) (k LS hL)
  | lload i => obtain ⟨x, hv, rfl, hz⟩ := q_ldL_spec h; cases hz; exact lv_lload hx hb hdg (hL.get hv) (k LS hL)
  | aload_n i => obtain ⟨x, hv, rfl, hz⟩ := q_ldA_spec h; cases hz; exact q_W_aload_n hav hx hb hdg (hL.get hv) (k LS hL)
  | aload i => obtain ⟨x, hv, rfl, hz⟩ := q_ldA_spec h; cases hz; exact q_W_aload hav hx hb hdg (hL.get hv) (k LS hL)
  | istore_n i => obtain ⟨x, r, rfl, rfl, hi, hz⟩ := q_stI_spec h; cases hz; exact lv_istore_n hx hb hdg rfl hL.2 (by rw [← hL.1]; exact hi) rfl (fun LS' h' => k LS' (hL.st1 hav h'))
  | istore i => obtain ⟨x, r, rfl, rfl, hi, hz⟩ := q_stI_spec h; cases hz; exact lv_istore hx hb hdg hL.2 (by rw [← hL.1]; exact hi) rfl (fun LS' h' => k LS' (hL.st1 hav h'))
  | lstore_n i => obtain ⟨x, r, rfl, rfl, hi, hz⟩ := q_stL_spec h; cases hz; exact lv_lstore_n hx hb hdg rfl hL.2 (by rw [← hL.1]; exact hi) rfl (fun LS' h' => k LS' (hL.st2 hav hi h'))
  | lstore i => obtain ⟨x, r, rfl, rfl, hi, hz⟩ := q_stL_spec h; cases hz; exact lv_lstore hx hb hdg hL.2 (by rw [← hL.1]; exact hi) rfl (fun LS' h' => k LS' (hL.st2 hav hi h'))
  | astore_n i => obtain ⟨x, r, rfl, rfl, hi, hz⟩ := q_stA_spec h; cases hz; exact q_W_astore_n hav hx hb hdg hL.2 (by rw [← hL.1]; exact hi) rfl (fun LS' h' => k LS' (hL.st1 hav h'))
  | astore i => obtain ⟨x, r, rfl, rfl, hi, hz⟩ := q_stA_spec h; cases hz; exact q_W_astore hav hx hb hdg hL.2 (by rw [← hL.1]; exact hi) rfl (fun LS' h' => k LS' (hL.st1 hav h'))
  | iinc i z =>
    simp only [q_s] at h
    split at h
    · rename_i x hv
      split at h
      · rename_i hn
        obtain ⟨rfl, hi⟩ := hn
        cases h
        obtain ⟨q, hq⟩ := List.getElem?_of_mem (q_asc_mem.mpr ⟨_, hv, rfl⟩ : (i, q_lf av (.int x)) ∈ q_asc av ls)
        exact lv_iinc hx hb hdg hL.2 (k := q) (x := x) hq rfl (by rw [← hL.1]; exact hi) rfl (fun LS' h' => k LS' (hL.st1 hav h'))
      · cases h
    · cases h
  | iadd => obtain ⟨x, y, r, rfl, rfl, hz⟩ := q_b_spec h; cases hz; exact lv_iadd hx hb hdg (k LS hL)
  | isub => obtain ⟨x, y, r, rfl, rfl, hz⟩ := q_b_spec h; cases hz; exact lv_isub hx hb hdg (k LS hL)
  | imul => obtain ⟨x, y, r, rfl, rfl, hz⟩ := q_b_spec h; cases hz; exact lv_imul hx hb hdg (k LS hL)
  | iand => obtain ⟨x, y, r, rfl, rfl, hz⟩ := q_b_spec h; cases hz; exact lv_iand hx hb hdg (k LS hL)
  | ior => obtain ⟨x, y, r, rfl, rfl, hz⟩ := q_b_spec h; cases hz; exact lv_ior hx hb hdg (k LS hL)
  | ixor => obtain ⟨x, y, r, rfl, rfl, hz⟩ := q_b_spec h; cases hz; exact lv_ixor hx hb hdg (k LS hL)
  | ishl => obtain ⟨x, y, r, rfl, rfl, hz⟩ := q_b_spec h; cases hz; exact lv_ishl hx hb hdg (k LS hL)
  | ishr => obtain ⟨x, y, r, rfl, rfl, hz⟩ := q_b_spec h; cases hz; exact lv_ishr hx hb hdg (k LS hL)
  | iushr => obtain ⟨x, y, r, rfl, rfl, hz⟩ := q_b_spec h; cases hz; exact lv_iushr hx hb hdg rfl (k LS hL)
  | idiv => obtain ⟨x, y, r, rfl, rfl, h0, hz⟩ := q_bz_spec h; cases hz; exact lv_idiv hx hb hdg h0 (k LS hL)
  | irem => obtain ⟨x, y, r, rfl, rfl, h0, hz⟩ := q_bz_spec h; cases hz; exact lv_irem hx hb hdg h0 (k LS hL)
  | ineg => obtain ⟨x, r, rfl, rfl, hz⟩ := q_u_spec h; cases hz; exact lv_ineg hx hb hdg (k LS hL)
  | i2b => obtain ⟨x, r, rfl, rfl, hz⟩ := q_u_spec h; cases hz; exact lv_i2b hx hb hdg rfl (k LS hL)
  | i2c => obtain ⟨x, r, rfl, rfl, hz⟩ := q_u_spec h; cases hz; exact lv_i2c hx hb hdg rfl (k LS hL)
  | ladd => obtain ⟨x, y, r, rfl, rfl, hz⟩ := q_bl_spec h; cases hz; exact lv_ladd hx hb hdg (k LS hL)
  | lsub => obtain ⟨x, y, r, rfl, rfl, hz⟩ := q_bl_spec h; cases hz; exact lv_lsub hx hb hdg (k LS hL)
  | lmul => obtain ⟨x, y, r, rfl, rfl, hz⟩ := q_bl_spec h; cases hz; exact lv_lmul hx hb hdg (k LS hL)
  | land => obtain ⟨x, y, r, rfl, rfl, hz⟩ := q_bl_spec h; cases hz; exact lv_land hx hb hdg (k LS hL)
  | lshr =>
    simp only [q_s] at h
    split at h
    · split at h
      · rename_i hn; subst hn; cases h; exact lv_lshr hx hb hdg rfl (k LS hL)
      · cases h
    · cases h
  | i2l =>
    simp only [q_s] at h
    split at h
    · split at h
      · rename_i hn; subst hn; cases h; exact lv_i2l hx hb hdg rfl (k LS hL)
      · cases h
    · cases h
  | l2i =>
    simp only [q_s] at h
    split at h
    · split at h
      · rename_i hn; subst hn; cases h; exact lv_l2i hx hb hdg rfl (k LS hL)
      · cases h
    · cases h
  | lcmp =>
    simp only [q_s] at h
    split at h
    · split at h
      · rename_i hn; subst hn; cases h; exact W.lcmp hx hb hdg (k LS hL)
      · cases h
    · cases h
  | dup =>
    simp only [q_s] at h
    split at h
    · split at h
      · rename_i hn; subst hn; cases h; exact lv_dup hx hb hdg rfl (k LS hL)
      · cases h
    · split at h
      · rename_i hn; subst hn; cases h; exact lv_dup hx hb hdg (hav.cat (.ref _)) (k LS hL)
      · cases h
    · cases h
  | dup2 =>
    simp only [q_s] at h
    split at h
    · split at h
      · rename_i hn; subst hn; cases h; exact lv_dup2_11 hx hb hdg rfl (hav.cat (.ref _)) (k LS hL)
      · cases h
    · cases h
  | pop =>
    simp only [q_s] at h
    split at h
    · split at h
      · rename_i hn; subst hn; cases h; exact lv_pop hx hb hdg rfl (k LS hL)
      · cases h
    · cases h
  | ifCond cd off =>
    simp only [q_s] at h
    split at h
    · rename_i x r
      split at h
      · rename_i hn
        obtain ⟨rfl, hn2⟩ := id hn
        cases h
        cases cd with
        | eq =>
          refine lv_if_eq hx hb hdg (q_to_eq hn.2) (fun hc => ?_) (fun hc => ?_)
          · have h1 := k LS hL; rw [show (bif q_cd .eq x 0 then q_to pc off else pc + 3) = q_to pc off from by simp [q_cd, hc]] at h1; exact h1
          · have h1 := k LS hL; rw [show (bif q_cd .eq x 0 then q_to pc off else pc + 3) = pc + 3 from by simp [q_cd, hc]] at h1; exact h1
        | ne =>
          refine lv_if_ne hx hb hdg (q_to_eq hn.2) (fun hc => ?_) (fun hc => ?_)
          · have h1 := k LS hL; rw [show (bif q_cd .ne x 0 then q_to pc off else pc + 3) = q_to pc off from by simp [q_cd, hc]] at h1; exact h1
          · have h1 := k LS hL; rw [show (bif q_cd .ne x 0 then q_to pc off else pc + 3) = pc + 3 from by simp [q_cd, hc]] at h1; exact h1
        | lt =>
          refine lv_if_lt hx hb hdg (q_to_eq hn.2) (fun hc => ?_) (fun hc => ?_)
          · have h1 := k LS hL; rw [show (bif q_cd .lt x 0 then q_to pc off else pc + 3) = q_to pc off from by simp [q_cd, hc]] at h1; exact h1
          · have h1 := k LS hL; rw [show (bif q_cd .lt x 0 then q_to pc off else pc + 3) = pc + 3 from by simp [q_cd, hc]] at h1; exact h1
        | ge =>
          refine lv_if_ge hx hb hdg (q_to_eq hn.2) (fun hc => ?_) (fun hc => ?_)
          · have h1 := k LS hL; rw [show (bif q_cd .ge x 0 then q_to pc off else pc + 3) = q_to pc off from by simp [q_cd, hc]] at h1; exact h1
          · have h1 := k LS hL; rw [show (bif q_cd .ge x 0 then q_to pc off else pc + 3) = pc + 3 from by simp [q_cd, hc]] at h1; exact h1
        | gt =>
          refine lv_if_gt hx hb hdg (q_to_eq hn.2) (fun hc => ?_) (fun hc => ?_)
          · have h1 := k LS hL; rw [show (bif q_cd .gt x 0 then q_to pc off else pc + 3) = q_to pc off from by simp [q_cd, hc]] at h1; exact h1
          · have h1 := k LS hL; rw [show (bif q_cd .gt x 0 then q_to pc off else pc + 3) = pc + 3 from by simp [q_cd, hc]] at h1; exact h1
        | le =>
          refine lv_if_le hx hb hdg (q_to_eq hn.2) (fun hc => ?_) (fun hc => ?_)
          · have h1 := k LS hL; rw [show (bif q_cd .le x 0 then q_to pc off else pc + 3) = q_to pc off from by simp [q_cd, hc]] at h1; exact h1
          · have h1 := k LS hL; rw [show (bif q_cd .le x 0 then q_to pc off else pc + 3) = pc + 3 from by simp [q_cd, hc]] at h1; exact h1
      · cases h
    · cases h
  | if_icmp cd off =>
    simp only [q_s] at h
    split at h
    · rename_i y x r
      split at h
      · rename_i hn
        obtain ⟨rfl, hn2⟩ := id hn
        cases h
        cases cd with
        | eq =>
          refine lv_icmp_eq hx hb hdg (q_to_eq hn.2) (fun hc => ?_) (fun hc => ?_)
          · have h1 := k LS hL; rw [show (bif q_cd .eq x y then q_to pc off else pc + 3) = q_to pc off from by simp [q_cd, hc]] at h1; exact h1
          · have h1 := k LS hL; rw [show (bif q_cd .eq x y then q_to pc off else pc + 3) = pc + 3 from by simp [q_cd, hc]] at h1; exact h1
        | ne =>
          refine lv_icmp_ne hx hb hdg (q_to_eq hn.2) (fun hc => ?_) (fun hc => ?_)
          · have h1 := k LS hL; rw [show (bif q_cd .ne x y then q_to pc off else pc + 3) = q_to pc off from by simp [q_cd, hc]] at h1; exact h1
          · have h1 := k LS hL; rw [show (bif q_cd .ne x y then q_to pc off else pc + 3) = pc + 3 from by simp [q_cd, hc]] at h1; exact h1
        | lt =>
          refine lv_icmp_lt hx hb hdg (q_to_eq hn.2) (fun hc => ?_) (fun hc => ?_)
          · have h1 := k LS hL; rw [show (bif q_cd .lt x y then q_to pc off else pc + 3) = q_to pc off from by simp [q_cd, hc]] at h1; exact h1
          · have h1 := k LS hL; rw [show (bif q_cd .lt x y then q_to pc off else pc + 3) = pc + 3 from by simp [q_cd, hc]] at h1; exact h1
        | ge =>
          refine lv_icmp_ge hx hb hdg (q_to_eq hn.2) (fun hc => ?_) (fun hc => ?_)
          · have h1 := k LS hL; rw [show (bif q_cd .ge x y then q_to pc off else pc + 3) = q_to pc off from by simp [q_cd, hc]] at h1; exact h1
          · have h1 := k LS hL; rw [show (bif q_cd .ge x y then q_to pc off else pc + 3) = pc + 3 from by simp [q_cd, hc]] at h1; exact h1
        | gt =>
          refine lv_icmp_gt hx hb hdg (q_to_eq hn.2) (fun hc => ?_) (fun hc => ?_)
          · have h1 := k LS hL; rw [show (bif q_cd .gt x y then q_to pc off else pc + 3) = q_to pc off from by simp [q_cd, hc]] at h1; exact h1
          · have h1 := k LS hL; rw [show (bif q_cd .gt x y then q_to pc off else pc + 3) = pc + 3 from by simp [q_cd, hc]] at h1; exact h1
        | le =>
          refine lv_icmp_le hx hb hdg (q_to_eq hn.2) (fun hc => ?_) (fun hc => ?_)
          · have h1 := k LS hL; rw [show (bif q_cd .le x y then q_to pc off else pc + 3) = q_to pc off from by simp [q_cd, hc]] at h1; exact h1
          · have h1 := k LS hL; rw [show (bif q_cd .le x y then q_to pc off else pc + 3) = pc + 3 from by simp [q_cd, hc]] at h1; exact h1
      · cases h
    · cases h
  | goto off =>
    simp only [q_s] at h
    split at h
    · rename_i hn
      obtain ⟨rfl, hn2⟩ := hn
      cases h
      exact lv_goto hx hb hdg (q_to_eq hn2) (k LS hL)
    · cases h
  | tableswitch df lo hi offs =>
    simp only [q_s] at h
    split at h
    · rename_i x r
      split at h
      · rename_i ho
        split at h
        · rename_i hn
          cases h
          exact lv_tableOut hx hb hdg ho (q_to_eq hn) (k LS hL)
        · cases h
      · rename_i ho
        split at h
        · rename_i off hoff
          split at h
          · rename_i hn
            cases h
            exact lv_tableIn hx hb hdg (fun z => ho (Or.inl z)) (fun z => ho (Or.inr z)) hoff (q_to_eq hn) (k LS hL)
          · cases h
        · cases h
    · cases h
  | _ => cases h
end QS
end
section
/-! THE SMALL MACHINE IS TRUE TO THE MACHINE, 3: memory -/
def q_fs (av : Nat → Value) (V : QV) (c ci N : Nat) : List Value := (List.range N).map (fun k => q_lf av (q_rd V c k (q_tyf ci k)))
def q_elt (k : Nat) : FieldType := if k = 100 then .int else if k = 101 then .byte else if k = 102 then .boolean else if k = 103 then .object "StraightTax$Walk" else .object "StraightTax$Walker"
def q_e (av : Nat → Value) (ca : Nat → ClassId) (V : QV) (c : Nat) (s : Nat × Nat) : va_E :=
  if s.1 < 100 then .inr (s.1, q_fs av V c s.1 s.2)
  else if s.1 < 103 then .inl (ca c, s.2, .inl (V.1 c))
  else .inl (ca c, s.2, .inr (.inr (.inr (.inr (fun k => (V.2.2 c k).map (q_ad av))))))
def q_ws (av : Nat → Value) (ca : Nat → ClassId) (sh : QH) (V : QV) : va_W := (List.range sh.length).map (fun c => (q_ad av c, q_e av ca V c (sh.getD c (0, 0))))
def q_tys (ca : Nat → ClassId) (sh : QH) : List (ClassId × FieldType) := (List.range sh.length).filterMap (fun c => if 100 ≤ (sh.getD c (0, 0)).1 then some (ca c, q_elt (sh.getD c (0, 0)).1) else none)
def q_wf (sh : QH) : Prop := sh.length ≤ 1000 ∧ ∀ (c k z : Nat), sh[c]? = some (k, z) → k < 100 → ∃ q : vw_C, vwCl[k]? = some q ∧ q.2.2 = z
theorem q_getD {sh : QH} {c : Nat} {s : Nat × Nat} (h : sh[c]? = some s) : c < sh.length ∧ sh.getD c (0, 0) = s := by
  refine ⟨(List.getElem?_eq_some_iff.mp h).1, ?_⟩
  rw [List.getD_eq_getElem?_getD, h]; rfl
theorem q_ws_at {av : Nat → Value} {ca : Nat → ClassId} {sh : QH} {V : QV} {c : Nat} {s : Nat × Nat} (h : sh[c]? = some s) : (q_ws av ca sh V)[c]? = some (q_ad av c, q_e av ca V c s) := by
  obtain ⟨h1, h2⟩ := q_getD h
  unfold q_ws
  rw [List.getElem?_map, List.getElem?_range h1]
  show some (q_ad av c, q_e av ca V c (sh.getD c (0, 0))) = _
  rw [h2]
theorem q_tys_at {ca : Nat → ClassId} {sh : QH} {c k z : Nat} (h : sh[c]? = some (k, z)) (hk : 100 ≤ k) : ∃ t : Nat, (q_tys ca sh)[t]? = some (ca c, q_elt k) := by
  obtain ⟨h1, h2⟩ := q_getD h
  refine List.getElem?_of_mem (List.mem_filterMap.mpr ⟨c, List.mem_range.mpr h1, ?_⟩)
  rw [h2, if_pos hk]
theorem q_e_congr {av : Nat → Value} {ca : Nat → ClassId} {V V' : QV} {c : Nat} {s : Nat × Nat} (h1 : V.1 c = V'.1 c) (h2 : V.2.1 c = V'.2.1 c) (h3 : V.2.2 c = V'.2.2 c) : q_e av ca V c s = q_e av ca V' c s := by
  have e : ∀ k ty, q_rd V c k ty = q_rd V' c k ty := by
    intro k ty
    unfold q_rd
    rw [h1, h2, h3]
  unfold q_e q_fs
  simp only [e, h1, h3]
theorem q_ws_set {av : Nat → Value} {ca : Nat → ClassId} {sh : QH} {V V' : QV} {c : Nat} {s : Nat × Nat} (h : sh[c]? = some s) (hV : ∀ c', c' ≠ c → V.1 c' = V'.1 c' ∧ V.2.1 c' = V'.2.1 c' ∧ V.2.2 c' = V'.2.2 c') : (q_ws av ca sh V).set c (q_ad av c, q_e av ca V' c s) = q_ws av ca sh V' := by
  have hl : (q_ws av ca sh V).length = sh.length := by simp [q_ws]
  obtain ⟨h1, h2⟩ := q_getD h
  refine List.ext_getElem? (fun k => ?_)
  by_cases hk : k = c
  · subst hk
    rw [List.getElem?_set_self (by rw [hl]; exact h1), q_ws_at h]
  · rw [List.getElem?_set_ne (Ne.symm hk)]
    rcases Nat.lt_or_ge k sh.length with hlt | hge
    · have hs : sh[k]? = some sh[k] := List.getElem?_eq_getElem hlt
      rw [q_ws_at hs, q_ws_at hs]
      obtain ⟨a1, a2, a3⟩ := hV k hk
      rw [q_e_congr a1 a2 a3]
    · rw [List.getElem?_eq_none (by rw [hl]; exact hge), List.getElem?_eq_none (by simp [q_ws]; exact hge)]
def q_R (A : Nat → Prop) (av : Nat → Value) (ca : Nat → ClassId) (D : va_G) (sh : QH) (V : QV) (U : State) (H : Heap) : Prop := va_P D vwCl (q_ws av ca sh V) H ∧ va_D A (q_ws av ca sh V) ∧ va_K D vwCl (q_tys ca sh) U
theorem qtyX : ∀ (ci : Nat) (q : vw_C), vwCl[ci]? = some q → ∀ k, k < q.2.2 → parseFieldDescriptor (q.2.1 k).2.2.1 = some (q_tyf ci k) := by
  intro ci q h
  match ci, h with
  | 0, h => cases h; exact tyX0_ok
  | 1, h => cases h; exact tyX1_ok
  | 2, h => cases h; exact tyX2_ok
  | 3, h => cases h; exact tyX3_ok
  | 4, h => cases h; exact tyX4_ok
  | 5, h => cases h; exact tyX5_ok
  | 6, h => cases h; exact tyX6_ok
  | 7, h => cases h; exact tyX7_ok
  | 8, h => cases h; exact tyX8_ok
  | 9, h => cases h; exact tyX9_ok
  | 10, h => cases h; exact tyX10_ok
  | 11, h => cases h; exact tyX11_ok
  | 12, h => cases h; exact tyX12_ok
  | n + 13, h => simp [vwCl] at h
theorem qnmX : ∀ (ci : Nat) (q : vw_C), vwCl[ci]? = some q → ∀ a, a < q.2.2 → ∀ b, b < q.2.2 → a ≠ b → (q.2.1 a).2.1 ≠ (q.2.1 b).2.1 := by
  intro ci q h
  match ci, h with
  | 0, h => cases h; exact nmX0
  | 1, h => cases h; exact nmX1
  | 2, h => cases h; exact nmX2
  | 3, h => cases h; exact nmX3
  | 4, h => cases h; exact nmX4
  | 5, h => cases h; exact nmX5
  | 6, h => cases h; exact nmX6
  | 7, h => cases h; exact nmX7
  | 8, h => cases h; exact nmX8
  | 9, h => cases h; exact nmX9
  | 10, h => cases h; exact nmX10
  | 11, h => cases h; exact nmX11
  | 12, h => cases h; exact nmX12
  | n + 13, h => simp [vwCl] at h
/-- the link of a field, by its class's table -/
def q_okf (e : (Nat × Nat) × (Nat × Nat × Nat)) : Bool := match vwCl[e.2.1]? with
  | some q => if e.2.2.2 = 0 then q_wi (.fieldLink (q_cn e.1.1) e.1.2 (q.2.1 e.2.2.1).1 (q.2.1 e.2.2.1).2.1 (q.2.1 e.2.2.1).2.2.1) else decide (Cond.fieldLinkNest (q_cn e.1.1) e.1.2 (q.2.1 e.2.2.1).1 (q.2.1 e.2.2.1).2.1 (q.2.1 e.2.2.1).2.2.1 "StraightTax" ∈ qnest)
  | none => e.2.1 == 13 && e.1.1 == 13 && (if e.2.2.1 = 0 then q_wi (.fieldLink "java/lang/String" e.1.2 "java/lang/String" "value" "[B") else q_wi (.fieldLink "java/lang/String" e.1.2 "java/lang/String" "coder" "B"))
theorem qft_ok : ∀ e ∈ qft, q_okf e = true := by decide +kernel
theorem q_fld {o x ci k ne : Nat} {q : vw_C} (h : q_lk qft o x = some (ci, k, ne)) (hq : vwCl[ci]? = some q) : (ne = 0 ∧ Cond.fieldLink (q_cn o) x (q.2.1 k).1 (q.2.1 k).2.1 (q.2.1 k).2.2.1 ∈ q_tbl) ∨ (ne ≠ 0 ∧ Cond.fieldLinkNest (q_cn o) x (q.2.1 k).1 (q.2.1 k).2.1 (q.2.1 k).2.2.1 "StraightTax" ∈ qnest) := by
  have h1 := qft_ok _ (q_lk_mem h)
  unfold q_okf at h1
  dsimp only at h1
  rw [hq] at h1
  dsimp only at h1
  by_cases hn : ne = 0
  · rw [if_pos hn] at h1; exact Or.inl ⟨hn, q_wi_in h1⟩
  · rw [if_neg hn] at h1; exact Or.inr ⟨hn, of_decide_eq_true h1⟩
theorem q_fldS {o x k ne : Nat} (h : q_lk qft o x = some (13, k, ne)) : o = 13 ∧ (if k = 0 then Cond.fieldLink "java/lang/String" x "java/lang/String" "value" "[B" ∈ q_tbl else Cond.fieldLink "java/lang/String" x "java/lang/String" "coder" "B" ∈ q_tbl) := by
  have h1 := qft_ok _ (q_lk_mem h)
  unfold q_okf at h1
  have hn : vwCl[13]? = none := by decide +kernel
  dsimp only at h1
  rw [hn] at h1
  dsimp only at h1
  simp only [Bool.and_eq_true, beq_iff_eq] at h1
  refine ⟨h1.1.2, ?_⟩
  by_cases hk : k = 0
  · rw [if_pos hk] at h1 ⊢; exact q_wi_in h1.2
  · rw [if_neg hk] at h1 ⊢; exact q_wi_in h1.2
/-- statics -/
def q_okst (e : (Nat × Nat) × Value) : Bool := (e.1.1 == 7 && e.2 == .ref 1000 && q_wi (.fieldLink (q_cn 7) e.1.2 "StraightTax$Town" "RIGHT" "[I")) || (e.1.1 == 7 && e.2 == .ref 1001 && q_wi (.fieldLink (q_cn 7) e.1.2 "StraightTax$Town" "DOWN" "[I")) || (e.1.1 == 13 && e.2 == .int 1 && q_wi (.fieldLink (q_cn 13) e.1.2 "java/lang/String" "COMPACT_STRINGS" "Z")) || (e.1.1 == 13 && e.2 == .ref 1030 && q_wi (.fieldLink (q_cn 13) e.1.2 "jdk/internal/util/Preconditions" "SIOOBE_FORMATTER" "Ljava/util/function/BiFunction;"))
theorem qst_ok : ∀ e ∈ qst, q_okst e = true := by decide +kernel
theorem q_stat {A : Nat → Prop} {av : Nat → Value} {s : State} (hfx : q_Fx A av s) {o x : Nat} {v : Value} (h : q_lk qst o x = some v) : ∃ C n d, va_Z C n d (q_lf av v) A s s.heap ∧ Cond.fieldLink (q_cn o) x C n d ∈ q_tbl := by
  have h1 := qst_ok _ (q_lk_mem h)
  unfold q_okst at h1
  simp only [Bool.or_eq_true, Bool.and_eq_true, beq_iff_eq] at h1
  obtain ⟨-, z1, z2, z3, z4, -⟩ := hfx
  rcases h1 with ((h1 | h1) | h1) | h1
  · obtain ⟨⟨a1, a2⟩, a3⟩ := h1; subst a1; subst a2; exact ⟨_, _, _, z1, q_wi_in a3⟩
  · obtain ⟨⟨a1, a2⟩, a3⟩ := h1; subst a1; subst a2; exact ⟨_, _, _, z2, q_wi_in a3⟩
  · obtain ⟨⟨a1, a2⟩, a3⟩ := h1; subst a1; subst a2; exact ⟨_, _, _, z3, q_wi_in a3⟩
  · obtain ⟨⟨a1, a2⟩, a3⟩ := h1; subst a1; subst a2; exact ⟨_, _, _, z4, q_wi_in a3⟩
theorem q_fs_len {av : Nat → Value} {V : QV} {c ci N : Nat} : (q_fs av V c ci N).length = N := by simp [q_fs]
theorem q_fs_at {av : Nat → Value} {V : QV} {c ci N k : Nat} (h : k < N) : (q_fs av V c ci N)[k]? = some (q_lf av (q_rd V c k (q_tyf ci k))) := by
  unfold q_fs
  rw [List.getElem?_map, List.getElem?_range h]; rfl
theorem q_up_s {α : Type} {f : Nat → Nat → α} {c k : Nat} {v : α} : q_up f c k v c k = v := by simp [q_up]
theorem q_up_n {α : Type} {f : Nat → Nat → α} {c k c' k' : Nat} {v : α} (h : ¬ (c' = c ∧ k' = k)) : q_up f c k v c' k' = f c' k' := by simp only [q_up, if_neg h]
theorem q_up_c {α : Type} {f : Nat → Nat → α} {c k c' : Nat} {v : α} (h : c' ≠ c) : f c' = q_up f c k v c' := by
  funext k'
  rw [q_up_n (fun z => h z.1)]
/-- a field is written: what it is, and that the other fields and cells stay -/
theorem q_wr_spec {av : Nat → Value} (hav : q_AV av) {V V' : QV} {c ci k N : Nat} {v : Value} (h : q_wr V c k (q_tyf ci k) v = some V') (hk : k < N) : narrow (q_tyf ci k) (q_lf av v) = q_lf av v ∧ fits (q_tyf ci k) (q_lf av v) = true ∧ (∀ c', c' ≠ c → V.1 c' = V'.1 c' ∧ V.2.1 c' = V'.2.1 c' ∧ V.2.2 c' = V'.2.2 c') ∧ q_fs av V' c ci N = (q_fs av V c ci N).set k (q_lf av v) := by
  have key : ∀ V' : QV, (∀ k' ty, k' ≠ k → q_rd V' c k' ty = q_rd V c k' ty) → q_lf av (q_rd V' c k (q_tyf ci k)) = q_lf av v → q_fs av V' c ci N = (q_fs av V c ci N).set k (q_lf av v) := by
    intro V' e1 e2
    refine List.ext_getElem? (fun i => ?_)
    by_cases hi : i = k
    · subst hi
      rw [List.getElem?_set_self (by rw [q_fs_len]; exact hk), q_fs_at hk, e2]
    · rw [List.getElem?_set_ne (Ne.symm hi)]
      rcases Nat.lt_or_ge i N with hl | hl
      · rw [q_fs_at hl, q_fs_at hl, e1 i _ hi]
      · rw [List.getElem?_eq_none (by rw [q_fs_len]; exact hl), List.getElem?_eq_none (by rw [q_fs_len]; exact hl)]
  unfold q_wr at h
  split at h
  · split at h
    · rename_i hty _ x
      cases h
      rw [hty]
      refine ⟨rfl, rfl, fun c' hc => ⟨rfl, q_up_c hc, rfl⟩, key _ (fun k' ty hk' => ?_) ?_⟩
      · unfold q_rd q_uL; simp only [q_up_n (fun z : c = c ∧ k' = k => hk' z.2)]
      · rw [hty]; show Value.long (q_up V.2.1 c k x c k) = _; rw [q_up_s]; rfl
    · cases h
  · split at h
    · rename_i hty _ a
      split at h
      · rename_i ha
        cases h
        rw [hty]
        have e : q_lf av (.ref a) = .ref (q_ad av a) := hav.ad (fun z => absurd ha (by rw [z]; decide))
        rw [e]
        refine ⟨rfl, rfl, fun c' hc => ⟨rfl, rfl, q_up_c hc⟩, ?_⟩
        rw [← e]
        refine key _ (fun k' ty hk' => ?_) ?_
        · unfold q_rd q_uR; simp only [q_up_n (fun z : c = c ∧ k' = k => hk' z.2)]
        · rw [hty]; show q_lf av (q_rf (q_up V.2.2 c k (some a) c k)) = _; rw [q_up_s]; rfl
      · cases h
    · cases h
  · split at h
    · rename_i hty _ x
      cases h
      rw [hty]
      refine ⟨rfl, rfl, fun c' hc => ⟨q_up_c hc, rfl, rfl⟩, key _ (fun k' ty hk' => ?_) ?_⟩
      · unfold q_rd q_uI; simp only [q_up_n (fun z : c = c ∧ k' = k => hk' z.2)]
      · rw [hty]; show Value.int (q_up V.1 c k x c k) = _; rw [q_up_s]; rfl
    · cases h
  · split at h
    · rename_i hty _ x
      split at h
      · rename_i hb
        cases h
        rw [hty]
        refine ⟨?_, ?_, fun c' hc => ⟨q_up_c hc, rfl, rfl⟩, key _ (fun k' ty hk' => ?_) ?_⟩
        · rcases hb with rfl | rfl <;> rfl
        · rcases hb with rfl | rfl <;> rfl
        · unfold q_rd q_uI; simp only [q_up_n (fun z : c = c ∧ k' = k => hk' z.2)]
        · rw [hty]; show Value.int (q_up V.1 c k x c k) = _; rw [q_up_s]; rfl
      · cases h
    · cases h
  · cases h
theorem q_vin {x : Int32} {n : Nat} (h : 0 ≤ x.toInt ∧ x.toInt < n) : vp_in x n := vp_in_iff.mpr h
end
section
/-! THE SMALL MACHINE IS TRUE TO THE MACHINE, 4: what reads or writes memory -/
theorem q_up_upd {f : Nat → Nat → Int32} {c k : Nat} {v : Int32} : q_up f c k v c = upd (f c) k v := by
  funext j
  simp only [q_up, upd, true_and]
section QM
variable {p : Program} {l : Launch} {e : Env} {R : Room} {s : State} {m : MethodId} {args : Array Value} {below : List Frame} {meth : Method} {c : Code} {H : Heap} {locs : List Loc} {cells slots : Nat} {Q : State → Prop}
variable {av : Nat → Value} {A : Nat → Prop} {cc : ByteArray} {nL : Nat} {ca : Nat → ClassId} {D : va_G} {sh : QH}
theorem q_roI_T {U : State} (hfx : q_Fx A av U) {c : Nat} {a : List Int32} (h : q_roI c = some a) : a.length = 4 ∧ c ≠ 1030 ∧ va_T .int (q_ad av c) 4 (fun j => .int (a.getD j 0)) A U U.heap := by
  obtain ⟨-, -, -, -, -, t1, t2, -⟩ := hfx
  unfold q_roI at h
  split at h
  · cases h; exact ⟨rfl, by decide, t1⟩
  · cases h; exact ⟨rfl, by decide, t2⟩
  · cases h
theorem q_sb : ∀ i, i < 6 → qsln.getD i 0 = (qsby.getD i []).length := by decide +kernel
theorem q_roB_T {U : State} (hfx : q_Fx A av U) {c : Nat} {a : List Int32} (h : q_roB c = some a) : c ≠ 1030 ∧ va_T .byte (q_ad av c) a.length (fun j => .int (a.getD j 0)) A U U.heap := by
  obtain ⟨-, -, -, -, -, -, -, t1, -⟩ := hfx
  unfold q_roB at h
  split at h
  · rename_i hc
    refine ⟨by omega, ?_⟩
    have h2 := (t1.1 (c - 1020) (by omega)).2.2.2
    have e1 : qsby.getD (c - 1020) [] = a := by rw [List.getD_eq_getElem?_getD, h]; rfl
    rw [e1, q_sb _ (by omega), e1] at h2
    dsimp only at h2
    rw [show 1020 + (c - 1020) = c by omega] at h2
    exact h2
  · cases h
theorem q_sp {z : Nat} (h : 1010 ≤ z ∧ z < 1016) : ∃ i : Nat, i < 6 ∧ z = 1010 + i := ⟨z - 1010, by omega, by omega⟩
theorem q_n1 {i : Nat} (h : i < 6) : 1010 + i ≠ 1030 := by omega
theorem q_n2 {i : Nat} (h : i < 6) : 1020 + i ≠ 1030 := by omega
theorem q_n3 {i : Nat} : 1010 + i + 10 = 1020 + i := by omega
theorem qac_ok : ∀ e ∈ qct, e.2.1 = 5 → q_wi (.methodLink (q_cn e.1.1) e.1.2 arraycopyName) = true := by decide +kernel
theorem qac_w : q_wi (.native arraycopyName) = true ∧ q_wi (.static arraycopyName) = true ∧ q_wi (.initialized "java/lang/System") = true := by decide +kernel
set_option maxHeartbeats 4000000 in
theorem q_simM (hav : q_AV av) (hwf : q_wf sh) (hx : p.tables.exec = Jvm.exec) (hb : c.code = cc) {o : Nat} (hown : s.vm.findClass (q_cn o) = some m.cls) (hts : ∀ w ∈ q_tbl, w.before args s = true) (hfx : q_Fx A av s) (hml : c.maxLocals = nL) {i : Instr} {len pc pc2 : Nat} {LS : Array Slot} {ls : QL} {st st2 : List Value} {V V2 : QV} (hdg : decode cc pc = .ok (i, len)) (hL : q_LR av LS nL ls) (hR : q_R A av ca D sh V s H) (hS : va_S A s.heap H locs) (hfr : 1 ≤ R.frames) (hlo : 60 ≤ R.locals) (h : q_m sh o i len pc st V = some (pc2, st2, V2)) (k : ∀ H1 locs1, q_R A av ca D sh V2 s H1 → va_S A s.heap H1 locs1 → W p l e R s m args below meth c H1 locs1 cells slots Q (F0 m pc2 LS (st2.map (q_lf av)))) : W p l e R s m args below meth c H locs cells slots Q (F0 m pc LS (st.map (q_lf av))) := by
  obtain ⟨hP, hD, hK⟩ := id hR
  have nm : ∀ {z : Nat} {w : Nat × Nat}, sh[z]? = some w → z ≠ 1030 := fun {z w} hz => by
    have h1 := (q_getD hz).1
    have h2 := hwf.1
    omega
  have rf : ∀ {z : Nat} {w : Nat × Nat}, sh[z]? = some w → q_lf av (.ref z) = .ref (q_ad av z) := fun hz => hav.ad (nm hz)
  cases i with
  | getfield x =>
    simp only [q_m] at h
    split at h
    · rename_i z r
      split at h
      · rename_i kk ne hf
        split at h
        · rename_i v hv
          split at h
          · rename_i hn
            obtain ⟨rfl, -⟩ := hn
            cases h
            obtain ⟨rfl, hw⟩ := q_fldS hf
            have hz : 1010 ≤ z ∧ z < 1016 := by
              unfold q_roF at hv
              split at hv
              · assumption
              · cases hv
            obtain ⟨i, hi, rfl⟩ := q_sp hz
            obtain ⟨-, -, -, -, -, -, -, t1, -⟩ := id hfx
            obtain ⟨-, o1, o2, -⟩ := t1.1 i hi
            have e0 : q_lf av (.ref (1010 + i)) = .ref (q_ad av (1010 + i)) := hav.ad (q_n1 hi)
            rw [List.map_cons, e0]
            by_cases hk : kk = 0
            · rw [if_pos hk] at hw
              have ev : v = .ref (1010 + i + 10) := by
                unfold q_roF at hv; rw [if_pos hz, if_pos hk] at hv; exact (Option.some.inj hv).symm
              subst ev
              refine vk_getf hx hb o2 hS hown (hts _ hw) (fun _ h => h) hdg ?_
              have h1 := k H locs hR hS
              rw [List.map_cons, show q_lf av (.ref (1010 + i + 10)) = .ref (q_ad av (1020 + i)) from by rw [q_n3]; exact hav.ad (q_n2 hi)] at h1
              exact h1
            · rw [if_neg hk] at hw
              have ev : v = .int 0 := by
                unfold q_roF at hv; rw [if_pos hz, if_neg hk] at hv; exact (Option.some.inj hv).symm
              subst ev
              exact vk_getf hx hb o1 hS hown (hts _ hw) (fun _ h => h) hdg (k H locs hR hS)
          · cases h
        · cases h
      · rename_i ci kk ne hne hf
        split at h
        · rename_i ci' n0 hs
          split at h
          · rename_i hn
            obtain ⟨rfl, rfl, hkf⟩ := hn
            cases h
            unfold q_kf at hkf
            split at hkf
            · rename_i q hq
              have hk := of_decide_eq_true hkf
              have hc100 : ci' < 100 := by
                have h1 := (List.getElem?_eq_some_iff.mp hq).1
                have h2 : vwCl.length ≤ 100 := by decide
                omega
              obtain ⟨q', hq', hN⟩ := hwf.2 z ci' n0 hs hc100
              cases hq.symm.trans hq'
              have hat := q_ws_at (av := av) (ca := ca) (V := V) hs
              have he : q_e av ca V z (ci', n0) = .inr (ci', q_fs av V z ci' n0) := by unfold q_e; rw [if_pos hc100]
              rw [he] at hat
              have hv : (q_fs av V z ci' n0)[kk]? = some (q_lf av (q_rd V z kk (q_tyf ci' kk))) := q_fs_at (by omega)
              rw [List.map_cons, rf hs]
              have hin : ∀ w ∈ u_ws q.1 q.2.1 q.2.2, w ∈ q_tbl := fun w hw => List.mem_filter.mpr (qinX ci' q hq w hw)
              rcases q_fld hf hq with ⟨-, hw⟩ | ⟨-, hw⟩
              · exact va_get (C := q.1) (T := q.2.1) (N := q.2.2) hx hb hts hin hown hK hP z hat hq kk hk (hts _ hw) (fun _ h => h) hv hdg (k H locs hR hS)
              · exact va_getN (C := q.1) (T := q.2.1) (N := q.2.2) hx hb hts hin hown hK hP z hat hq kk hk (va_Nw.use rfl (hfx.1 _ hw)) (fun _ h => h) hv hdg (k H locs hR hS)
            · cases hkf
          · cases h
        · cases h
      · cases h
    · cases h
  | putfield x =>
    simp only [q_m] at h
    split at h
    · rename_i v z r
      split at h
      · rename_i ci kk ne hf
        split at h
        · rename_i ci' n0 hs
          split at h
          · rename_i hn
            obtain ⟨rfl, rfl, hnf⟩ := hn
            split at h
            · rename_i V' hwr
              cases h
              unfold q_nf at hnf
              split at hnf
              · rename_i q hq
                rw [Bool.and_eq_true] at hnf
                have hk := of_decide_eq_true hnf.1
                have hfin : (q.2.1 kk).2.2.2 = false := by simpa using hnf.2
                have hc100 : ci' < 100 := by
                  have h1 := (List.getElem?_eq_some_iff.mp hq).1
                  have h2 : vwCl.length ≤ 100 := by decide
                  omega
                obtain ⟨q', hq', hN⟩ := hwf.2 z ci' n0 hs hc100
                cases hq.symm.trans hq'
                have he : ∀ V, q_e av ca V z (ci', n0) = .inr (ci', q_fs av V z ci' n0) := fun V => by unfold q_e; rw [if_pos hc100]
                have hat := q_ws_at (av := av) (ca := ca) (V := V) hs
                rw [he] at hat
                obtain ⟨w1, w2, w3, w4⟩ := q_wr_spec hav (N := n0) hwr (by omega)
                have hin : ∀ w ∈ u_ws q.1 q.2.1 q.2.2, w ∈ q_tbl := fun w hw => List.mem_filter.mpr (qinX ci' q hq w hw)
                have hset := q_ws_set (av := av) (ca := ca) (V := V) (V' := V2) hs w3
                rw [he, w4] at hset
                rw [List.map_cons, List.map_cons, rf hs]
                rcases q_fld hf hq with ⟨-, hw⟩ | ⟨-, hw⟩
                · refine va_put (C := q.1) (T := q.2.1) (N := q.2.2) hx hb hts hin (q_tyf ci') (qtyX ci' q hq) (qnmX ci' q hq) hown hK hP hD hS z hat hq kk hk (hts _ hw) (fun _ h => h) hfin (qtyX ci' q hq kk hk) w1 w2 (by rw [q_fs_len]; omega) hdg (fun H1 locs1 hP1 hD1 hS1 => ?_)
                  rw [hset] at hP1 hD1
                  exact k H1 locs1 ⟨hP1, hD1, hK⟩ hS1
                · refine va_putN (C := q.1) (T := q.2.1) (N := q.2.2) hx hb hts hin (q_tyf ci') (qtyX ci' q hq) (qnmX ci' q hq) hown hK hP hD hS z hat hq kk hk (va_Nw.use rfl (hfx.1 _ hw)) (fun _ h => h) hfin (qtyX ci' q hq kk hk) w1 w2 (by rw [q_fs_len]; omega) hdg (fun H1 locs1 hP1 hD1 hS1 => ?_)
                  rw [hset] at hP1 hD1
                  exact k H1 locs1 ⟨hP1, hD1, hK⟩ hS1
              · cases hnf
            · cases h
          · cases h
        · cases h
      · cases h
    · cases h
  | getstatic x =>
    simp only [q_m] at h
    split at h
    · rename_i v hv
      split at h
      · rename_i hn
        subst hn
        cases h
        obtain ⟨C, n, d, hZ, hw⟩ := q_stat hfx hv
        exact va_gets hx hb hZ hS hown (hts _ hw) (fun _ h => h) hdg (k H locs hR hS)
      · cases h
    · cases h
  | iaload =>
    simp only [q_m] at h
    split at h
    · rename_i j z r
      split at h
      · rename_i n0 hs
        split at h
        · rename_i hn
          obtain ⟨rfl, hj⟩ := hn
          cases h
          rw [List.map_cons, List.map_cons, rf hs]
          obtain ⟨t0, ht⟩ := q_tys_at (ca := ca) hs (by decide)
          exact va_iald hx hb hK hP z t0 (q_ws_at hs) ht (q_vin hj) hdg (k H locs hR hS)
        · cases h
      · cases h
      · split at h
        · rename_i a ha
          split at h
          · rename_i hn
            obtain ⟨rfl, hj⟩ := hn
            cases h
            obtain ⟨e1, e2, hT⟩ := q_roI_T hfx ha
            rw [e1] at hj
            rw [List.map_cons, List.map_cons, show q_lf av (.ref z) = .ref (q_ad av z) from hav.ad e2]
            exact va_ti hx hb hT hS (q_vin hj) rfl hdg (k H locs hR hS)
          · cases h
        · cases h
    · cases h
  | baload =>
    simp only [q_m] at h
    split at h
    · rename_i j z r
      split at h
      · rename_i n0 hs
        split at h
        · rename_i hn
          obtain ⟨rfl, hj⟩ := hn
          cases h
          rw [List.map_cons, List.map_cons, rf hs]
          obtain ⟨t0, ht⟩ := q_tys_at (ca := ca) hs (by decide)
          exact va_bald hx hb hK hP z t0 (q_ws_at hs) ht (q_vin hj) hdg (k H locs hR hS)
        · cases h
      · rename_i n0 hs
        split at h
        · rename_i hn
          obtain ⟨rfl, hj⟩ := hn
          cases h
          rw [List.map_cons, List.map_cons, rf hs]
          obtain ⟨t0, ht⟩ := q_tys_at (ca := ca) hs (by decide)
          exact va_zald hx hb hK hP z t0 (q_ws_at hs) ht (q_vin hj) hdg (k H locs hR hS)
        · cases h
      · cases h
      · split at h
        · rename_i a ha
          split at h
          · rename_i hn
            obtain ⟨rfl, hj⟩ := hn
            cases h
            obtain ⟨e2, hT⟩ := q_roB_T hfx ha
            rw [List.map_cons, List.map_cons, show q_lf av (.ref z) = .ref (q_ad av z) from hav.ad e2]
            exact va_tb hx hb hT hS (q_vin hj) rfl hdg (k H locs hR hS)
          · cases h
        · cases h
    · cases h
  | aaload =>
    simp only [q_m] at h
    split at h
    · rename_i j z r
      split at h
      · rename_i n0 hs
        split at h
        · rename_i a ha
          split at h
          · rename_i hn
            obtain ⟨rfl, hj, ha2⟩ := hn
            cases h
            rw [List.map_cons, List.map_cons, rf hs]
            obtain ⟨t0, ht⟩ := q_tys_at (ca := ca) hs (by decide)
            refine va_aldq (C := "StraightTax$Walk") hx hb hK hP z t0 (q_ws_at hs) ht (q_vin hj) hdg ?_
            have h1 := k H locs hR hS
            rw [List.map_cons, show q_lf av (.ref a) = .ref (q_ad av a) from hav.ad (fun z => absurd ha2 (by rw [z]; decide))] at h1
            show W _ _ _ _ _ _ _ _ _ _ _ _ _ _ _ (F0 m (pc + 1) LS (va_rf ((V.2.2 z (q_ix j)).map (q_ad av)) :: _))
            rw [ha]
            exact h1
          · cases h
        · cases h
      · rename_i n0 hs
        split at h
        · rename_i a ha
          split at h
          · rename_i hn
            obtain ⟨rfl, hj, ha2⟩ := hn
            cases h
            rw [List.map_cons, List.map_cons, rf hs]
            obtain ⟨t0, ht⟩ := q_tys_at (ca := ca) hs (by decide)
            refine va_aldq (C := "StraightTax$Walker") hx hb hK hP z t0 (q_ws_at hs) ht (q_vin hj) hdg ?_
            have h1 := k H locs hR hS
            rw [List.map_cons, show q_lf av (.ref a) = .ref (q_ad av a) from hav.ad (fun z => absurd ha2 (by rw [z]; decide))] at h1
            show W _ _ _ _ _ _ _ _ _ _ _ _ _ _ _ (F0 m (pc + 1) LS (va_rf ((V.2.2 z (q_ix j)).map (q_ad av)) :: _))
            rw [ha]
            exact h1
          · cases h
        · cases h
      · cases h
    · cases h
  | iastore =>
    simp only [q_m] at h
    split at h
    · rename_i v j z r
      split at h
      · rename_i n0 hs
        split at h
        · rename_i hn
          obtain ⟨rfl, hj⟩ := hn
          cases h
          rw [List.map_cons, List.map_cons, List.map_cons, rf hs]
          obtain ⟨t0, ht⟩ := q_tys_at (ca := ca) hs (by decide)
          refine va_iast hx hb hK hP hD hS z t0 (q_ws_at hs) ht (q_vin hj) hdg (fun H1 locs1 hP1 hD1 hS1 => ?_)
          have hset := q_ws_set (av := av) (ca := ca) (V := V) (V' := q_uI V z (q_ix j) v) hs (fun c' hc => ⟨q_up_c hc, rfl, rfl⟩)
          have he : q_e av ca (q_uI V z (q_ix j) v) z (100, n0) = .inl (ca z, n0, .inl (upd (V.1 z) j.toNatClampNeg v)) := by
            show (Sum.inl (ca z, n0, Sum.inl (q_up V.1 z (q_ix j) v z)) : va_E) = _
            rw [q_up_upd]; rfl
          rw [he] at hset
          rw [hset] at hP1 hD1
          exact k H1 locs1 ⟨hP1, hD1, hK⟩ hS1
        · cases h
      · cases h
    · cases h
  | bastore =>
    simp only [q_m] at h
    split at h
    · rename_i v j z r
      split at h
      · rename_i n0 hs
        split at h
        · rename_i hn
          obtain ⟨rfl, hj⟩ := hn
          cases h
          rw [List.map_cons, List.map_cons, List.map_cons, rf hs]
          obtain ⟨t0, ht⟩ := q_tys_at (ca := ca) hs (by decide)
          refine va_bast hx hb hK hP hD hS z t0 (q_ws_at hs) ht (q_vin hj) hdg (fun H1 locs1 hP1 hD1 hS1 => ?_)
          have hset := q_ws_set (av := av) (ca := ca) (V := V) (V' := q_uI V z (q_ix j) v.toInt8.toInt32) hs (fun c' hc => ⟨q_up_c hc, rfl, rfl⟩)
          have he : q_e av ca (q_uI V z (q_ix j) v.toInt8.toInt32) z (101, n0) = .inl (ca z, n0, .inl (upd (V.1 z) j.toNatClampNeg (vp_nar .byte v))) := by
            show (Sum.inl (ca z, n0, Sum.inl (q_up V.1 z (q_ix j) v.toInt8.toInt32 z)) : va_E) = _
            rw [q_up_upd, vp_nar_byte]; rfl
          rw [he] at hset
          rw [hset] at hP1 hD1
          exact k H1 locs1 ⟨hP1, hD1, hK⟩ hS1
        · cases h
      · rename_i n0 hs
        split at h
        · rename_i hn
          obtain ⟨rfl, hj, hv⟩ := hn
          cases h
          rw [List.map_cons, List.map_cons, List.map_cons, rf hs]
          obtain ⟨t0, ht⟩ := q_tys_at (ca := ca) hs (by decide)
          refine va_zast hx hb hK hP hD hS z t0 (q_ws_at hs) ht (q_vin hj) hdg (fun H1 locs1 hP1 hD1 hS1 => ?_)
          have hset := q_ws_set (av := av) (ca := ca) (V := V) (V' := q_uI V z (q_ix j) v) hs (fun c' hc => ⟨q_up_c hc, rfl, rfl⟩)
          have he : q_e av ca (q_uI V z (q_ix j) v) z (102, n0) = .inl (ca z, n0, .inl (upd (V.1 z) j.toNatClampNeg (vp_nar .boolean v))) := by
            show (Sum.inl (ca z, n0, Sum.inl (q_up V.1 z (q_ix j) v z)) : va_E) = _
            rw [q_up_upd, show vp_nar .boolean v = v from by rcases hv with rfl | rfl <;> rfl]; rfl
          rw [he] at hset
          rw [hset] at hP1 hD1
          exact k H1 locs1 ⟨hP1, hD1, hK⟩ hS1
        · cases h
      · cases h
    · cases h
  | arraylength =>
    simp only [q_m] at h
    split at h
    · rename_i z r
      split at h
      · rename_i k0 n0 hs
        split at h
        · rename_i hn
          obtain ⟨rfl, rfl⟩ := hn
          cases h
          rw [List.map_cons, rf hs]
          obtain ⟨t0, ht⟩ := q_tys_at (ca := ca) hs (by decide)
          exact va_alen (x := (n0, .inl (V.1 z))) hx hb hK hP z t0 (q_ws_at hs) ht rfl hdg (k H locs hR hS)
        · cases h
      · split at h
        · rename_i a ha
          split at h
          · rename_i hn
            subst hn
            cases h
            obtain ⟨e2, hT⟩ := q_roB_T hfx ha
            rw [List.map_cons, show q_lf av (.ref z) = .ref (q_ad av z) from hav.ad e2]
            exact va_tlen hx hb hT hS rfl hdg (k H locs hR hS)
          · cases h
        · cases h
    · cases h
  | invokestatic x =>
    simp only [q_m] at h
    split at h
    · rename_i jj hc
      split at h
      · rename_i mm dp c1 sp c0 r
        split at h
        · rename_i z0 z1 hs0 hs1
          split at h
          · rename_i hn
            obtain ⟨rfl, n1, n2, n3, n4, n5, n6⟩ := hn
            cases h
            have hw := q_wi_in (qac_ok _ (q_lk_mem hc) rfl)
            obtain ⟨w1, w2, w3⟩ := qac_w
            rw [List.map_cons, List.map_cons, List.map_cons, List.map_cons, List.map_cons, rf hs0, rf hs1]
            obtain ⟨t0, ht0⟩ := q_tys_at (ca := ca) hs0 (by decide)
            obtain ⟨t1, ht1⟩ := q_tys_at (ca := ca) hs1 (by decide)
            have ng : ∀ {y : Int32}, 0 ≤ y.toInt → ¬ y < 0 := fun {y} h1 h2 => by
              rw [Int32.lt_iff_toInt_lt] at h2
              have : (0 : Int32).toInt = 0 := rfl
              omega
            refine va_copyi hx hb (hml.trans hL.2.1.symm) hown (hts _ hw) (hts _ (q_wi_in w1)) (hts _ (q_wi_in w2)) (hts _ (q_wi_in w3)) hK hP hD hS c0 c1 t0 t1 (q_ws_at hs0) (q_ws_at hs1) ht0 ht1 rfl (ng n1) (ng n2) (ng n3) n4 n5 (fun i hi => rfl) hfr ?_ hdg (fun H1 locs1 hP1 hD1 hS1 => ?_)
            · rw [hav.sum]
              have : nativeFrameWords "java/lang/System" "arraycopy" 5 = 7 := by decide
              omega
            · have hset := q_ws_set (av := av) (ca := ca) (V := V) (V' := (q_cp V.1 c0 c1 (q_ix sp) (q_ix dp) (q_ix mm), V.2)) hs1 (fun c' hc' => ⟨by funext kk; simp only [q_cp, if_neg hc'], rfl, rfl⟩)
              have he : q_e av ca (q_cp V.1 c0 c1 (q_ix sp) (q_ix dp) (q_ix mm), V.2) c1 (100, z1) = .inl (ca c1, z1, .inl (va_cpy (V.1 c0) (V.1 c1) sp.toNatClampNeg dp.toNatClampNeg mm.toNatClampNeg)) := by
                show (Sum.inl (ca c1, z1, Sum.inl (q_cp V.1 c0 c1 (q_ix sp) (q_ix dp) (q_ix mm) c1)) : va_E) = _
                rw [show q_cp V.1 c0 c1 (q_ix sp) (q_ix dp) (q_ix mm) c1 = va_cpy (V.1 c0) (V.1 c1) (q_ix sp) (q_ix dp) (q_ix mm) from by funext kk; simp [q_cp]]; rfl
              rw [he] at hset
              rw [hset] at hP1 hD1
              exact k H1 locs1 ⟨hP1, hD1, hK⟩ hS1
          · cases h
        · cases h
      · cases h
    · cases h
  | _ => cases h
end QM
end
section
/-! THE SMALL MACHINE IS TRUE TO THE MACHINE, 5: calls, and all of it -/
def q_Q (A : Nat → Prop) (av : Nat → Value) (ca : Nat → ClassId) (D : va_G) (sh : QH) (v : Option Value) (V : QV) : Array Value → State → Outcome → State → Prop := fun _ st oc t => oc = .returned (v.map (q_lf av)) ∧ q_R A av ca D sh V t t.heap ∧ va_F A st t
def q_P (A : Nat → Prop) (av : Nat → Value) (ca : Nat → ClassId) (D : va_G) (sh : QH) (as : List Value) (V : QV) : Array Value → State → Prop := fun a U => a = (as.map (q_lf av)).toArray ∧ q_R A av ca D sh V U U.heap ∧ q_Fx A av U ∧ ∀ q, U.heap.size ≤ q → A q
def q_rm (d : Nat) : Room := { frames := d + 1, cells := 0, slots := 0, locals := 60 * (d + 1) }
def q_wsj (r : QRow) : List Cond := Cond.code r.2.2.2.1 r.2.1 r.2.2.1 r.2.2.2.2.1 :: q_tbl
def q_isN : Cond → Bool
  | .fieldLinkNest .. => true
  | .methodLinkNest .. => true
  | _ => false
theorem qnest_is : ∀ w ∈ qnest, q_isN w = true := by decide +kernel
theorem q_Fx.moved {A : Nat → Prop} {av : Nat → Value} {s U : State} {locs : List Loc} (h : q_Fx A av s) (hS : va_S A s.heap U.heap locs) (hW : s.WarmedH U.vm) : q_Fx A av U := by
  obtain ⟨h1, h2, h3, h4, h5, h6, h7, h8, h9⟩ := h
  have hvm := hW.alike
  refine ⟨fun w hw => ?_, va_Z.moved hvm (h2.kept hS.2.1), va_Z.moved hvm (h3.kept hS.2.1), va_Z.moved hvm (h4.kept hS.2.1), va_Z.moved hvm (h5.kept hS.2.1), va_T.moved hvm (h6.kept hS.2.1), va_T.moved hvm (h7.kept hS.2.1), vk_S.moved hvm (h8.kept hS.2.1), fun i hi => vk_R.warm hW (h9 i hi)⟩
  have hn := qnest_is w hw
  have hz := h1 w hw
  cases w <;> first | exact va_Nw.warmF hW hz | exact va_Nw.warmM hW hz | cases hn
theorem q_R.moved {A : Nat → Prop} {av : Nat → Value} {ca : Nat → ClassId} {D : va_G} {sh : QH} {V : QV} {u U : State} {H : Heap} (hvm : u.vm.Alike U.vm) (h : q_R A av ca D sh V u H) : q_R A av ca D sh V U H := ⟨h.1, h.2.1, va_K.moved hvm h.2.2⟩
theorem q_P_blind {A : Nat → Prop} {av : Nat → Value} {ca : Nat → ClassId} {D : va_G} {sh : QH} {as : List Value} {V : QV} : FrameBlind (q_P A av ca D sh as V) := by
  intro a U g mk h
  obtain ⟨h1, h2, h3, h4⟩ := h
  exact ⟨h1, q_R.moved (u := U) (U := U.calling g mk a) (Vm.Alike.refl U.vm) h2, q_Fx.moved (U := U.calling g mk a) h3 (va_S.rf (A := A) (H0 := U.heap)) (State.WarmedH.refl U), h4⟩
def q_okm (r : QRow) : Bool := plainFor r.2.2.2.1 && decide (r.2.2.2.1.cls ≠ "java/lang/invoke/MethodHandle") && decide (r.2.2.2.1.cls ≠ "java/lang/invoke/VarHandle") && decide ((parseMethodDescriptor r.2.2.2.1.desc).map (fun d => d.parameters.length) = some r.2.2.2.2.2) && decide (r.2.2.2.1.cls = q_cn r.1) && decide (r.2.2.1 ≤ 30)
theorem qmt_okm : ∀ r ∈ qmt, q_okm r = true := by decide +kernel
theorem q_okm_spec {j : Nat} {r : QRow} (h : qmt[j]? = some r) : plainFor r.2.2.2.1 = true ∧ (r.2.2.2.1.cls ≠ "java/lang/invoke/MethodHandle" ∧ r.2.2.2.1.cls ≠ "java/lang/invoke/VarHandle") ∧ (∀ sig, parseMethodDescriptor r.2.2.2.1.desc = some sig → r.2.2.2.2.2 = sig.parameters.length) ∧ r.2.2.2.1.cls = q_cn r.1 ∧ r.2.2.1 ≤ 30 ∧ Cond.code r.2.2.2.1 r.2.1 r.2.2.1 r.2.2.2.2.1 ∈ q_tbl := by
  have hm := List.mem_of_getElem? h
  have h1 := qmt_okm r hm
  unfold q_okm at h1
  simp only [Bool.and_eq_true, decide_eq_true_eq] at h1
  obtain ⟨⟨⟨⟨⟨a1, a2⟩, a3⟩, a4⟩, a5⟩, a6⟩ := h1
  refine ⟨a1, ⟨a2, a3⟩, fun sig hs => ?_, a5, a6, List.mem_filter.mpr ⟨qmt_in r hm, rfl⟩⟩
  rw [hs] at a4
  exact (Option.some.inj a4).symm
theorem q_tbl_good : GoodIn q_tbl q_tbl := fun w hw => ⟨hw, good_of_word (List.mem_filter.mp hw).2⟩
theorem q_wsj_good {j : Nat} {r : QRow} (h : qmt[j]? = some r) : GoodIn q_tbl (q_wsj r) := by
  intro w hw
  rcases List.mem_cons.mp hw with rfl | hw
  · exact q_tbl_good _ (q_okm_spec h).2.2.2.2.2
  · exact q_tbl_good w hw
def q_wp (w : Cond) (i : Nat) : Bool := decide (lw_tbl[i]? = some w) && goodWord w
theorem q_wp_in {w : Cond} {i : Nat} (h : q_wp w i = true) : w ∈ q_tbl := by
  unfold q_wp at h
  rw [Bool.and_eq_true, decide_eq_true_iff] at h
  exact List.mem_filter.mpr ⟨List.mem_of_getElem? h.1, h.2⟩
def q_okc (e : (Nat × Nat) × (Nat × Nat)) (ps : List Nat) : Bool := match qmt[e.2.2]? with
  | none => false
  | some r => match e.2.1 with
    | 0 => q_wp (.methodLink (q_cn e.1.1) e.1.2 r.2.2.2.1) (ps.getD 0 0) && q_wp (.instanceMethod r.2.2.2.1) (ps.getD 1 0) && q_wp (.selects r.2.2.2.1.cls r.2.2.2.1 r.2.2.2.1) (ps.getD 2 0) && q_wp (.initialized r.2.2.2.1.cls) (ps.getD 3 0)
    | 1 => q_wp (.methodLink (q_cn e.1.1) e.1.2 r.2.2.2.1) (ps.getD 0 0) && q_wp (.static r.2.2.2.1) (ps.getD 1 0) && q_wp (.initialized r.2.2.2.1.cls) (ps.getD 2 0)
    | 2 => decide (Cond.methodLinkNest (q_cn e.1.1) e.1.2 r.2.2.2.1 "StraightTax" ∈ qnest) && q_wp (.static r.2.2.2.1) (ps.getD 1 0) && q_wp (.initialized r.2.2.2.1.cls) (ps.getD 2 0)
    | 3 => q_wp (.methodLink (q_cn e.1.1) e.1.2 r.2.2.2.1) (ps.getD 0 0) && q_wp (.sameMethod r.2.2.2.1.cls r.2.2.2.1.cls r.2.2.2.1.name r.2.2.2.1.desc) (ps.getD 1 0) && q_wp (.superclass (q_cn e.1.1) r.2.2.2.1.cls) (ps.getD 2 0) && q_wp (.instanceMethod r.2.2.2.1) (ps.getD 3 0) && q_wp (.initialized r.2.2.2.1.cls) (ps.getD 4 0) && decide (r.2.2.2.1.name ≠ "<init>")
    | 4 => q_wp (.methodLink (q_cn e.1.1) e.1.2 r.2.2.2.1) (ps.getD 0 0) && q_wp (.sameMethod r.2.2.2.1.cls r.2.2.2.1.cls r.2.2.2.1.name r.2.2.2.1.desc) (ps.getD 1 0) && q_wp (.instanceMethod r.2.2.2.1) (ps.getD 2 0) && qdt.all (fun f => match qmt[f.2]? with
      | none => false
      | some r2 => q_wi (.selects (q_cn f.1) r.2.2.2.1 r2.2.2.2.1) && q_wi (.instanceMethod r2.2.2.2.1) && q_wi (.initialized r2.2.2.2.1.cls) && decide (r2.2.2.2.2.2 = r.2.2.2.2.2) && decide (f.1 < 13))
    | _ => true
set_option maxRecDepth 100000 in
theorem qct_okz : (qct.zip qcp).all (fun z => q_okc z.1 z.2) = true := by decide +kernel
theorem qct_len : qct.length = qcp.length := by decide +kernel
theorem qct_ok {e : (Nat × Nat) × (Nat × Nat)} (h : e ∈ qct) : ∃ ps, q_okc e ps = true := by
  obtain ⟨i, hi⟩ := List.getElem?_of_mem h
  have hl := (List.getElem?_eq_some_iff.mp hi).1
  have hp : qcp[i]? = some (qcp[i]'(by rw [← qct_len]; exact hl)) := List.getElem?_eq_getElem _
  refine ⟨_, List.all_eq_true.mp qct_okz (e, qcp[i]'(by rw [← qct_len]; exact hl)) ?_⟩
  refine List.mem_of_getElem? (i := i) ?_
  rw [List.getElem?_zip_eq_some]
  exact ⟨hi, hp⟩
theorem q_cnX : ∀ (ci : Nat) (q : vw_C), vwCl[ci]? = some q → q.1 = q_cn ci := by
  intro ci q h
  match ci, h with
  | 0, h => cases h; rfl
  | 1, h => cases h; rfl
  | 2, h => cases h; rfl
  | 3, h => cases h; rfl
  | 4, h => cases h; rfl
  | 5, h => cases h; rfl
  | 6, h => cases h; rfl
  | 7, h => cases h; rfl
  | 8, h => cases h; rfl
  | 9, h => cases h; rfl
  | 10, h => cases h; rfl
  | 11, h => cases h; rfl
  | 12, h => cases h; rfl
  | n + 13, h => simp [vwCl] at h
section QC
variable {p : Program} {l : Launch} {e : Env} {R : Room} {s : State} {m : MethodId} {args : Array Value} {below : List Frame} {meth : Method} {c : Code} {H : Heap} {locs : List Loc} {Q : State → Prop}
variable {av : Nat → Value} {A : Nat → Prop} {cc : ByteArray} {nL : Nat} {ca : Nat → ClassId} {D : va_G} {sh : QH}
theorem q_back {pc : Nat} {LS : Array Slot} {st0 rest : List Value} {v : Option Value} {V : QV} {a : Array Value} (hr : va_Run p l e R s m args below meth c H locs 0 0 0 0 (F0 m pc LS st0) rest (q_Q A av ca D sh v V a) A) (hS : va_S A s.heap H locs)
    (kk : ∀ H1 locs1, q_R A av ca D sh V s H1 → va_S A s.heap H1 locs1 → W p l e R s m args below meth c H1 locs1 0 0 Q (F0 m (pc + 3) LS ((v.map (q_lf av)).toList ++ rest))) : W p l e R s m args below meth c H locs 0 0 Q (F0 m pc LS st0) := by
  intro T hT X
  obtain ⟨v', st₀, t, T', L, h0, X', hL, e1, e2, ⟨hv, hR, hz, hk⟩, st⟩ := hr T hT X
  cases hv
  rw [h0] at hz hk
  have hal : s.vm.Alike t.vm := by rw [← e2]; exact X'.warmed.alike
  obtain ⟨t2, a1, b1⟩ := kk T'.heap (locs ++ L) (by rw [e1]; exact q_R.moved hal.symm hR)
    ⟨Nat.le_trans hS.1 (by rw [e1]; exact hz), fun q h1 h2 => by rw [e1, hk q (Nat.lt_of_lt_of_le h1 hS.1) h2]; exact hS.2.1 q h1 h2, fun q hq => by
      rcases List.mem_append.mp hq with h | h
      · exact hS.2.2 q h
      · exact hL q h⟩ T' rfl X'
  exact ⟨t2, st t2 a1, b1⟩
/-- the cell that a call is made upon -/
theorem q_recv {V : QV} (hwf : q_wf sh) (hfx : q_Fx A av s) (hR : q_R A av ca D sh V s H) (hS : va_S A s.heap H locs) {z k : Nat} (h : q_cls sh z = some k) (hk : k < 19) : z ≠ 1030 ∧ (∃ cell : Cell, H[q_ad av z]? = some cell ∧ cell.vm.isStatics = false ∧ s.vm.findClass (q_cn k) = some cell.cls) ∧ (z < sh.length → ∃ cC, ClassAt s (q_cn k) cC) := by
  unfold q_cls at h
  split at h
  · rename_i k' n hs
    cases h
    have hz := (q_getD hs).1
    obtain ⟨q, hq, hN⟩ := hwf.2 z k n hs (by omega)
    have hat := q_ws_at (av := av) (ca := ca) (V := V) hs
    have he : q_e av ca V z (k, n) = .inr (k, q_fs av V z k n) := by unfold q_e; rw [if_pos (show k < 100 by omega)]
    rw [he] at hat
    have hc := va_recv hR.2.2 hR.1 hq hat
    rw [q_cnX k q hq] at hc
    refine ⟨by have := hwf.1; omega, hc, fun _ => ⟨D.1 k, ?_⟩⟩
    have h2 := (hR.2.2.1 k q hq).2
    rw [q_cnX k q hq] at h2
    exact h2
  · rename_i hn
    split at h
    · rename_i hz
      cases h
      obtain ⟨i, hi, rfl⟩ := q_sp hz
      refine ⟨q_n1 hi, ?_, fun h1 => ?_⟩
      · obtain ⟨-, -, -, -, -, -, -, t1, -⟩ := hfx
        have h3 := vk_recv (i := i) t1 hi hS
        exact h3
      · have := hwf.1; omega
    · cases h
end QC
end
section
/-! THE SMALL MACHINE IS TRUE TO THE MACHINE, 6: all of it -/
theorem q_at_rep {n i : Nat} {v : Value} (h : q_at (List.replicate n none) i = some v) : False := by
  unfold q_at at h
  rw [List.getD_eq_getElem?_getD, List.getElem?_replicate] at h
  split at h <;> cases h
theorem q_en_len : ∀ (as : List Value) (n : Nat), (q_en as n).length = n
  | [], n => by simp [q_en]
  | .int v :: t, 0 => by simp [q_en]
  | .int v :: t, n + 1 => by simp [q_en, q_en_len t n]
  | .ref v :: t, 0 => by simp [q_en]
  | .ref v :: t, n + 1 => by simp [q_en, q_en_len t n]
  | .long v :: t, 0 => by simp [q_en]
  | .long v :: t, 1 => by simp [q_en]
  | .long v :: t, n + 2 => by simp [q_en, q_en_len t n]
  | .null :: t, n => by simp [q_en]
  | .float _ :: t, n => by simp [q_en]
  | .double _ :: t, n => by simp [q_en]
  | .retAddr _ :: t, n => by simp [q_en]
theorem q_lv_args {av : Nat → Value} (hav : q_AV av) : ∀ (as : List Value) (n b i : Nat) (v : Value), q_at (q_en as n) i = some v → (b + i, q_lf av v) ∈ lv_args b (as.map (q_lf av))
  | [], n, b, i, v, h => by rw [q_en] at h; exact (q_at_rep h).elim
  | .int x :: t, 0, b, i, v, h => by cases i <;> cases h
  | .int x :: t, n + 1, b, 0, v, h => by cases h; exact List.mem_cons_self
  | .int x :: t, n + 1, b, i + 1, v, h => by
    have h1 := q_lv_args hav t n (b + 1) i v h
    rw [show b + 1 + i = b + (i + 1) by omega] at h1
    exact List.mem_cons.mpr (Or.inr h1)
  | .ref x :: t, 0, b, i, v, h => by cases i <;> cases h
  | .ref x :: t, n + 1, b, 0, v, h => by cases h; exact List.mem_cons_self
  | .ref x :: t, n + 1, b, i + 1, v, h => by
    have h1 := q_lv_args hav t n (b + 1) i v h
    rw [show b + 1 + i = b + (i + 1) by omega] at h1
    refine List.mem_cons.mpr (Or.inr ?_)
    rw [show (if (q_lf av (.ref x)).category = 2 then b + 2 else b + 1) = b + 1 from by rw [hav.cat]; rfl]
    exact h1
  | .long x :: t, 0, b, i, v, h => by cases i <;> cases h
  | .long x :: t, 1, b, i, v, h => by rw [show q_en (.long x :: t) 1 = List.replicate 1 none from rfl] at h; exact (q_at_rep h).elim
  | .long x :: t, n + 2, b, 0, v, h => by cases h; exact List.mem_cons_self
  | .long x :: t, n + 2, b, 1, v, h => by cases h
  | .long x :: t, n + 2, b, i + 2, v, h => by
    have h1 := q_lv_args hav t n (b + 2) i v h
    rw [show b + 2 + i = b + (i + 2) by omega] at h1
    exact List.mem_cons.mpr (Or.inr h1)
  | .null :: t, n, b, i, v, h => by rw [q_en] at h; exact (q_at_rep h).elim; all_goals simp
  | .float _ :: t, n, b, i, v, h => by rw [q_en] at h; exact (q_at_rep h).elim; all_goals simp
  | .double _ :: t, n, b, i, v, h => by rw [q_en] at h; exact (q_at_rep h).elim; all_goals simp
  | .retAddr _ :: t, n, b, i, v, h => by rw [q_en] at h; exact (q_at_rep h).elim; all_goals simp
theorem q_sl_len (as : List Value) : (lg_sl as).length = (as.map fun v => v.category).sum := by
  induction as with
  | nil => rfl
  | cons a t ih =>
    unfold lg_sl at ih ⊢
    rw [List.flatMap_cons, List.length_append, ih, List.map_cons, List.sum_cons]
    rcases lv_cat a with h | h
    · rw [h]; simp
    · rw [h]; simp
section QZ
variable {l : Launch} {av : Nat → Value} {A : Nat → Prop} {ca : Nat → ClassId} {D : va_G} {sh : QH}
/-- what is to be shown of a run of n steps -/
def q_Sim (l : Launch) (av : Nat → Value) (A : Nat → Prop) (ca : Nat → ClassId) (D : va_G) (sh : QH) (n : Nat) : Prop := ∀ (d j pc : Nat) (ls : QL) (st : List Value) (V : QV) (v : Option Value) (V2 : QV) (r : QRow), am sh n d j pc ls st V = some (v, V2) → qmt[j]? = some r → ∀ (p : Program) (e : Env) (R : Room) (s : State) (m : MethodId) (args : Array Value) (below : List Frame) (meth : Method) (c : Code) (H : Heap) (locs : List Loc) (LS : Array Slot), p.tables.exec = Jvm.exec → c.code = r.2.1 → c.maxLocals = r.2.2.1 → s.vm.findClass (q_cn r.1) = some m.cls → (∀ w ∈ q_tbl, w.before args s = true) → meth.sig.returnType = r.2.2.2.2.1 → meth.locks = false → q_Fx A av s → (∀ q, s.heap.size ≤ q → A q) → d + 1 ≤ R.frames → 60 * (d + 1) ≤ R.locals → q_R A av ca D sh V s H → va_S A s.heap H locs → q_LR av LS r.2.2.1 ls → W p l e R s m args below meth c H locs 0 0 (MQ below (q_Q A av ca D sh v V2) args s 0 0 A) (F0 m pc LS (st.map (q_lf av)))
/-- the contract of a method, out of a run of it -/
theorem q_met (hav : q_AV av) {n : Nat} (hsim : q_Sim l av A ca D sh n) {d j : Nat} {as : List Value} {V V2 : QV} {v : Option Value} {r : QRow} (ha : am sh n d j 0 (q_en as (q_ml j)) [] V = some (v, V2)) (hr : qmt[j]? = some r) (hfit : (as.map fun v => v.category).sum ≤ q_ml j) : Met l r.2.2.2.1 (q_wsj r) (q_rm d) (q_P A av ca D sh as V) (q_Q A av ca D sh v V2) 0 0 A := by
  obtain ⟨hy, -, -, hcn, -, -⟩ := q_okm_spec hr
  have hml : q_ml j = r.2.2.1 := by unfold q_ml; rw [hr]; rfl
  rw [hml] at hfit ha
  refine va_MetF (cc := r.2.1) (maxL := r.2.2.1) (ret := r.2.2.2.2.1) hy rfl ?_
  intro p e s m args below meth c s₁ B hml2 hv
  obtain ⟨rfl, hR, hF, hA⟩ := hv
  have hts := atoms_spec (ws := q_wsj r) B.pre
  have hl : q_LR av ((lg_sl (as.map (q_lf av)) ++ List.replicate (r.2.2.1 - (lg_sl (as.map (q_lf av))).length) Slot.unset).toArray) r.2.2.1 (q_en as r.2.2.1) := by
    have h1 := lv_entry (as.map (q_lf av)) (n := r.2.2.1) (by rw [q_sl_len, hav.sum]; exact hfit)
    refine ⟨q_en_len as r.2.2.1, h1.1, h1.2.1, fun q hq => h1.2.2 q ?_⟩
    obtain ⟨w, h2, h3⟩ := q_asc_mem.mp hq
    have h4 := q_lv_args hav as r.2.2.1 0 q.1 w h2
    rw [Nat.zero_add, ← h3] at h4
    exact h4
  rw [lg_entry_eq]
  refine hsim d j 0 (q_en as r.2.2.1) [] V v V2 r ha hr p e _ s m _ below meth c s.heap [] _ B.exec B.bytes hml2 ?_ (fun w hw => hts w (List.mem_cons_of_mem _ hw)) B.returns B.notSynchronized hF hA (Nat.le_refl _) (Nat.le_refl _) hR va_S.rf hl
  rw [← hcn]
  exact findClass_of_methodNamed B.named
end QZ
end
section
/-! THE SMALL MACHINE IS TRUE TO THE MACHINE, 7 -/
section QY
variable {l : Launch} {av : Nat → Value} {A : Nat → Prop} {ca : Nat → ClassId} {D : va_G} {sh : QH}
theorem q_dec_spec {j pc o len : Nat} {i : Instr} {r : QRow} (h : q_dec j pc = some (o, i, len)) (hr : qmt[j]? = some r) : o = r.1 ∧ decode r.2.1 pc = .ok (i, len) := by
  unfold q_dec at h
  rw [hr] at h
  dsimp only at h
  split at h
  · cases h
  · cases h; exact ⟨rfl, by assumption⟩
theorem q_drop {α : Type} {st r : List α} {n : Nat} {a : α} (h : st.drop n = a :: r) : st = st.take n ++ a :: r ∧ (st.take n).length = n := by
  refine ⟨by rw [← h, List.take_append_drop], ?_⟩
  have h1 : (st.drop n).length = r.length + 1 := by rw [h]; rfl
  rw [List.length_drop] at h1
  rw [List.length_take]
  omega
theorem q_retW {p : Program} {e : Env} {R : Room} {s : State} {m : MethodId} {args : Array Value} {below : List Frame} {meth : Method} {c : Code} {H : Heap} {locs : List Loc} {LS : Array Slot} {V : QV} {r : QRow} {j pc len : Nat} {i : Instr} {st : List Value} {w : Option Value} (hx : p.tables.exec = Jvm.exec) (hb : c.code = r.2.1) (hret : meth.sig.returnType = r.2.2.2.2.1) (hlk : meth.locks = false) (hj : qmt[j]? = some r) (hdg : decode r.2.1 pc = .ok (i, len)) (hR : q_R A av ca D sh V s H) (hS : va_S A s.heap H locs) (hq : q_ret j i len st = some w) : W p l e R s m args below meth c H locs 0 0 (MQ below (q_Q A av ca D sh w V) args s 0 0 A) (F0 m pc LS (st.map (q_lf av))) := by
  have hrt : q_rt j = some r.2.2.2.2.1 := by unfold q_rt; rw [hj]; rfl
  have post : ∀ (w' : Option Value), w'.map (q_lf av) = w' → ∀ t : State, t.heap = H → s.WarmedH t.vm → q_Q A av ca D sh w' V args s (.returned w') t := by
    intro w' hw t ht hW
    exact ⟨by rw [hw], by rw [ht]; exact q_R.moved hW.alike hR, hS.F ht⟩
  cases i with
  | ireturn =>
    simp only [q_ret] at hq
    split at hq
    · rename_i x
      split at hq
      · rename_i hn
        subst hn
        rw [hrt] at hq
        split at hq
        · rename_i ty hty
          split at hq
          · rename_i hnar
            cases hq
            exact W.zret hx hb (hret.trans (Option.some.inj hty)) hnar (post (some (.int x)) rfl) hS.2.2 hdg
          · cases hq
        · cases hq
      · cases hq
    · cases hq
  | lreturn =>
    simp only [q_ret] at hq
    split at hq
    · rename_i x
      split at hq
      · rename_i hn
        obtain ⟨rfl, h2⟩ := hn
        cases hq
        rw [hrt] at h2
        exact W.lret hx hb (hret.trans (Option.some.inj h2)) (post (some (.long x)) rfl) hS.2.2 hdg
      · cases hq
    · cases hq
  | return_ =>
    simp only [q_ret] at hq
    split at hq
    · split at hq
      · rename_i hn
        obtain ⟨rfl, h2⟩ := hn
        cases hq
        rw [hrt] at h2
        exact W.vret hx hb (hret.trans (Option.some.inj h2)) (post none rfl) hS.2.2 hdg
      · cases hq
    · cases hq
  | _ => cases hq
set_option maxHeartbeats 4000000 in
theorem q_callW (hav : q_AV av) (hwf : q_wf sh) {p : Program} {e : Env} {R : Room} {s : State} {m : MethodId} {args : Array Value} {below : List Frame} {meth : Method} {c : Code} {H : Heap} {locs : List Loc} {LS : Array Slot} {ls : QL} {V V1 : QV} {r : QRow} {d2 o pc len j2 : Nat} {i : Instr} {st as rs : List Value} {v1 : Option Value} {Q : State → Prop}
    (hx : p.tables.exec = Jvm.exec) (hb : c.code = r.2.1) (hml : c.maxLocals = r.2.2.1) (hown : s.vm.findClass (q_cn o) = some m.cls) (hts : ∀ w ∈ q_tbl, w.before args s = true) (hfx : q_Fx A av s) (hA : ∀ q, s.heap.size ≤ q → A q) (hfr : d2 + 1 + 1 ≤ R.frames) (hlo : 60 * (d2 + 1 + 1) ≤ R.locals) (hR : q_R A av ca D sh V s H) (hS : va_S A s.heap H locs) (hL : q_LR av LS r.2.2.1 ls) (hdg : decode r.2.1 pc = .ok (i, len)) (hc : q_call sh o i len st = some (j2, as, rs))
    (hM : ∀ r2, qmt[j2]? = some r2 → Met l r2.2.2.2.1 (q_wsj r2) (q_rm d2) (q_P A av ca D sh as V) (q_Q A av ca D sh v1 V1) 0 0 A)
    (k : ∀ H1 locs1, q_R A av ca D sh V1 s H1 → va_S A s.heap H1 locs1 → W p l e R s m args below meth c H1 locs1 0 0 Q (F0 m (pc + 3) LS ((v1.toList ++ rs).map (q_lf av)))) : W p l e R s m args below meth c H locs 0 0 Q (F0 m pc LS (st.map (q_lf av))) := by
  have hpre : ∀ U : State, U.heap = H → s.WarmedH U.vm → q_P A av ca D sh as V (as.map (q_lf av)).toArray U := by
    intro U hU hW
    refine ⟨rfl, by rw [hU]; exact q_R.moved hW.alike hR, hfx.moved (locs := locs) (by rw [hU]; exact hS) hW, fun q hq => hA q (Nat.le_trans ?_ hq)⟩
    rw [hU]; exact hS.1
  have hk : ∀ H1 locs1, q_R A av ca D sh V1 s H1 → va_S A s.heap H1 locs1 → W p l e R s m args below meth c H1 locs1 0 0 Q (F0 m (pc + 3) LS ((v1.map (q_lf av)).toList ++ rs.map (q_lf av))) := by
    intro H1 locs1 a1 a2
    have h1 := k H1 locs1 a1 a2
    rw [List.map_append] at h1
    have e1 : (v1.toList).map (q_lf av) = (v1.map (q_lf av)).toList := by cases v1 <;> rfl
    rw [e1] at h1
    exact h1
  have hws : ∀ {r2 : QRow}, qmt[j2]? = some r2 → (∀ w ∈ q_wsj r2, ∀ (a' : Array Value) (U : State), s.WarmedH U.vm → w.before a' U = true) ∧ Cond.code r2.2.2.2.1 r2.2.1 r2.2.2.1 r2.2.2.2.2.1 ∈ q_wsj r2 ∧ (Cond.code r2.2.2.2.1 r2.2.1 r2.2.2.1 r2.2.2.2.2.1).before args s = true ∧ 8 + (r2.2.2.1 + 11) + (q_rm d2).locals ≤ R.locals := by
    intro r2 h2
    obtain ⟨-, -, -, -, b1, b2⟩ := q_okm_spec h2
    refine ⟨pay_in hts (q_wsj_good h2), List.mem_cons_self, hts _ b2, ?_⟩
    show 8 + (r2.2.2.1 + 11) + 60 * (d2 + 1) ≤ R.locals
    omega
  have room : ∀ {x : List Value}, (x.map fun v => v.category).sum ≤ 8 → 2 * (F0 m pc LS (st.map (q_lf av))).monitorRoom + ((x.map (q_lf av)).map fun v => v.category).sum ≤ 8 := by
    intro x hx8
    rw [hav.sum]
    exact lv_room hx8
  have revs : ∀ (x : List Value), (((x.reverse).map (q_lf av)).reverse) = x.map (q_lf av) := fun x => by rw [← List.map_reverse, List.reverse_reverse]
  cases i with
  | invokevirtual x =>
    simp only [q_call] at hc
    split at hc
    · rename_i j hl
      split at hc
      · rename_i z r' hdr
        split at hc
        · rename_i hn
          obtain ⟨rfl, hcl, h8⟩ := hn
          cases hc
          obtain ⟨ps, hok⟩ := qct_ok (q_lk_mem hl)
          unfold q_okc at hok
          split at hok
          · cases hok
          · rename_i r2 h2
            dsimp only at hok h2
            simp only [Bool.and_eq_true] at hok
            obtain ⟨⟨⟨k1, k2⟩, k3⟩, k4⟩ := hok
            obtain ⟨b0, b1, b2, b3, b4, b5⟩ := q_okm_spec h2
            have hj19 : r2.1 < 19 := by
              have h3 : ∀ q ∈ qmt, q.1 < 19 := by decide +kernel
              exact h3 r2 (List.mem_of_getElem? h2)
            have hown2 : q_own j2 = r2.1 := by unfold q_own; rw [h2]; rfl
            have hnp : q_np j2 = r2.2.2.2.2.2 := by unfold q_np; rw [h2]; rfl
            rw [hown2] at hcl
            obtain ⟨hz, hrc, -⟩ := q_recv hwf hfx hR hS hcl hj19
            rw [← b3] at hrc
            obtain ⟨w1, w2, w3, w4⟩ := hws h2
            obtain ⟨d1, d3⟩ := q_drop hdr
            have ez : q_lf av (.ref z) = .ref (q_ad av z) := hav.ad hz
            rw [List.map_cons, ez] at hpre
            refine q_back (va_runV (n := r2.2.2.2.2.2) ⟨hx, hb, hml, hown, hts⟩ (hM r2 h2) ⟨⟨rfl, rfl, hfr, w4, w1, w2, w3, hts _ (q_wp_in k4), b1, fun sig h => b2 sig h, hts _ (q_wp_in k1)⟩, hts _ (q_wp_in k2), hts _ (q_wp_in k3)⟩ ⟨q_P_blind, hrc, hpre⟩ rfl (by rw [List.length_map, List.length_reverse, d3, hnp]) hL.2.1 ?_ (room h8) hdg ⟨Nat.zero_le _, Nat.zero_le _⟩) hS hk
            show st.map (q_lf av) = _
            rw [revs]
            conv => lhs; rw [d1]
            rw [List.map_append, List.map_cons, ez]
        · cases hc
      · cases hc
    · rename_i j0 hl
      split at hc
      · rename_i z r' hdr
        split at hc
        · rename_i kk hcl
          split at hc
          · rename_i fj jj hfind
            split at hc
            · rename_i hn
              obtain ⟨rfl, hzl, h8⟩ := hn
              cases hc
              obtain ⟨ps, hok⟩ := qct_ok (q_lk_mem hl)
              unfold q_okc at hok
              split at hok
              · cases hok
              · rename_i r0 h0
                dsimp only at hok h0
                simp only [Bool.and_eq_true] at hok
                obtain ⟨⟨⟨k1, k2⟩, k3⟩, k4⟩ := hok
                have hmem := List.mem_of_find?_eq_some hfind
                have hfk : fj = kk := by simpa using List.find?_some hfind
                subst hfk
                have k5 := List.all_eq_true.mp k4 _ hmem
                dsimp only at k5
                split at k5
                · cases k5
                · rename_i r2 h2
                  simp only [Bool.and_eq_true, decide_eq_true_eq] at k5
                  obtain ⟨⟨⟨⟨k6, k7⟩, k8⟩, k9⟩, k10⟩ := k5
                  obtain ⟨c0, c1, c2, c3, c4, c5⟩ := q_okm_spec h0
                  have hnp : q_np j0 = r0.2.2.2.2.2 := by unfold q_np; rw [h0]; rfl
                  obtain ⟨hz, hrc, -⟩ := q_recv hwf hfx hR hS hcl (by omega)
                  obtain ⟨w1, w2, w3, w4⟩ := hws h2
                  obtain ⟨d1, d3⟩ := q_drop hdr
                  have ez : q_lf av (.ref z) = .ref (q_ad av z) := hav.ad hz
                  rw [List.map_cons, ez] at hpre
                  refine q_back (va_runU (owner := r0.2.2.2.1.cls) (x := r0.2.2.2.1) (n := r0.2.2.2.2.2) ⟨hx, hb, hml, hown, hts⟩ (hM r2 h2) ⟨⟨rfl, rfl, hfr, w4, w1, w2⟩, w3, hts _ (q_wi_in k8), c1, fun sig h => c2 sig h, hts _ (q_wp_in k1), hts _ (q_wp_in k2), va_Decl.of (hts _ (q_wp_in k3)) (hts _ c5), hts _ (q_wi_in k6), hts _ (q_wi_in k7)⟩ ⟨q_P_blind, hrc, hpre⟩ rfl (by rw [List.length_map, List.length_reverse, d3, hnp]) hL.2.1 ?_ (room h8) hdg ⟨Nat.zero_le _, Nat.zero_le _⟩) hS hk
                  show st.map (q_lf av) = _
                  rw [revs]
                  conv => lhs; rw [d1]
                  rw [List.map_append, List.map_cons, ez]
            · cases hc
          · cases hc
        · cases hc
      · cases hc
    · cases hc
  | invokestatic x =>
    simp only [q_call] at hc
    split at hc
    · rename_i j hl
      split at hc
      · rename_i hn
        obtain ⟨rfl, hst, h8⟩ := hn
        cases hc
        obtain ⟨ps, hok⟩ := qct_ok (q_lk_mem hl)
        unfold q_okc at hok
        split at hok
        · cases hok
        · rename_i r2 h2
          dsimp only at hok h2
          simp only [Bool.and_eq_true] at hok
          obtain ⟨⟨k1, k2⟩, k3⟩ := hok
          obtain ⟨b0, b1, b2, b3, b4, b5⟩ := q_okm_spec h2
          have hnp : q_np j2 = r2.2.2.2.2.2 := by unfold q_np; rw [h2]; rfl
          obtain ⟨w1, w2, w3, w4⟩ := hws h2
          refine q_back (va_runS (n := r2.2.2.2.2.2) ⟨hx, hb, hml, hown, hts⟩ (hM r2 h2) ⟨⟨rfl, rfl, hfr, w4, w1, w2, w3, hts _ (q_wp_in k3), b1, fun sig h => b2 sig h, hts _ (q_wp_in k1)⟩, hts _ (q_wp_in k2)⟩ ⟨q_P_blind, hpre⟩ rfl (by rw [List.length_map, List.length_reverse, List.length_take, Nat.min_eq_left hst, hnp]) hL.2.1 ?_ (room h8) hdg ⟨Nat.zero_le _, Nat.zero_le _⟩) hS hk
          show st.map (q_lf av) = _
          rw [revs, ← List.map_append, List.take_append_drop]
      · cases hc
    · rename_i j hl
      split at hc
      · rename_i hn
        obtain ⟨rfl, hst, h8⟩ := hn
        cases hc
        obtain ⟨ps, hok⟩ := qct_ok (q_lk_mem hl)
        unfold q_okc at hok
        split at hok
        · cases hok
        · rename_i r2 h2
          dsimp only at hok h2
          simp only [Bool.and_eq_true, decide_eq_true_eq] at hok
          obtain ⟨⟨k1, k2⟩, k3⟩ := hok
          obtain ⟨b0, b1, b2, b3, b4, b5⟩ := q_okm_spec h2
          have hnp : q_np j2 = r2.2.2.2.2.2 := by unfold q_np; rw [h2]; rfl
          obtain ⟨w1, w2, w3, w4⟩ := hws h2
          refine q_back (va_runSN (n := r2.2.2.2.2.2) ⟨hx, hb, hml, hown, hts⟩ (hM r2 h2) ⟨⟨⟨rfl, rfl, hfr, w4, w1, w2⟩, w3, hts _ (q_wp_in k3), b1, fun sig h => b2 sig h, va_Nw.use rfl (hfx.1 _ k1)⟩, hts _ (q_wp_in k2), trivial⟩ ⟨q_P_blind, hpre⟩ rfl (by rw [List.length_map, List.length_reverse, List.length_take, Nat.min_eq_left hst, hnp]) hL.2.1 ?_ (room h8) hdg ⟨Nat.zero_le _, Nat.zero_le _⟩) hS hk
          show st.map (q_lf av) = _
          rw [revs, ← List.map_append, List.take_append_drop]
      · cases hc
    · cases hc
  | invokespecial x =>
    simp only [q_call] at hc
    split at hc
    · rename_i j hl
      split at hc
      · rename_i z r' hdr
        split at hc
        · rename_i kk hcl
          split at hc
          · rename_i hn
            obtain ⟨rfl, hzl, hk13, h8⟩ := hn
            cases hc
            obtain ⟨ps, hok⟩ := qct_ok (q_lk_mem hl)
            unfold q_okc at hok
            split at hok
            · cases hok
            · rename_i r2 h2
              dsimp only at hok h2
              simp only [Bool.and_eq_true, decide_eq_true_eq] at hok
              obtain ⟨⟨⟨⟨⟨k1, k2⟩, k3⟩, k4⟩, k5⟩, k6⟩ := hok
              obtain ⟨b0, b1, b2, b3, b4, b5⟩ := q_okm_spec h2
              have hnp : q_np j2 = r2.2.2.2.2.2 := by unfold q_np; rw [h2]; rfl
              obtain ⟨hz, hrc, hat⟩ := q_recv hwf hfx hR hS hcl (by omega)
              obtain ⟨cC, hat⟩ := hat hzl
              obtain ⟨w1, w2, w3, w4⟩ := hws h2
              obtain ⟨d1, d3⟩ := q_drop hdr
              have ez : q_lf av (.ref z) = .ref (q_ad av z) := hav.ad hz
              rw [List.map_cons, ez] at hpre
              refine q_back (va_runSU (n := r2.2.2.2.2.2) hat ⟨hx, hb, hml, hown, hts⟩ (hM r2 h2) ⟨⟨rfl, rfl, hfr, w4, w1, w2⟩, hts _ (q_wp_in k1), hts _ (q_wp_in k2), hts _ (q_wp_in k3), hts _ (q_wp_in k4), hts _ (q_wp_in k5), w3, k6, fun sig h => b2 sig h⟩ ⟨q_P_blind, hrc, hpre⟩ rfl (by rw [List.length_map, List.length_reverse, d3, hnp]) hL.2.1 ?_ (room h8) hdg ⟨Nat.zero_le _, Nat.zero_le _⟩) hS hk
              show st.map (q_lf av) = _
              rw [revs]
              conv => lhs; rw [d1]
              rw [List.map_append, List.map_cons, ez]
          · cases hc
        · cases hc
      · cases hc
    · cases hc
  | _ => cases hc
/-- ALL OF IT: what the small machine does, the machine does -/
theorem q_sim (hav : q_AV av) (hwf : q_wf sh) : ∀ n, q_Sim l av A ca D sh n
  | 0 => by intro d j pc ls st V v V2 r h; cases h
  | n + 1 => by
    have ih := q_sim hav hwf n
    intro d j pc ls st V v V2 r h hr p e R s m args below meth c H locs LS hx hb hml hown hts hret hlk hfx hA hfr hlo hR hS hL
    change q_go sh (am sh n) d j pc ls st V = some (v, V2) at h
    unfold q_go at h
    cases hd : q_dec j pc with
    | none => rw [hd] at h; cases h
    | some y =>
      obtain ⟨o, i, len⟩ := y
      rw [hd] at h
      dsimp only at h
      obtain ⟨rfl, hdg⟩ := q_dec_spec hd hr
      cases hq : q_ret j i len st with
      | some w =>
        rw [hq] at h
        cases h
        exact q_retW hx hb hret hlk hr hdg hR hS hq
      | none =>
        rw [hq] at h
        dsimp only at h
        cases hc : q_call sh r.1 i len st with
        | some y =>
          obtain ⟨j2, as, rs⟩ := y
          rw [hc] at h
          dsimp only at h
          cases d with
          | zero => cases h
          | succ d2 =>
            dsimp only at h
            split at h
            · rename_i hfit
              cases ha : am sh n d2 j2 0 (q_en as (q_ml j2)) [] V with
              | none => rw [ha] at h; cases h
              | some w =>
                obtain ⟨v1, V1⟩ := w
                rw [ha] at h
                dsimp only at h
                exact q_callW hav hwf hx hb hml hown hts hfx hA hfr hlo hR hS hL hdg hc (fun r2 h2 => q_met hav ih ha h2 hfit) (fun H1 locs1 hR1 hS1 => ih (d2 + 1) j (pc + 3) ls (v1.toList ++ rs) V1 v V2 r h hr p e R s m args below meth c H1 locs1 LS hx hb hml hown hts hret hlk hfx hA hfr hlo hR1 hS1 hL)
            · cases h
        | none =>
          rw [hc] at h
          dsimp only at h
          cases hs : q_s r.1 i len pc ls st with
          | some y =>
            obtain ⟨pc2, ls2, st2⟩ := y
            rw [hs] at h
            exact q_simS hav hx hb hown hts hfx hdg hL hs (fun LS' hL' => ih d j pc2 ls2 st2 V v V2 r h hr p e R s m args below meth c H locs LS' hx hb hml hown hts hret hlk hfx hA hfr hlo hR hS hL')
          | none =>
            rw [hs] at h
            dsimp only at h
            cases hm : q_m sh r.1 i len pc st V with
            | some y =>
              obtain ⟨pc2, st2, V1⟩ := y
              rw [hm] at h
              exact q_simM hav hwf hx hb hown hts hfx hml hdg hL hR hS (by omega) (by omega) hm (fun H1 locs1 hR1 hS1 => ih d j pc2 ls st2 V1 v V2 r h hr p e R s m args below meth c H1 locs1 LS hx hb hml hown hts hret hlk hfx hA hfr hlo hR1 hS1 hL)
            | none => rw [hm] at h; cases h
/-- a method's contract, out of the small machine's -/
theorem q_contract (hav : q_AV av) (hwf : q_wf sh) {d j : Nat} {as : List Value} {V : QV} {r : QRow} {Q : Option Value → QV → Prop} (hr : qmt[j]? = some r) (hfit : (as.map fun v => v.category).sum ≤ q_ml j) (hg : G sh d j 0 (q_en as (q_ml j)) [] V Q) : ∃ v V2, Q v V2 ∧ Met l r.2.2.2.1 (q_wsj r) (q_rm d) (q_P A av ca D sh as V) (q_Q A av ca D sh v V2) 0 0 A := by
  obtain ⟨n, v, V2, h1, h2⟩ := hg
  exact ⟨v, V2, h2, q_met hav (q_sim hav hwf n) h1 hr hfit⟩
end QY
end
section
/-! NUMBERS: an Int32 as the Int that it is -/
abbrev J (z : Int) : Int32 := Int32.ofInt z
theorem J_toInt {a : Int} (h1 : -2147483648 ≤ a) (h2 : a < 2147483648) : (J a).toInt = a := Int32.toInt_ofInt_of_le (by simpa using h1) (by simpa using h2)
theorem J_of (x : Int32) : J x.toInt = x := Int32.ofInt_toInt x
theorem J_add (a b : Int) : J a + J b = J (a + b) := (Int32.ofInt_add ..).symm
theorem J_sub (a b : Int) : J a - J b = J (a - b) := (Int32.ofInt_sub ..).symm
theorem J_mul (a b : Int) : J a * J b = J (a * b) := (Int32.ofInt_mul ..).symm
theorem J_neg (a : Int) : - J a = J (-a) := (Int32.ofInt_neg ..).symm
abbrev inJ (a : Int) : Prop := -2147483648 ≤ a ∧ a < 2147483648
theorem J_lt {a b : Int} (ha : inJ a) (hb : inJ b) : J a < J b ↔ a < b := by
  rw [Int32.lt_iff_toInt_lt, J_toInt ha.1 ha.2, J_toInt hb.1 hb.2]
theorem J_le {a b : Int} (ha : inJ a) (hb : inJ b) : J a ≤ J b ↔ a ≤ b := by
  rw [Int32.le_iff_toInt_le, J_toInt ha.1 ha.2, J_toInt hb.1 hb.2]
theorem J_eq {a b : Int} (ha : inJ a) (hb : inJ b) : J a = J b ↔ a = b := by
  rw [← Int32.toInt_inj, J_toInt ha.1 ha.2, J_toInt hb.1 hb.2]
theorem J_nat (n : Nat) : Int32.ofNat n = J (n : Int) := Int32.ofInt_eq_ofNat.symm
theorem J_div {a b : Int} (ha : inJ a) (hb : inJ b) (h0 : 0 ≤ a) (h1 : 0 < b) : J a / J b = J (a / b) := by
  rw [← Int32.toInt_inj, lg_idiv_nonneg (by rw [J_toInt ha.1 ha.2]; exact h0) (by rw [J_toInt hb.1 hb.2]; exact h1), J_toInt ha.1 ha.2, J_toInt hb.1 hb.2]
  have h2 : 0 ≤ a / b := Int.ediv_nonneg h0 (Int.le_of_lt h1)
  have h3 : a / b ≤ a := Int.ediv_le_self b h0
  obtain ⟨h4, h5⟩ := ha
  rw [J_toInt (by omega) (by omega)]
theorem J_rem {a b : Int} (ha : inJ a) (hb : inJ b) (h0 : 0 ≤ a) (h1 : 0 < b) : J a - J a / J b * J b = J (a % b) := by
  rw [J_div ha hb h0 h1, J_mul, J_sub]
  congr 1
  have := Int.mul_ediv_add_emod a b
  rw [Int.mul_comm] at this
  omega
theorem J_b8 {n : Int} (h1 : -128 ≤ n) (h2 : n < 128) : (Int8.ofInt n).toInt32 = J n := by
  rw [← Int32.toInt_inj, Int8.toInt_toInt32, Int8.toInt_ofInt_of_le (by simpa using h1) (by simpa using h2), J_toInt (by omega) (by omega)]
theorem J_b16 {n : Int} (h1 : -32768 ≤ n) (h2 : n < 32768) : (Int16.ofInt n).toInt32 = J n := by
  rw [← Int32.toInt_inj, Int16.toInt_toInt32, Int16.toInt_ofInt_of_le (by simpa using h1) (by simpa using h2), J_toInt (by omega) (by omega)]
end
section
/-! RULES, over memories of Ints -/
abbrev QS : Type := (Nat → Nat → Int) × (Nat → Nat → Int64) × (Nat → Nat → Option Nat)
def vv (S : QS) : QV := (fun c k => J (S.1 c k), S.2)
def K (sh : QH) (d j pc : Nat) (ls : QL) (st : List Value) (S : QS) (Q : Option Value → QS → Prop) : Prop := G sh d j pc ls st (vv S) (fun r V => ∃ S', V = vv S' ∧ Q r S')
/-- a method, called with these -/
def KC (sh : QH) (d j : Nat) (as : List Value) (S : QS) (Q : Option Value → QS → Prop) : Prop := (as.map fun v => v.category).sum ≤ q_ml j ∧ K sh d j 0 (q_en as (q_ml j)) [] S Q
theorem vv_uI (S : QS) (c k : Nat) (a : Int) : q_uI (vv S) c k (J a) = vv (q_up S.1 c k a, S.2) := by
  unfold q_uI vv
  refine Prod.ext ?_ rfl
  funext c' k'
  show q_up (fun c k => J (S.1 c k)) c k (J a) c' k' = J (q_up S.1 c k a c' k')
  unfold q_up
  split <;> rfl
section KR
variable {sh : QH} {d j pc o : Nat} {ls : QL} {st : List Value} {S : QS} {Q : Option Value → QS → Prop}
theorem K.mono {Q2 : Option Value → QS → Prop} (h : K sh d j pc ls st S Q) (hq : ∀ r S', Q r S' → Q2 r S') : K sh d j pc ls st S Q2 := G.mono h (fun r V ⟨S', h1, h2⟩ => ⟨S', h1, hq r S' h2⟩)
theorem KC.mono {as : List Value} {Q2 : Option Value → QS → Prop} (h : KC sh d j as S Q) (hq : ∀ r S', Q r S' → Q2 r S') : KC sh d j as S Q2 := ⟨h.1, h.2.mono hq⟩
theorem KC.deep {as : List Value} (e : Nat) (h : KC sh d j as S Q) : KC sh (d + e) j as S Q := ⟨h.1, G.deep e h.2⟩
theorem k_start {as : List Value} {n : Nat} (hl : q_ml j = n) (hs : (as.map fun v => v.category).sum ≤ n) (k : K sh d j 0 (q_en as n) [] S Q) : KC sh d j as S Q := by
  subst hl
  exact ⟨hs, k⟩
theorem k_s {i : Instr} {n pc2 : Nat} {ls2 : QL} {st2 : List Value} (hd : q_dec j pc = some (o, i, n)) (hr : q_ret j i n st = none) (hc : q_call sh o i n st = none) (hs : q_s o i n pc ls st = some (pc2, ls2, st2)) (k : K sh d j pc2 ls2 st2 S Q) : K sh d j pc ls st S Q := g_s hd hr hc hs k
theorem k_m {i : Instr} {n pc2 : Nat} {st2 : List Value} {S2 : QS} (hd : q_dec j pc = some (o, i, n)) (hr : q_ret j i n st = none) (hc : q_call sh o i n st = none) (hs : q_s o i n pc ls st = none) (hm : q_m sh o i n pc st (vv S) = some (pc2, st2, vv S2)) (k : K sh d j pc2 ls st2 S2 Q) : K sh d j pc ls st S Q := g_m hd hr hc hs hm k
theorem k_call {i : Instr} {n j2 : Nat} {as r : List Value} {Q2 : Option Value → QS → Prop} (hd : q_dec j pc = some (o, i, n)) (hr : q_ret j i n st = none) (hc : q_call sh o i n st = some (j2, as, r)) (hk : KC sh d j2 as S Q2) (k : ∀ v S2, Q2 v S2 → K sh (d + 1) j (pc + 3) ls (v.toList ++ r) S2 Q) : K sh (d + 1) j pc ls st S Q := by
  refine g_c hd hr hc hk.1 hk.2 (fun v V2 h => ?_)
  obtain ⟨S2, rfl, h2⟩ := h
  exact k v S2 h2
theorem k_iconst {k : Int} (hd : q_dec j pc = some (o, .iconst k, 1)) (kk : K sh d j (pc + 1) ls (.int (J k) :: st) S Q) : K sh d j pc ls st S Q := k_s hd rfl rfl rfl kk
theorem k_bipush {k : Int} (hd : q_dec j pc = some (o, .bipush k, 2)) (h : -128 ≤ k ∧ k < 128) (kk : K sh d j (pc + 2) ls (.int (J k) :: st) S Q) : K sh d j pc ls st S Q := by
  rw [← J_b8 h.1 h.2] at kk
  exact k_s hd rfl rfl rfl kk
theorem k_sipush {k : Int} (hd : q_dec j pc = some (o, .sipush k, 3)) (h : -32768 ≤ k ∧ k < 32768) (kk : K sh d j (pc + 3) ls (.int (J k) :: st) S Q) : K sh d j pc ls st S Q := by
  rw [← J_b16 h.1 h.2] at kk
  exact k_s hd rfl rfl rfl kk
theorem k_lconst {k : Fin 2} (hd : q_dec j pc = some (o, .lconst k, 1)) (kk : K sh d j (pc + 1) ls (.long (Int64.ofNat (k : Nat)) :: st) S Q) : K sh d j pc ls st S Q := k_s hd rfl rfl rfl kk
theorem k_ldc {x : Nat} {v : Int32} {a : Int} (hd : q_dec j pc = some (o, .ldc x, 2)) (hc : q_lk qci o x = some v) (hv : v = J a) (kk : K sh d j (pc + 2) ls (.int (J a) :: st) S Q) : K sh d j pc ls st S Q := by
  subst hv
  exact k_s hd rfl rfl (by simp only [q_s, hc]; rfl) kk
theorem k_ldcw {x : Nat} {v : Int32} {a : Int} (hd : q_dec j pc = some (o, .ldc_w x, 3)) (hc : q_lk qci o x = some v) (hv : v = J a) (kk : K sh d j (pc + 3) ls (.int (J a) :: st) S Q) : K sh d j pc ls st S Q := by
  subst hv
  exact k_s hd rfl rfl (by simp only [q_s, hc]; rfl) kk
theorem k_ldcs {x z : Nat} (hd : q_dec j pc = some (o, .ldc x, 2)) (h0 : q_lk qci o x = none) (hc : q_lk qcs o x = some z) (kk : K sh d j (pc + 2) ls (.ref (1010 + z) :: st) S Q) : K sh d j pc ls st S Q := k_s hd rfl rfl (by simp only [q_s, h0, hc]; rfl) kk
theorem k_ldc2 {x : Nat} {v : Int64} (hd : q_dec j pc = some (o, .ldc2_w x, 3)) (hc : q_lk qcj o x = some v) (kk : K sh d j (pc + 3) ls (.long v :: st) S Q) : K sh d j pc ls st S Q := k_s hd rfl rfl (by simp only [q_s, hc]; rfl) kk
theorem k_iload_n {i : Fin 4} {x : Int32} (hd : q_dec j pc = some (o, .iload_n i, 1)) (hl : q_at ls i = some (.int x)) (kk : K sh d j (pc + 1) ls (.int x :: st) S Q) : K sh d j pc ls st S Q := k_s hd rfl rfl (by simp only [q_s, q_ldI, hl]; rfl) kk
theorem k_iload {i : Nat} {x : Int32} (hd : q_dec j pc = some (o, .iload i, 2)) (hl : q_at ls i = some (.int x)) (kk : K sh d j (pc + 2) ls (.int x :: st) S Q) : K sh d j pc ls st S Q := k_s hd rfl rfl (by simp only [q_s, q_ldI, hl]; rfl) kk
theorem k_lload_n {i : Fin 4} {x : Int64} (hd : q_dec j pc = some (o, .lload_n i, 1)) (hl : q_at ls i = some (.long x)) (kk : K sh d j (pc + 1) ls (.long x :: st) S Q) : K sh d j pc ls st S Q := k_s hd rfl rfl (by simp only [q_s, q_ldL, hl]; rfl) kk
theorem k_lload {i : Nat} {x : Int64} (hd : q_dec j pc = some (o, .lload i, 2)) (hl : q_at ls i = some (.long x)) (kk : K sh d j (pc + 2) ls (.long x :: st) S Q) : K sh d j pc ls st S Q := k_s hd rfl rfl (by simp only [q_s, q_ldL, hl]; rfl) kk
theorem k_aload_n {i : Fin 4} {x : Nat} (hd : q_dec j pc = some (o, .aload_n i, 1)) (hl : q_at ls i = some (.ref x)) (kk : K sh d j (pc + 1) ls (.ref x :: st) S Q) : K sh d j pc ls st S Q := k_s hd rfl rfl (by simp only [q_s, q_ldA, hl]; rfl) kk
theorem k_aload {i : Nat} {x : Nat} (hd : q_dec j pc = some (o, .aload i, 2)) (hl : q_at ls i = some (.ref x)) (kk : K sh d j (pc + 2) ls (.ref x :: st) S Q) : K sh d j pc ls st S Q := k_s hd rfl rfl (by simp only [q_s, q_ldA, hl]; rfl) kk
theorem k_istore_n {i : Fin 4} {x : Int32} (hd : q_dec j pc = some (o, .istore_n i, 1)) (hl : (i : Nat) < ls.length) (kk : K sh d j (pc + 1) (q_st1 ls i (.int x)) st S Q) : K sh d j pc ls (.int x :: st) S Q := k_s hd rfl rfl (by simp only [q_s, q_stI]; rw [if_pos ⟨trivial, hl⟩]) kk
theorem k_istore {i : Nat} {x : Int32} (hd : q_dec j pc = some (o, .istore i, 2)) (hl : i < ls.length) (kk : K sh d j (pc + 2) (q_st1 ls i (.int x)) st S Q) : K sh d j pc ls (.int x :: st) S Q := k_s hd rfl rfl (by simp only [q_s, q_stI]; rw [if_pos ⟨trivial, hl⟩]) kk
theorem k_lstore_n {i : Fin 4} {x : Int64} (hd : q_dec j pc = some (o, .lstore_n i, 1)) (hl : (i : Nat) + 1 < ls.length) (kk : K sh d j (pc + 1) (q_st2 ls i (.long x)) st S Q) : K sh d j pc ls (.long x :: st) S Q := k_s hd rfl rfl (by simp only [q_s, q_stL]; rw [if_pos ⟨trivial, hl⟩]) kk
theorem k_lstore {i : Nat} {x : Int64} (hd : q_dec j pc = some (o, .lstore i, 2)) (hl : i + 1 < ls.length) (kk : K sh d j (pc + 2) (q_st2 ls i (.long x)) st S Q) : K sh d j pc ls (.long x :: st) S Q := k_s hd rfl rfl (by simp only [q_s, q_stL]; rw [if_pos ⟨trivial, hl⟩]) kk
theorem k_astore_n {i : Fin 4} {x : Nat} (hd : q_dec j pc = some (o, .astore_n i, 1)) (hl : (i : Nat) < ls.length) (kk : K sh d j (pc + 1) (q_st1 ls i (.ref x)) st S Q) : K sh d j pc ls (.ref x :: st) S Q := k_s hd rfl rfl (by simp only [q_s, q_stA]; rw [if_pos ⟨trivial, hl⟩]) kk
theorem k_astore {i : Nat} {x : Nat} (hd : q_dec j pc = some (o, .astore i, 2)) (hl : i < ls.length) (kk : K sh d j (pc + 2) (q_st1 ls i (.ref x)) st S Q) : K sh d j pc ls (.ref x :: st) S Q := k_s hd rfl rfl (by simp only [q_s, q_stA]; rw [if_pos ⟨trivial, hl⟩]) kk
theorem k_iinc {i : Nat} {z a : Int} (hd : q_dec j pc = some (o, .iinc i z, 3)) (hl : q_at ls i = some (.int (J a))) (hi : i < ls.length) (kk : K sh d j (pc + 3) (q_st1 ls i (.int (J (a + z)))) st S Q) : K sh d j pc ls st S Q := by
  rw [← J_add] at kk
  exact k_s hd rfl rfl (by simp only [q_s, hl]; rw [if_pos ⟨trivial, hi⟩]) kk
theorem k_iadd {a b : Int} (hd : q_dec j pc = some (o, .iadd, 1)) (kk : K sh d j (pc + 1) ls (.int (J (a + b)) :: st) S Q) : K sh d j pc ls (.int (J b) :: .int (J a) :: st) S Q := by
  rw [← J_add] at kk
  exact k_s hd rfl rfl rfl kk
theorem k_isub {a b : Int} (hd : q_dec j pc = some (o, .isub, 1)) (kk : K sh d j (pc + 1) ls (.int (J (a - b)) :: st) S Q) : K sh d j pc ls (.int (J b) :: .int (J a) :: st) S Q := by
  rw [← J_sub] at kk
  exact k_s hd rfl rfl rfl kk
theorem k_imul {a b : Int} (hd : q_dec j pc = some (o, .imul, 1)) (kk : K sh d j (pc + 1) ls (.int (J (a * b)) :: st) S Q) : K sh d j pc ls (.int (J b) :: .int (J a) :: st) S Q := by
  rw [← J_mul] at kk
  exact k_s hd rfl rfl rfl kk
theorem k_ineg {a : Int} (hd : q_dec j pc = some (o, .ineg, 1)) (kk : K sh d j (pc + 1) ls (.int (J (-a)) :: st) S Q) : K sh d j pc ls (.int (J a) :: st) S Q := by
  rw [← J_neg] at kk
  exact k_s hd rfl rfl rfl kk
theorem J_ne0 {b : Int} (hb : inJ b) (h1 : 0 < b) : ¬ J b = 0 := fun h => by
  have := (J_eq hb (show inJ 0 by decide)).mp h
  omega
theorem k_idiv {a b : Int} (hd : q_dec j pc = some (o, .idiv, 1)) (ha : inJ a) (hb : inJ b) (h0 : 0 ≤ a) (h1 : 0 < b) (kk : K sh d j (pc + 1) ls (.int (J (a / b)) :: st) S Q) : K sh d j pc ls (.int (J b) :: .int (J a) :: st) S Q := by
  rw [← J_div ha hb h0 h1] at kk
  exact k_s hd rfl rfl (by simp only [q_s, q_bz]; rw [if_pos ⟨trivial, J_ne0 hb h1⟩]) kk
theorem k_irem {a b : Int} (hd : q_dec j pc = some (o, .irem, 1)) (ha : inJ a) (hb : inJ b) (h0 : 0 ≤ a) (h1 : 0 < b) (kk : K sh d j (pc + 1) ls (.int (J (a % b)) :: st) S Q) : K sh d j pc ls (.int (J b) :: .int (J a) :: st) S Q := by
  rw [← J_rem ha hb h0 h1] at kk
  exact k_s hd rfl rfl (by simp only [q_s, q_bz]; rw [if_pos ⟨trivial, J_ne0 hb h1⟩]) kk
theorem k_iand {x y : Int32} {c : Int} (hd : q_dec j pc = some (o, .iand, 1)) (h : x &&& y = J c) (kk : K sh d j (pc + 1) ls (.int (J c) :: st) S Q) : K sh d j pc ls (.int y :: .int x :: st) S Q := by
  rw [← h] at kk
  exact k_s hd rfl rfl rfl kk
theorem k_ior {x y : Int32} {c : Int} (hd : q_dec j pc = some (o, .ior, 1)) (h : x ||| y = J c) (kk : K sh d j (pc + 1) ls (.int (J c) :: st) S Q) : K sh d j pc ls (.int y :: .int x :: st) S Q := by
  rw [← h] at kk
  exact k_s hd rfl rfl rfl kk
theorem k_ixor {x y : Int32} {c : Int} (hd : q_dec j pc = some (o, .ixor, 1)) (h : x ^^^ y = J c) (kk : K sh d j (pc + 1) ls (.int (J c) :: st) S Q) : K sh d j pc ls (.int y :: .int x :: st) S Q := by
  rw [← h] at kk
  exact k_s hd rfl rfl rfl kk
theorem k_ishl {x y : Int32} {c : Int} (hd : q_dec j pc = some (o, .ishl, 1)) (h : x <<< (y &&& 31) = J c) (kk : K sh d j (pc + 1) ls (.int (J c) :: st) S Q) : K sh d j pc ls (.int y :: .int x :: st) S Q := by
  rw [← h] at kk
  exact k_s hd rfl rfl rfl kk
theorem k_ishr {x y : Int32} {c : Int} (hd : q_dec j pc = some (o, .ishr, 1)) (h : x >>> (y &&& 31) = J c) (kk : K sh d j (pc + 1) ls (.int (J c) :: st) S Q) : K sh d j pc ls (.int y :: .int x :: st) S Q := by
  rw [← h] at kk
  exact k_s hd rfl rfl rfl kk
theorem k_iushr {x y : Int32} {c : Int} (hd : q_dec j pc = some (o, .iushr, 1)) (h : (x.toUInt32 >>> (y.toUInt32 &&& Int32.toUInt32 31)).toInt32 = J c) (kk : K sh d j (pc + 1) ls (.int (J c) :: st) S Q) : K sh d j pc ls (.int y :: .int x :: st) S Q := by
  rw [← h] at kk
  exact k_s hd rfl rfl rfl kk
theorem k_i2b {x : Int32} {c : Int} (hd : q_dec j pc = some (o, .i2b, 1)) (h : x.toInt8.toInt32 = J c) (kk : K sh d j (pc + 1) ls (.int (J c) :: st) S Q) : K sh d j pc ls (.int x :: st) S Q := by
  rw [← h] at kk
  exact k_s hd rfl rfl rfl kk
theorem k_i2c {x : Int32} {c : Int} (hd : q_dec j pc = some (o, .i2c, 1)) (h : (x.toUInt32 % 65536).toInt32 = J c) (kk : K sh d j (pc + 1) ls (.int (J c) :: st) S Q) : K sh d j pc ls (.int x :: st) S Q := by
  rw [← h] at kk
  exact k_s hd rfl rfl rfl kk
theorem k_ladd {x y : Int64} (hd : q_dec j pc = some (o, .ladd, 1)) (kk : K sh d j (pc + 1) ls (.long (x + y) :: st) S Q) : K sh d j pc ls (.long y :: .long x :: st) S Q := k_s hd rfl rfl rfl kk
theorem k_lsub {x y : Int64} (hd : q_dec j pc = some (o, .lsub, 1)) (kk : K sh d j (pc + 1) ls (.long (x - y) :: st) S Q) : K sh d j pc ls (.long y :: .long x :: st) S Q := k_s hd rfl rfl rfl kk
theorem k_lmul {x y : Int64} (hd : q_dec j pc = some (o, .lmul, 1)) (kk : K sh d j (pc + 1) ls (.long (x * y) :: st) S Q) : K sh d j pc ls (.long y :: .long x :: st) S Q := k_s hd rfl rfl rfl kk
theorem k_land {x y : Int64} (hd : q_dec j pc = some (o, .land, 1)) (kk : K sh d j (pc + 1) ls (.long (x &&& y) :: st) S Q) : K sh d j pc ls (.long y :: .long x :: st) S Q := k_s hd rfl rfl rfl kk
theorem k_lshr {x : Int64} {y : Int32} (hd : q_dec j pc = some (o, .lshr, 1)) (kk : K sh d j (pc + 1) ls (.long (x >>> (y.toInt64 &&& 63)) :: st) S Q) : K sh d j pc ls (.int y :: .long x :: st) S Q := k_s hd rfl rfl rfl kk
theorem k_i2l {x : Int32} (hd : q_dec j pc = some (o, .i2l, 1)) (kk : K sh d j (pc + 1) ls (.long x.toInt64 :: st) S Q) : K sh d j pc ls (.int x :: st) S Q := k_s hd rfl rfl rfl kk
theorem k_l2i {x : Int64} {c : Int} (hd : q_dec j pc = some (o, .l2i, 1)) (h : x.toInt32 = J c) (kk : K sh d j (pc + 1) ls (.int (J c) :: st) S Q) : K sh d j pc ls (.long x :: st) S Q := by
  rw [← h] at kk
  exact k_s hd rfl rfl rfl kk
theorem k_lcmp {x y : Int64} (hd : q_dec j pc = some (o, .lcmp, 1)) (kk : K sh d j (pc + 1) ls (.int (lg_cmp x y) :: st) S Q) : K sh d j pc ls (.long y :: .long x :: st) S Q := k_s hd rfl rfl rfl kk
theorem k_dupI {x : Int32} (hd : q_dec j pc = some (o, .dup, 1)) (kk : K sh d j (pc + 1) ls (.int x :: .int x :: st) S Q) : K sh d j pc ls (.int x :: st) S Q := k_s hd rfl rfl rfl kk
theorem k_dupA {x : Nat} (hd : q_dec j pc = some (o, .dup, 1)) (kk : K sh d j (pc + 1) ls (.ref x :: .ref x :: st) S Q) : K sh d j pc ls (.ref x :: st) S Q := k_s hd rfl rfl rfl kk
theorem k_dup2 {x : Nat} {y : Int32} (hd : q_dec j pc = some (o, .dup2, 1)) (kk : K sh d j (pc + 1) ls (.int y :: .ref x :: .int y :: .ref x :: st) S Q) : K sh d j pc ls (.int y :: .ref x :: st) S Q := k_s hd rfl rfl rfl kk
theorem k_pop {x : Int32} (hd : q_dec j pc = some (o, .pop, 1)) (kk : K sh d j (pc + 1) ls st S Q) : K sh d j pc ls (.int x :: st) S Q := k_s hd rfl rfl rfl kk
theorem k_goto {off : Int} {t : Nat} (hd : q_dec j pc = some (o, .goto off, 3)) (ht : (pc : Int) + off = (t : Int)) (kk : K sh d j t ls st S Q) : K sh d j pc ls st S Q := by
  have e : q_to pc off = t := by unfold q_to; omega
  subst e
  exact k_s hd rfl rfl (by simp only [q_s]; rw [if_pos ⟨trivial, by omega⟩]) kk
/-- a branch, whatever is asked -/
theorem k_ifx {c : Jvm.ClassFile.Cond} {x : Int32} {off : Int} {t : Nat} (hd : q_dec j pc = some (o, .ifCond c off, 3)) (ht : (pc : Int) + off = (t : Int)) (k1 : q_cd c x 0 = true → K sh d j t ls st S Q) (k2 : q_cd c x 0 = false → K sh d j (pc + 3) ls st S Q) : K sh d j pc ls (.int x :: st) S Q := by
  have e : q_to pc off = t := by unfold q_to; omega
  subst e
  cases hc : q_cd c x 0 with
  | true => exact k_s hd rfl rfl (by simp only [q_s]; rw [if_pos ⟨trivial, by omega⟩, hc]; rfl) (k1 hc)
  | false => exact k_s hd rfl rfl (by simp only [q_s]; rw [if_pos ⟨trivial, by omega⟩, hc]; rfl) (k2 hc)
theorem k_icx {c : Jvm.ClassFile.Cond} {x y : Int32} {off : Int} {t : Nat} (hd : q_dec j pc = some (o, .if_icmp c off, 3)) (ht : (pc : Int) + off = (t : Int)) (k1 : q_cd c x y = true → K sh d j t ls st S Q) (k2 : q_cd c x y = false → K sh d j (pc + 3) ls st S Q) : K sh d j pc ls (.int y :: .int x :: st) S Q := by
  have e : q_to pc off = t := by unfold q_to; omega
  subst e
  cases hc : q_cd c x y with
  | true => exact k_s hd rfl rfl (by simp only [q_s]; rw [if_pos ⟨trivial, by omega⟩, hc]; rfl) (k1 hc)
  | false => exact k_s hd rfl rfl (by simp only [q_s]; rw [if_pos ⟨trivial, by omega⟩, hc]; rfl) (k2 hc)
theorem inJ_0 : inJ 0 := by decide
theorem k_if_eq {a : Int} {off : Int} {t : Nat} (hd : q_dec j pc = some (o, .ifCond .eq off, 3)) (ht : (pc : Int) + off = (t : Int)) (ha : inJ a) (k1 : a = 0 → K sh d j t ls st S Q) (k2 : ¬ (a = 0) → K sh d j (pc + 3) ls st S Q) : K sh d j pc ls (.int (J a) :: st) S Q := by
  have e0 : (0 : Int32) = J 0 := rfl
  exact k_ifx hd ht (fun h => k1 (by rw [e0] at h; simpa [q_cd, J_eq ha inJ_0] using h)) (fun h => k2 (by rw [e0] at h; simpa [q_cd, J_eq ha inJ_0] using h))
theorem k_ic_eq {a b : Int} {off : Int} {t : Nat} (hd : q_dec j pc = some (o, .if_icmp .eq off, 3)) (ht : (pc : Int) + off = (t : Int)) (ha : inJ a) (hb : inJ b) (k1 : a = b → K sh d j t ls st S Q) (k2 : ¬ (a = b) → K sh d j (pc + 3) ls st S Q) : K sh d j pc ls (.int (J b) :: .int (J a) :: st) S Q := by
  exact k_icx hd ht (fun h => k1 (by simpa [q_cd, J_eq ha hb] using h)) (fun h => k2 (by simpa [q_cd, J_eq ha hb] using h))
theorem k_if_ne {a : Int} {off : Int} {t : Nat} (hd : q_dec j pc = some (o, .ifCond .ne off, 3)) (ht : (pc : Int) + off = (t : Int)) (ha : inJ a) (k1 : ¬ a = 0 → K sh d j t ls st S Q) (k2 : ¬ (¬ a = 0) → K sh d j (pc + 3) ls st S Q) : K sh d j pc ls (.int (J a) :: st) S Q := by
  have e0 : (0 : Int32) = J 0 := rfl
  exact k_ifx hd ht (fun h => k1 (by rw [e0] at h; simpa [q_cd, J_eq ha inJ_0] using h)) (fun h => k2 (by rw [e0] at h; simpa [q_cd, J_eq ha inJ_0] using h))
theorem k_ic_ne {a b : Int} {off : Int} {t : Nat} (hd : q_dec j pc = some (o, .if_icmp .ne off, 3)) (ht : (pc : Int) + off = (t : Int)) (ha : inJ a) (hb : inJ b) (k1 : ¬ a = b → K sh d j t ls st S Q) (k2 : ¬ (¬ a = b) → K sh d j (pc + 3) ls st S Q) : K sh d j pc ls (.int (J b) :: .int (J a) :: st) S Q := by
  exact k_icx hd ht (fun h => k1 (by simpa [q_cd, J_eq ha hb] using h)) (fun h => k2 (by simpa [q_cd, J_eq ha hb] using h))
theorem k_if_lt {a : Int} {off : Int} {t : Nat} (hd : q_dec j pc = some (o, .ifCond .lt off, 3)) (ht : (pc : Int) + off = (t : Int)) (ha : inJ a) (k1 : a < 0 → K sh d j t ls st S Q) (k2 : ¬ (a < 0) → K sh d j (pc + 3) ls st S Q) : K sh d j pc ls (.int (J a) :: st) S Q := by
  have e0 : (0 : Int32) = J 0 := rfl
  exact k_ifx hd ht (fun h => k1 (by rw [e0] at h; simpa [q_cd, J_lt ha inJ_0] using h)) (fun h => k2 (by rw [e0] at h; simpa [q_cd, J_lt ha inJ_0] using h))
theorem k_ic_lt {a b : Int} {off : Int} {t : Nat} (hd : q_dec j pc = some (o, .if_icmp .lt off, 3)) (ht : (pc : Int) + off = (t : Int)) (ha : inJ a) (hb : inJ b) (k1 : a < b → K sh d j t ls st S Q) (k2 : ¬ (a < b) → K sh d j (pc + 3) ls st S Q) : K sh d j pc ls (.int (J b) :: .int (J a) :: st) S Q := by
  exact k_icx hd ht (fun h => k1 (by simpa [q_cd, J_lt ha hb] using h)) (fun h => k2 (by simpa [q_cd, J_lt ha hb] using h))
theorem k_if_ge {a : Int} {off : Int} {t : Nat} (hd : q_dec j pc = some (o, .ifCond .ge off, 3)) (ht : (pc : Int) + off = (t : Int)) (ha : inJ a) (k1 : 0 ≤ a → K sh d j t ls st S Q) (k2 : ¬ (0 ≤ a) → K sh d j (pc + 3) ls st S Q) : K sh d j pc ls (.int (J a) :: st) S Q := by
  have e0 : (0 : Int32) = J 0 := rfl
  exact k_ifx hd ht (fun h => k1 (by rw [e0] at h; simpa [q_cd, J_le inJ_0 ha] using h)) (fun h => k2 (by rw [e0] at h; simpa [q_cd, J_le inJ_0 ha] using h))
theorem k_ic_ge {a b : Int} {off : Int} {t : Nat} (hd : q_dec j pc = some (o, .if_icmp .ge off, 3)) (ht : (pc : Int) + off = (t : Int)) (ha : inJ a) (hb : inJ b) (k1 : b ≤ a → K sh d j t ls st S Q) (k2 : ¬ (b ≤ a) → K sh d j (pc + 3) ls st S Q) : K sh d j pc ls (.int (J b) :: .int (J a) :: st) S Q := by
  exact k_icx hd ht (fun h => k1 (by simpa [q_cd, J_le hb ha] using h)) (fun h => k2 (by simpa [q_cd, J_le hb ha] using h))
theorem k_if_gt {a : Int} {off : Int} {t : Nat} (hd : q_dec j pc = some (o, .ifCond .gt off, 3)) (ht : (pc : Int) + off = (t : Int)) (ha : inJ a) (k1 : 0 < a → K sh d j t ls st S Q) (k2 : ¬ (0 < a) → K sh d j (pc + 3) ls st S Q) : K sh d j pc ls (.int (J a) :: st) S Q := by
  have e0 : (0 : Int32) = J 0 := rfl
  exact k_ifx hd ht (fun h => k1 (by rw [e0] at h; simpa [q_cd, J_lt inJ_0 ha] using h)) (fun h => k2 (by rw [e0] at h; simpa [q_cd, J_lt inJ_0 ha] using h))
theorem k_ic_gt {a b : Int} {off : Int} {t : Nat} (hd : q_dec j pc = some (o, .if_icmp .gt off, 3)) (ht : (pc : Int) + off = (t : Int)) (ha : inJ a) (hb : inJ b) (k1 : b < a → K sh d j t ls st S Q) (k2 : ¬ (b < a) → K sh d j (pc + 3) ls st S Q) : K sh d j pc ls (.int (J b) :: .int (J a) :: st) S Q := by
  exact k_icx hd ht (fun h => k1 (by simpa [q_cd, J_lt hb ha] using h)) (fun h => k2 (by simpa [q_cd, J_lt hb ha] using h))
theorem k_if_le {a : Int} {off : Int} {t : Nat} (hd : q_dec j pc = some (o, .ifCond .le off, 3)) (ht : (pc : Int) + off = (t : Int)) (ha : inJ a) (k1 : a ≤ 0 → K sh d j t ls st S Q) (k2 : ¬ (a ≤ 0) → K sh d j (pc + 3) ls st S Q) : K sh d j pc ls (.int (J a) :: st) S Q := by
  have e0 : (0 : Int32) = J 0 := rfl
  exact k_ifx hd ht (fun h => k1 (by rw [e0] at h; simpa [q_cd, J_le ha inJ_0] using h)) (fun h => k2 (by rw [e0] at h; simpa [q_cd, J_le ha inJ_0] using h))
theorem k_ic_le {a b : Int} {off : Int} {t : Nat} (hd : q_dec j pc = some (o, .if_icmp .le off, 3)) (ht : (pc : Int) + off = (t : Int)) (ha : inJ a) (hb : inJ b) (k1 : a ≤ b → K sh d j t ls st S Q) (k2 : ¬ (a ≤ b) → K sh d j (pc + 3) ls st S Q) : K sh d j pc ls (.int (J b) :: .int (J a) :: st) S Q := by
  exact k_icx hd ht (fun h => k1 (by simpa [q_cd, J_le ha hb] using h)) (fun h => k2 (by simpa [q_cd, J_le ha hb] using h))
theorem k_tsO {df lo hi : Int} {offs : Array Int} {n t : Nat} {a : Int} (hd : q_dec j pc = some (o, .tableswitch df lo hi offs, n)) (ha : inJ a) (ho : a < lo ∨ hi < a) (ht : (pc : Int) + df = (t : Int)) (kk : K sh d j t ls st S Q) : K sh d j pc ls (.int (J a) :: st) S Q := by
  have e : q_to pc df = t := by unfold q_to; omega
  subst e
  refine k_s hd rfl rfl ?_ kk
  simp only [q_s, J_toInt ha.1 ha.2]
  rw [if_pos ho, if_pos (by omega)]
theorem k_tsI {df lo hi : Int} {offs : Array Int} {n t : Nat} {a off : Int} (hd : q_dec j pc = some (o, .tableswitch df lo hi offs, n)) (ha : inJ a) (ho : ¬ (a < lo ∨ hi < a)) (hof : offs[(a - lo).toNat]? = some off) (ht : (pc : Int) + off = (t : Int)) (kk : K sh d j t ls st S Q) : K sh d j pc ls (.int (J a) :: st) S Q := by
  have e : q_to pc off = t := by unfold q_to; omega
  subst e
  refine k_s hd rfl rfl ?_ kk
  simp only [q_s, J_toInt ha.1 ha.2]
  rw [if_neg ho, hof]
  dsimp only
  rw [if_pos (by omega)]
theorem k_gfI {x c ci f ne n : Nat} (hd : q_dec j pc = some (o, .getfield x, 3)) (hf : q_lk qft o x = some (ci, f, ne)) (hs : sh[c]? = some (ci, n)) (h13 : ci ≠ 13) (hk : q_kf ci f = true) (ht : q_tyf ci f = .int ∨ q_tyf ci f = .boolean) (kk : K sh d j (pc + 3) ls (.int (J (S.1 c f)) :: st) S Q) : K sh d j pc ls (.ref c :: st) S Q := by
  refine k_m hd rfl rfl rfl ?_ kk
  simp only [q_m, hf, hs]
  rw [if_pos ⟨trivial, trivial, hk⟩]
  rcases ht with ht | ht <;> rw [ht] <;> rfl
theorem k_gfL {x c ci f ne n : Nat} (hd : q_dec j pc = some (o, .getfield x, 3)) (hf : q_lk qft o x = some (ci, f, ne)) (hs : sh[c]? = some (ci, n)) (h13 : ci ≠ 13) (hk : q_kf ci f = true) (ht : q_tyf ci f = .long) (kk : K sh d j (pc + 3) ls (.long (S.2.1 c f) :: st) S Q) : K sh d j pc ls (.ref c :: st) S Q := by
  refine k_m hd rfl rfl rfl ?_ kk
  simp only [q_m, hf, hs]
  rw [if_pos ⟨trivial, trivial, hk⟩, ht]
  rfl
theorem k_gfR {x c ci f ne n a : Nat} (hd : q_dec j pc = some (o, .getfield x, 3)) (hf : q_lk qft o x = some (ci, f, ne)) (hs : sh[c]? = some (ci, n)) (h13 : ci ≠ 13) (hk : q_kf ci f = true) (ht : (∃ u, q_tyf ci f = .object u) ∨ ∃ u, q_tyf ci f = .array u) (hr : S.2.2 c f = some a) (kk : K sh d j (pc + 3) ls (.ref a :: st) S Q) : K sh d j pc ls (.ref c :: st) S Q := by
  refine k_m hd rfl rfl rfl ?_ kk
  simp only [q_m, hf, hs]
  rw [if_pos ⟨trivial, trivial, hk⟩]
  rcases ht with ⟨u, ht⟩ | ⟨u, ht⟩ <;> rw [ht] <;> simp only [q_rd, vv, hr, q_rf]
theorem k_pfI {x c ci f ne n : Nat} {a : Int} (hd : q_dec j pc = some (o, .putfield x, 3)) (hf : q_lk qft o x = some (ci, f, ne)) (hs : sh[c]? = some (ci, n)) (hk : q_nf ci f = true) (ht : q_tyf ci f = .int) (kk : K sh d j (pc + 3) ls st (q_up S.1 c f a, S.2) Q) : K sh d j pc ls (.int (J a) :: .ref c :: st) S Q := by
  refine k_m hd rfl rfl rfl ?_ kk
  simp only [q_m, hf, hs]
  rw [if_pos ⟨trivial, trivial, hk⟩, ht]
  simp only [q_wr, vv_uI]
theorem k_pfZ {x c ci f ne n : Nat} {a : Int} (hd : q_dec j pc = some (o, .putfield x, 3)) (hf : q_lk qft o x = some (ci, f, ne)) (hs : sh[c]? = some (ci, n)) (hk : q_nf ci f = true) (ht : q_tyf ci f = .boolean) (ha : a = 0 ∨ a = 1) (kk : K sh d j (pc + 3) ls st (q_up S.1 c f a, S.2) Q) : K sh d j pc ls (.int (J a) :: .ref c :: st) S Q := by
  refine k_m hd rfl rfl rfl ?_ kk
  simp only [q_m, hf, hs]
  rw [if_pos ⟨trivial, trivial, hk⟩, ht]
  have h01 : J a = 0 ∨ J a = 1 := by rcases ha with rfl | rfl; exact Or.inl rfl; exact Or.inr rfl
  simp only [q_wr]
  rw [if_pos h01]
  simp only [vv_uI]
theorem k_pfL {x c ci f ne n : Nat} {a : Int64} (hd : q_dec j pc = some (o, .putfield x, 3)) (hf : q_lk qft o x = some (ci, f, ne)) (hs : sh[c]? = some (ci, n)) (hk : q_nf ci f = true) (ht : q_tyf ci f = .long) (kk : K sh d j (pc + 3) ls st (S.1, q_up S.2.1 c f a, S.2.2) Q) : K sh d j pc ls (.long a :: .ref c :: st) S Q := by
  refine k_m hd rfl rfl rfl ?_ kk
  simp only [q_m, hf, hs]
  rw [if_pos ⟨trivial, trivial, hk⟩, ht]
  rfl
theorem k_pfR {x c ci f ne n a : Nat} {u : String} (hd : q_dec j pc = some (o, .putfield x, 3)) (hf : q_lk qft o x = some (ci, f, ne)) (hs : sh[c]? = some (ci, n)) (hk : q_nf ci f = true) (ht : q_tyf ci f = .object u) (ha : a < 1000) (kk : K sh d j (pc + 3) ls st (S.1, S.2.1, q_up S.2.2 c f (some a)) Q) : K sh d j pc ls (.ref a :: .ref c :: st) S Q := by
  refine k_m hd rfl rfl rfl ?_ kk
  simp only [q_m, hf, hs]
  rw [if_pos ⟨trivial, trivial, hk⟩, ht]
  simp only [q_wr]
  rw [if_pos ha]
  rfl
theorem k_gs {x : Nat} {v : Value} (hd : q_dec j pc = some (o, .getstatic x, 3)) (hf : q_lk qst o x = some v) (kk : K sh d j (pc + 3) ls (v :: st) S Q) : K sh d j pc ls st S Q := by
  refine k_m hd rfl rfl rfl ?_ kk
  simp only [q_m, hf]
  rfl
theorem J_ix {i : Int} {n : Nat} (h0 : 0 ≤ i) (h1 : i < n) (hn : (n : Int) < 2147483648) : (0 ≤ (J i).toInt ∧ (J i).toInt < n) ∧ q_ix (J i) = i.toNat := by
  unfold q_ix
  rw [J_toInt (by omega) (by omega)]
  exact ⟨⟨h0, h1⟩, rfl⟩
theorem k_iald {c n : Nat} {i : Int} (hd : q_dec j pc = some (o, .iaload, 1)) (hs : sh[c]? = some (100, n)) (hn : (n : Int) < 2147483648) (h0 : 0 ≤ i) (h1 : i < n) (kk : K sh d j (pc + 1) ls (.int (J (S.1 c i.toNat)) :: st) S Q) : K sh d j pc ls (.int (J i) :: .ref c :: st) S Q := by
  refine k_m hd rfl rfl rfl ?_ kk
  obtain ⟨e1, e2⟩ := J_ix h0 h1 hn
  simp only [q_m, hs]
  rw [if_pos ⟨trivial, e1⟩, e2]
  rfl
theorem k_bald {c n : Nat} {i : Int} (hd : q_dec j pc = some (o, .baload, 1)) (hs : sh[c]? = some (101, n)) (hn : (n : Int) < 2147483648) (h0 : 0 ≤ i) (h1 : i < n) (kk : K sh d j (pc + 1) ls (.int (J (S.1 c i.toNat)) :: st) S Q) : K sh d j pc ls (.int (J i) :: .ref c :: st) S Q := by
  refine k_m hd rfl rfl rfl ?_ kk
  obtain ⟨e1, e2⟩ := J_ix h0 h1 hn
  simp only [q_m, hs]
  rw [if_pos ⟨trivial, e1⟩, e2]
  rfl
theorem k_zald {c n : Nat} {i : Int} (hd : q_dec j pc = some (o, .baload, 1)) (hs : sh[c]? = some (102, n)) (hn : (n : Int) < 2147483648) (h0 : 0 ≤ i) (h1 : i < n) (kk : K sh d j (pc + 1) ls (.int (J (S.1 c i.toNat)) :: st) S Q) : K sh d j pc ls (.int (J i) :: .ref c :: st) S Q := by
  refine k_m hd rfl rfl rfl ?_ kk
  obtain ⟨e1, e2⟩ := J_ix h0 h1 hn
  simp only [q_m, hs]
  rw [if_pos ⟨trivial, e1⟩, e2]
  rfl
theorem k_ialdR {c : Nat} {l : List Int32} {i v : Int} (hd : q_dec j pc = some (o, .iaload, 1)) (hs : sh[c]? = none) (hr : q_roI c = some l) (hl : l.length = 4) (h0 : 0 ≤ i) (h1 : i < 4) (hv : l.getD i.toNat 0 = J v) (kk : K sh d j (pc + 1) ls (.int (J v) :: st) S Q) : K sh d j pc ls (.int (J i) :: .ref c :: st) S Q := by
  refine k_m hd rfl rfl rfl ?_ kk
  obtain ⟨e1, e2⟩ := J_ix (n := 4) h0 (by omega) (by decide)
  simp only [q_m, hs, hr, hl]
  rw [if_pos ⟨trivial, e1⟩, e2, hv]
theorem k_aald {c n k a : Nat} {i : Int} (hd : q_dec j pc = some (o, .aaload, 1)) (hs : sh[c]? = some (k, n)) (hk : k = 103 ∨ k = 104) (hn : (n : Int) < 2147483648) (h0 : 0 ≤ i) (h1 : i < n) (hr : S.2.2 c i.toNat = some a) (ha : a < 1000) (kk : K sh d j (pc + 1) ls (.ref a :: st) S Q) : K sh d j pc ls (.int (J i) :: .ref c :: st) S Q := by
  refine k_m hd rfl rfl rfl ?_ kk
  obtain ⟨e1, e2⟩ := J_ix h0 h1 hn
  rcases hk with rfl | rfl
  · simp only [q_m, hs, e2, vv, hr]
    rw [if_pos ⟨trivial, e1, ha⟩]
  · simp only [q_m, hs, e2, vv, hr]
    rw [if_pos ⟨trivial, e1, ha⟩]
theorem k_iast {c n : Nat} {i a : Int} (hd : q_dec j pc = some (o, .iastore, 1)) (hs : sh[c]? = some (100, n)) (hn : (n : Int) < 2147483648) (h0 : 0 ≤ i) (h1 : i < n) (kk : K sh d j (pc + 1) ls st (q_up S.1 c i.toNat a, S.2) Q) : K sh d j pc ls (.int (J a) :: .int (J i) :: .ref c :: st) S Q := by
  refine k_m hd rfl rfl rfl ?_ kk
  obtain ⟨e1, e2⟩ := J_ix h0 h1 hn
  simp only [q_m, hs]
  rw [if_pos ⟨trivial, e1⟩, e2, vv_uI]
theorem k_bast {c n : Nat} {i a b : Int} (hd : q_dec j pc = some (o, .bastore, 1)) (hs : sh[c]? = some (101, n)) (hn : (n : Int) < 2147483648) (h0 : 0 ≤ i) (h1 : i < n) (hb : (J a).toInt8.toInt32 = J b) (kk : K sh d j (pc + 1) ls st (q_up S.1 c i.toNat b, S.2) Q) : K sh d j pc ls (.int (J a) :: .int (J i) :: .ref c :: st) S Q := by
  refine k_m hd rfl rfl rfl ?_ kk
  obtain ⟨e1, e2⟩ := J_ix h0 h1 hn
  simp only [q_m, hs]
  rw [if_pos ⟨trivial, e1⟩, e2, hb, vv_uI]
theorem k_zast {c n : Nat} {i a : Int} (hd : q_dec j pc = some (o, .bastore, 1)) (hs : sh[c]? = some (102, n)) (hn : (n : Int) < 2147483648) (h0 : 0 ≤ i) (h1 : i < n) (ha : a = 0 ∨ a = 1) (kk : K sh d j (pc + 1) ls st (q_up S.1 c i.toNat a, S.2) Q) : K sh d j pc ls (.int (J a) :: .int (J i) :: .ref c :: st) S Q := by
  refine k_m hd rfl rfl rfl ?_ kk
  obtain ⟨e1, e2⟩ := J_ix h0 h1 hn
  have h01 : J a = 0 ∨ J a = 1 := by rcases ha with rfl | rfl; exact Or.inl rfl; exact Or.inr rfl
  simp only [q_m, hs]
  rw [if_pos ⟨trivial, e1, h01⟩, e2, vv_uI]
theorem k_alen {c n : Nat} (hd : q_dec j pc = some (o, .arraylength, 1)) (hs : sh[c]? = some (100, n)) (kk : K sh d j (pc + 1) ls (.int (J (n : Int)) :: st) S Q) : K sh d j pc ls (.ref c :: st) S Q := by
  refine k_m hd rfl rfl rfl ?_ kk
  simp only [q_m, hs, J_nat]
  rfl
theorem k_vret (hd : q_dec j pc = some (o, .return_, 1)) (hr : q_rt j = some none) (hq : Q none S) : K sh d j pc ls [] S Q := g_r (v := none) hd (by simp only [q_ret, hr]; rfl) ⟨S, rfl, hq⟩
theorem k_nret {x : Int32} {ty : FieldType} (hd : q_dec j pc = some (o, .ireturn, 1)) (hr : q_rt j = some (some ty)) (hn : narrow ty (.int x) = .int x) (hq : Q (some (.int x)) S) : K sh d j pc ls [.int x] S Q := g_r (v := some (.int x)) hd (by simp only [q_ret, hr, hn]; rfl) ⟨S, rfl, hq⟩
theorem k_iret {x : Int32} (hd : q_dec j pc = some (o, .ireturn, 1)) (hr : q_rt j = some (some .int)) (hq : Q (some (.int x)) S) : K sh d j pc ls [.int x] S Q := k_nret hd hr rfl hq
theorem k_lret {x : Int64} (hd : q_dec j pc = some (o, .lreturn, 1)) (hr : q_rt j = some (some .long)) (hq : Q (some (.long x)) S) : K sh d j pc ls [.long x] S Q := g_r (v := some (.long x)) hd (by simp only [q_ret, hr]; rfl) ⟨S, rfl, hq⟩
/-- true and false -/
def bi (b : Bool) : Int := if b then 1 else 0
theorem bi_01 (b : Bool) : bi b = 0 ∨ bi b = 1 := by cases b; exact Or.inl rfl; exact Or.inr rfl
theorem bi_nar (b : Bool) : narrow .boolean (.int (J (bi b))) = .int (J (bi b)) := by cases b <;> rfl
theorem k_zret {b : Bool} (hd : q_dec j pc = some (o, .ireturn, 1)) (hr : q_rt j = some (some .boolean)) (hq : Q (some (.int (J (bi b)))) S) : K sh d j pc ls [.int (J (bi b))] S Q := k_nret hd hr (bi_nar b) hq
theorem k_if_eqB {b : Bool} {off : Int} {t : Nat} (hd : q_dec j pc = some (o, .ifCond .eq off, 3)) (ht : (pc : Int) + off = (t : Int)) (k1 : b = false → K sh d j t ls st S Q) (k2 : b = true → K sh d j (pc + 3) ls st S Q) : K sh d j pc ls (.int (J (bi b)) :: st) S Q := by
  cases b
  · exact k_if_eq (a := 0) hd ht inJ_0 (fun _ => k1 rfl) (fun h => absurd rfl h)
  · exact k_if_eq (a := 1) hd ht (by decide) (fun h => absurd h (by decide)) (fun _ => k2 rfl)
theorem k_if_neB {b : Bool} {off : Int} {t : Nat} (hd : q_dec j pc = some (o, .ifCond .ne off, 3)) (ht : (pc : Int) + off = (t : Int)) (k1 : b = true → K sh d j t ls st S Q) (k2 : b = false → K sh d j (pc + 3) ls st S Q) : K sh d j pc ls (.int (J (bi b)) :: st) S Q := by
  cases b
  · exact k_if_ne (a := 0) hd ht inJ_0 (fun h => absurd rfl h) (fun _ => k2 rfl)
  · exact k_if_ne (a := 1) hd ht (by decide) (fun _ => k1 rfl) (fun h => absurd (by decide) h)
end KR
end
