/-! WHAT STANDS THERE BEFORE THE LAW BEGINS -/
def avS (r d : Nat) (z : Value) (aK aV : Nat → Nat) : Nat → Value := fun c => if c = 1000 then .ref r else if c = 1001 then .ref d else if c = 1030 then z else if 1020 ≤ c then .ref (aV (c - 1020)) else .ref (aK (c - 1010))
theorem q_nest_on : ∀ w ∈ qnest, w.onTables = true ∧ w ∈ lw_tbl := by decide +kernel
theorem q_nestC_on : ∀ w ∈ qnestC, w.onTables = true ∧ w ∈ lw_tbl := by decide +kernel
theorem q_cast_on : ∀ w ∈ qcast, w.onTables = true ∧ w ∈ lw_tbl := by decide +kernel
theorem q_firstY {args : Array Value} {s : State} (hts : ∀ w ∈ lw_tbl, w.before args s = true) : q_Fy s := ⟨fun w hw => va_Nw.of (q_nestC_on w hw).1 (hts w (q_nestC_on w hw).2), va_AO.of (hts _ (by decide +kernel)), va_AO.of (hts _ (by decide +kernel)), fun w hw => va_Nw.of (q_cast_on w hw).1 (hts w (q_cast_on w hw).2)⟩
def tmS (i : Nat) : Term := .string "StraightTax$Text" (qsix.getD i 0)
def giv : List Cond := flatC (Jvm.Cond.and given_1 narrow_1)
theorem gv_ex : ∀ i, i < 6 → Cond.exactly (tmS i) "java/lang/String" ∈ giv := by decide +kernel
theorem gv_co : ∀ i, i < 6 → Cond.eq (.field (tmS i) "java/lang/String" "coder" "B") (.int 0) ∈ giv := by decide +kernel
theorem gv_ar : ∀ i, i < 6 → Cond.arrayOf (.field (tmS i) "java/lang/String" "value" "[B") .byte ∈ giv := by decide +kernel
theorem gv_le : ∀ i, i < 6 → Cond.eq (.length (.field (tmS i) "java/lang/String" "value" "[B")) (.int (Int32.ofNat (qsln.getD i 0))) ∈ giv := by decide +kernel
theorem gv_el : ∀ i, i < 6 → ∀ j, j < qsln.getD i 0 → Cond.eq (.elem (.field (tmS i) "java/lang/String" "value" "[B") (.int (Int32.ofNat j))) (.int ((qsby.getD i []).getD j 0)) ∈ giv := by decide +kernel
theorem gv_ne : ∀ i, i < 6 → ∀ j, j < 6 → i ≠ j → Cond.not (Cond.eq (tmS i) (tmS j)) ∈ giv ∨ Cond.not (Cond.eq (tmS j) (tmS i)) ∈ giv := by decide +kernel
theorem gv_sr : ∀ i, i < 6 → Cond.stringRef "StraightTax$Text" (qsix.getD i 0) (qstx.getD i "") ∈ lw_tbl := by decide +kernel
theorem gv_R : ∀ j, j < 4 → Cond.eq (.elem (.static "StraightTax$Town" "RIGHT" "[I") (.int (Int32.ofNat j))) (.int (([0, 1, 0, -1] : List Int32).getD j 0)) ∈ giv := by decide +kernel
theorem gv_D : ∀ j, j < 4 → Cond.eq (.elem (.static "StraightTax$Town" "DOWN" "[I") (.int (Int32.ofNat j))) (.int (([-1, 0, 1, 0] : List Int32).getD j 0)) ∈ giv := by decide +kernel
theorem gv_1 : Cond.arrayOf (.static "StraightTax$Town" "RIGHT" "[I") .int ∈ giv := by decide +kernel
theorem gv_2 : Cond.arrayOf (.static "StraightTax$Town" "DOWN" "[I") .int ∈ giv := by decide +kernel
theorem gv_3 : Cond.eq (.length (.static "StraightTax$Town" "RIGHT" "[I")) (.int (Int32.ofNat 4)) ∈ giv := by decide +kernel
theorem gv_4 : Cond.eq (.length (.static "StraightTax$Town" "DOWN" "[I")) (.int (Int32.ofNat 4)) ∈ giv := by decide +kernel
theorem gv_5 : Cond.eq (.static "java/lang/String" "COMPACT_STRINGS" "Z") (.int 1) ∈ giv := by decide +kernel
theorem gv_6 : Cond.isRef (.static "jdk/internal/util/Preconditions" "SIOOBE_FORMATTER" "Ljava/util/function/BiFunction;") ∈ giv := by decide +kernel
theorem q_first {args : Array Value} {s : State} (hts : ∀ w ∈ lw_tbl, w.before args s = true) (hgv : (Jvm.Cond.and given_1 narrow_1).before args s = true) : ∃ av, q_AV av ∧ q_Fx (fun q : Nat => s.heap.size ≤ q) av s := by
  have hs : ∀ w ∈ giv, w.before args s = true := flat_of_before _ hgv
  have hA : ∀ a : Nat, a < s.heap.size → ¬ (fun q : Nat => s.heap.size ≤ q) a := fun a h => Nat.not_le.mpr h
  obtain ⟨r, er, hr⟩ := va_Tof (tm := .static "StraightTax$Town" "RIGHT" "[I") (ty := .int) (N := 4) (f := fun j => .int (([0, 1, 0, -1] : List Int32).getD j 0)) (by decide) (hs _ gv_1) (va_eqt (hs _ gv_3)) (fun j hj => va_eqt (hs _ (gv_R j hj))) hA
  obtain ⟨d, ed, hd⟩ := va_Tof (tm := .static "StraightTax$Town" "DOWN" "[I") (ty := .int) (N := 4) (f := fun j => .int (([-1, 0, 1, 0] : List Int32).getD j 0)) (by decide) (hs _ gv_2) (va_eqt (hs _ gv_4)) (fun j hj => va_eqt (hs _ (gv_D j hj))) hA
  obtain ⟨aK, aV, hS, eS⟩ := vk_Sof (N := 6) (tm := tmS) (len := qsln) (byt := qsby) (by decide) (fun i hi => hs _ (gv_ex i hi)) (fun i hi => hs _ (gv_co i hi)) (fun i hi => hs _ (gv_ar i hi)) (fun i hi => hs _ (gv_le i hi)) (fun i hi j hj => hs _ (gv_el i hi j hj)) (fun i j hi hj hn => (gv_ne i hi j hj hn).imp (fun h => hs _ h) (fun h => hs _ h)) hA
  have hz : ∃ z : Value, ((∃ a, z = .ref a) ∨ z = .null) ∧ va_Z "jdk/internal/util/Preconditions" "SIOOBE_FORMATTER" "Ljava/util/function/BiFunction;" z (fun q : Nat => s.heap.size ≤ q) s s.heap := by
    rcases va_Zqof (hts (.laysStatic "jdk/internal/util/Preconditions" "SIOOBE_FORMATTER" "Ljava/util/function/BiFunction;") (by decide +kernel)) (hts (.initialized "jdk/internal/util/Preconditions") (by decide +kernel)) (hs _ gv_6) hA with h | ⟨t, h⟩
    · exact ⟨.null, Or.inr rfl, h⟩
    · exact ⟨.ref t, Or.inl ⟨t, rfl⟩, h⟩
  obtain ⟨z, hz1, hz2⟩ := hz
  have eK : ∀ i, i < 6 → avS r d z aK aV (1010 + i) = .ref (aK i) := by
    intro i hi
    unfold avS
    rw [if_neg (by omega), if_neg (by omega), if_neg (by omega), if_neg (by omega), Nat.add_sub_cancel_left]
  have eV : ∀ i, i < 6 → avS r d z aK aV (1020 + i) = .ref (aV i) := by
    intro i hi
    unfold avS
    rw [if_neg (by omega), if_neg (by omega), if_neg (by omega), if_pos (by omega), Nat.add_sub_cancel_left]
  have aK2 : ∀ i, i < 6 → q_ad (avS r d z aK aV) (1010 + i) = aK i := fun i hi => by unfold q_ad; rw [eK i hi]
  have aV2 : ∀ i, i < 6 → q_ad (avS r d z aK aV) (1020 + i) = aV i := fun i hi => by unfold q_ad; rw [eV i hi]
  refine ⟨avS r d z aK aV, ⟨fun c hc => ?_, hz1⟩, fun w hw => va_Nw.of (q_nest_on w hw).1 (hts w (q_nest_on w hw).2), va_Zof (hts (.laysStatic "StraightTax$Town" "RIGHT" "[I") (by decide +kernel)) (hts (.initialized "StraightTax$Town") (by decide +kernel)) er hA, va_Zof (hts (.laysStatic "StraightTax$Town" "DOWN" "[I") (by decide +kernel)) (hts (.initialized "StraightTax$Town") (by decide +kernel)) ed hA, va_Zof (hts (.laysStatic "java/lang/String" "COMPACT_STRINGS" "Z") (by decide +kernel)) (hts (.initialized "java/lang/String") (by decide +kernel)) (va_eqi (hs _ gv_5)) hA, hz2, hr, hd, ⟨fun i hi => ?_, fun i j hi hj h => ?_⟩, fun i hi => ?_⟩
  · unfold avS
    by_cases h1 : c = 1000
    · exact ⟨r, if_pos h1⟩
    · by_cases h2 : c = 1001
      · exact ⟨d, by rw [if_neg h1, if_pos h2]⟩
      · by_cases h3 : 1020 ≤ c
        · exact ⟨_, by rw [if_neg h1, if_neg h2, if_neg hc, if_pos h3]⟩
        · exact ⟨_, by rw [if_neg h1, if_neg h2, if_neg hc, if_neg h3]⟩
  · dsimp only
    rw [aK2 i hi, aV2 i hi]
    exact hS.1 i hi
  · dsimp only at h
    rw [aK2 i hi, aK2 j hj] at h
    exact hS.2 i j hi hj h
  · rw [aK2 i hi]
    exact vk_R.of (hts _ (gv_sr i hi)) (eS i hi)
