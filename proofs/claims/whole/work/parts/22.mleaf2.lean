/-! THE REFERENCE: steps and states -/
theorem nx_eq {T : Tn} (hw : tWF T) {x y : Int} (hx : 0 ≤ x ∧ x < tW T) (hy : 0 ≤ y ∧ y < tH T) : tSq T x y = y * tW T + x ∧ tOpen T (tSq T x y) = decide (tG T (y * tW T + x).toNat ≠ 1) ∧ 0 ≤ y * tW T + x ∧ y * tW T + x < tN T := by
  have e : tSq T x y = y * tW T + x := by unfold tSq; rw [if_pos ⟨hx.1, hx.2, hy.1, hy.2⟩]
  have hr := tSq_range hw x y
  rw [e] at hr
  have h0 : 0 ≤ y * tW T := Int.mul_nonneg hy.1 (by omega)
  have hN := tN_le hw
  refine ⟨e, ?_, by omega, by omega⟩
  rw [e]
  unfold tOpen tHas tOn
  rw [decide_eq_true (show 0 ≤ y * tW T + x ∧ y * tW T + x < tN T by omega), if_pos (by omega)]
  rfl
/-- the reference's states: a square, and 16 (a new run) or 4 times the direction and the run less 1 -/
def mRun (s q : Int) : Int := if s % 17 < 16 ∧ s % 17 / 4 = q then s % 17 % 4 + 2 else 1
def mOn (T : Tn) (el : Nat) (s q : Int) : Int := if nx T (s / 17) q < 0 then -1 else 17 * nx T (s / 17) q + (if el.testBit (nx T (s / 17) q).toNat then 16 else 4 * q + (mRun s q - 1))
section MS
variable {S : QS} {d : Nat} {T : Tn}
-- method 117: StraightTaxModel.to.(II)I
theorem m_to (hT : MT S T) (hw : tWF T) (c q : Int) (hc : 0 ≤ c ∧ c < tN T) (hq : inJ q) : KP shM (d + 1) 117 [.ref 0, .int (J c), .int (J q)] S (.int (J (nx T c q))) := by
  obtain ⟨a0, a1, a2, a3, a4, a5, a6, a7, a8⟩ := id hT
  obtain ⟨⟨w1, w2⟩, ⟨w3, w4⟩, -⟩ := id hw
  have hN := tN_le hw
  have hm := tMask_lt T 1
  have hmod : 0 ≤ c % tW T ∧ c % tW T < tW T := ⟨Int.emod_nonneg _ (by omega), Int.emod_lt_of_pos _ (by omega)⟩
  have hdiv : 0 ≤ c / tW T := Int.ediv_nonneg hc.1 (by omega)
  have hdiv2 : c / tW T ≤ c := Int.ediv_le_self _ hc.1
  have k130 : ∀ x y : Int, x = c % tW T + dxx q → y = c / tW T + dyy q → ¬ (tOpen T (tSq T x y) = true) → K shM (d + 1) 117 110 [some (.ref 0), some (.int (J c)), some (.int (J q)), some (.int (J x)), some (.int (J y)), none] [] S (fun r1 S2 => r1 = some (.int (J (nx T c q))) ∧ S2 = S) := by
    intro x y hx hy ho
    refine k_iconst i_117_110 ?_
    refine k_istore i_117_111 (Nat.le_of_ble_eq_true rfl) ?_
    dsimp only [q_st1, q_st2, q_unl]
    refine k_iload i_117_113 rfl ?_
    refine k_if_eq (t := 130) i_117_115 rfl (by omega) (fun h => ?_) (fun h => ?_)
    · refine k_iconst i_117_130 ?_
      refine k_iret i_117_131 qt_117 ?_
      exact ⟨by unfold nx; rw [← hx, ← hy, if_neg ho], rfl⟩
    · omega
  have k54 : ∀ x y : Int, x = c % tW T + dxx q → y = c / tW T + dyy q → (-1 ≤ x ∧ x ≤ 6) → (-1 ≤ y ∧ y ≤ 30) → K shM (d + 1) 117 54 [some (.ref 0), some (.int (J c)), some (.int (J q)), some (.int (J x)), some (.int (J y)), none] [] S (fun r1 S2 => r1 = some (.int (J (nx T c q))) ∧ S2 = S) := by
    intro x y hx hy bx by'
    refine k_iload_n i_117_54 rfl ?_
    refine k_i2lJ i_117_55 (by omega) ?_
    refine k_lconstJ (a := 0) i_117_56 rfl ?_
    refine k_aload_n i_117_57 rfl ?_
    refine k_gfI i_117_58 f_12_7 (by first | rfl | assumption | (rw [hR]; rfl) | (dsimp only; rw [hR]; rfl)) (by decide) (by decide) (Or.inl rfl) ?_
    rw [a0]
    refine k_iconst i_117_61 ?_
    refine k_isub i_117_62 ?_
    refine k_i2lJ i_117_63 (by omega) ?_
    refine k_sp3 i_117_64 c_12_72 (by decide) qp_100 (Nat.le_of_ble_eq_true rfl) (m_in _ _ _ (by omega) (by omega) (by omega)) ?_
    refine k_if_eqB (t := 110) i_117_67 rfl (fun h => ?_) (fun h => ?_)
    · refine k130 x y hx hy (fun z => ?_)
      have h1 : ¬ (0 ≤ x ∧ x ≤ tW T - 1) := by simpa using h
      unfold tSq at z
      rw [if_neg (by omega)] at z
      simp [tOpen, tHas] at z
    · have h1 : 0 ≤ x ∧ x ≤ tW T - 1 := by simpa using h
      refine k_iload i_117_70 rfl ?_
      refine k_i2lJ i_117_72 (by omega) ?_
      refine k_lconstJ (a := 0) i_117_73 rfl ?_
      refine k_aload_n i_117_74 rfl ?_
      refine k_gfI i_117_75 f_12_13 (by first | rfl | assumption | (rw [hR]; rfl) | (dsimp only; rw [hR]; rfl)) (by decide) (by decide) (Or.inl rfl) ?_
      rw [a1]
      refine k_iconst i_117_78 ?_
      refine k_isub i_117_79 ?_
      refine k_i2lJ i_117_80 (by omega) ?_
      refine k_sp3 i_117_81 c_12_72 (by decide) qp_100 (Nat.le_of_ble_eq_true rfl) (m_in _ _ _ (by omega) (by omega) (by omega)) ?_
      refine k_if_eqB (t := 110) i_117_84 rfl (fun h => ?_) (fun h => ?_)
      · refine k130 x y hx hy (fun z => ?_)
        have h2 : ¬ (0 ≤ y ∧ y ≤ tH T - 1) := by simpa using h
        unfold tSq at z
        rw [if_neg (by omega)] at z
        simp [tOpen, tHas] at z
      · have h2 : 0 ≤ y ∧ y ≤ tH T - 1 := by simpa using h
        obtain ⟨n1, n2, n3, n4⟩ := nx_eq hw (x := x) (y := y) (by omega) (by omega)
        have e2 : tW T * y + x = y * tW T + x := by rw [Int.mul_comm]
        refine k_aload_n i_117_87 rfl ?_
        refine k_gfI i_117_88 f_12_80 (by first | rfl | assumption | (rw [hR]; rfl) | (dsimp only; rw [hR]; rfl)) (by decide) (by decide) (Or.inl rfl) ?_
        rw [a2]
        refine k_aload_n i_117_91 rfl ?_
        refine k_gfI i_117_92 f_12_7 (by first | rfl | assumption | (rw [hR]; rfl) | (dsimp only; rw [hR]; rfl)) (by decide) (by decide) (Or.inl rfl) ?_
        rw [a0]
        refine k_iload i_117_95 rfl ?_
        refine k_imul i_117_97 ?_
        refine k_iload_n i_117_98 rfl ?_
        refine k_iadd i_117_99 ?_
        rw [e2]
        refine k_sp2 i_117_100 c_12_83 (by decide) qp_109 (Nat.le_of_ble_eq_true rfl) (m_has (by omega) _ (by omega) (by omega)) ?_
        rw [tMask_bit]
        refine k_if_neB (t := 110) i_117_103 rfl (fun h => ?_) (fun h => ?_)
        · refine k130 x y hx hy (fun z => ?_)
          have h3 : tG T (y * tW T + x).toNat = 1 := by simp at h; exact h.2
          rw [n2] at z
          simp [h3] at z
        · have h3 : ¬ tG T (y * tW T + x).toNat = 1 := fun z => by rw [decide_eq_true ⟨by omega, z⟩] at h; cases h
          have h4 : nx T c q = y * tW T + x := by
            unfold nx
            rw [← hx, ← hy, n2, decide_eq_true h3, if_pos rfl, n1]
          refine k_iconst i_117_106 ?_
          refine k_goto (t := 111) i_117_107 rfl ?_
          refine k_istore i_117_111 (Nat.le_of_ble_eq_true rfl) ?_
          dsimp only [q_st1, q_st2, q_unl]
          refine k_iload i_117_113 rfl ?_
          refine k_if_eq (t := 130) i_117_115 rfl (by omega) (fun h => ?_) (fun h => ?_)
          · omega
          · refine k_aload_n i_117_118 rfl ?_
            refine k_gfI i_117_119 f_12_7 (by first | rfl | assumption | (rw [hR]; rfl) | (dsimp only; rw [hR]; rfl)) (by decide) (by decide) (Or.inl rfl) ?_
            rw [a0]
            refine k_iload i_117_122 rfl ?_
            refine k_imul i_117_124 ?_
            refine k_iload_n i_117_125 rfl ?_
            refine k_iadd i_117_126 ?_
            refine k_goto (t := 131) i_117_127 rfl ?_
            refine k_iret i_117_131 qt_117 ?_
            exact ⟨by rw [h4, e2], rfl⟩
  have k25 : ∀ dx : Int, dx = dxx q → K shM (d + 1) 117 25 [some (.ref 0), some (.int (J c)), some (.int (J q)), none, none, none] [.int (J dx), .int (J (c % tW T))] S (fun r1 S2 => r1 = some (.int (J (nx T c q))) ∧ S2 = S) := by
    intro dx hdx
    have bdx : -1 ≤ dx ∧ dx ≤ 1 := by rw [hdx]; unfold dxx; (repeat' split) <;> omega
    refine k_iadd i_117_25 ?_
    refine k_istore_n i_117_26 (Nat.le_of_ble_eq_true rfl) ?_
    dsimp only [q_st1, q_st2, q_unl]
    refine k_iload_n i_117_27 rfl ?_
    refine k_aload_n i_117_28 rfl ?_
    refine k_gfI i_117_29 f_12_7 (by first | rfl | assumption | (rw [hR]; rfl) | (dsimp only; rw [hR]; rfl)) (by decide) (by decide) (Or.inl rfl) ?_
    rw [a0]
    refine k_idiv i_117_32 (by omega) (by omega) (by omega) (by omega) ?_
    refine k_iload_n i_117_33 rfl ?_
    refine k_iconst i_117_34 ?_
    refine k_ic_ne (t := 42) i_117_35 rfl (by omega) (by omega) (fun h35 => ?_) (fun h35 => ?_)
    · refine k_iload_n i_117_42 rfl ?_
      refine k_if_ne (t := 50) i_117_43 rfl (by omega) (fun h43 => ?_) (fun h43 => ?_)
      · refine k_iconst i_117_50 ?_
        refine k_iadd i_117_51 ?_
        refine k_istore i_117_52 (Nat.le_of_ble_eq_true rfl) ?_
        dsimp only [q_st1, q_st2, q_unl]
        exact k54 _ _ (by rw [hdx]) (by unfold dyy; (repeat' split) <;> omega) (by omega) (by omega)
      · refine k_iconst i_117_46 ?_
        refine k_goto (t := 51) i_117_47 rfl ?_
        refine k_iadd i_117_51 ?_
        refine k_istore i_117_52 (Nat.le_of_ble_eq_true rfl) ?_
        dsimp only [q_st1, q_st2, q_unl]
        exact k54 _ _ (by rw [hdx]) (by unfold dyy; (repeat' split) <;> omega) (by omega) (by omega)
    · refine k_iconst i_117_38 ?_
      refine k_goto (t := 51) i_117_39 rfl ?_
      refine k_iadd i_117_51 ?_
      refine k_istore i_117_52 (Nat.le_of_ble_eq_true rfl) ?_
      dsimp only [q_st1, q_st2, q_unl]
      exact k54 _ _ (by rw [hdx]) (by unfold dyy; (repeat' split) <;> omega) (by omega) (by omega)
  refine k_start ql_117 (Nat.le_of_ble_eq_true rfl) ?_
  simp only [q_en, List.replicate]
  refine k_iload_n i_117_0 rfl ?_
  refine k_aload_n i_117_1 rfl ?_
  refine k_gfI i_117_2 f_12_7 (by first | rfl | assumption | (rw [hR]; rfl) | (dsimp only; rw [hR]; rfl)) (by decide) (by decide) (Or.inl rfl) ?_
  rw [a0]
  refine k_irem i_117_5 (by omega) (by omega) (by omega) (by omega) ?_
  refine k_iload_n i_117_6 rfl ?_
  refine k_iconst i_117_7 ?_
  refine k_ic_ne (t := 15) i_117_8 rfl (by omega) (by omega) (fun h8 => ?_) (fun h8 => ?_)
  · refine k_iload_n i_117_15 rfl ?_
    refine k_iconst i_117_16 ?_
    refine k_ic_ne (t := 24) i_117_17 rfl (by omega) (by omega) (fun h17 => ?_) (fun h17 => ?_)
    · refine k_iconst i_117_24 ?_
      exact k25 _ (by unfold dxx; (repeat' split) <;> omega)
    · refine k_iconst i_117_20 ?_
      refine k_goto (t := 25) i_117_21 rfl ?_
      exact k25 _ (by unfold dxx; (repeat' split) <;> omega)
  · refine k_iconst i_117_11 ?_
    refine k_goto (t := 25) i_117_12 rfl ?_
    exact k25 _ (by unfold dxx; (repeat' split) <;> omega)
-- method 128: StraightTaxModel.runBehind.(II)I
theorem m_runBehind (s q : Int) (hs : 0 ≤ s ∧ s < 340) (hq : inJ q) : KP shM d 128 [.ref 0, .int (J s), .int (J q)] S (.int (J (mRun s q))) := by
  refine k_start ql_128 (Nat.le_of_ble_eq_true rfl) ?_
  simp only [q_en, List.replicate]
  refine k_iload_n i_128_0 rfl ?_
  refine k_bipush i_128_1 (by decide) ?_
  refine k_irem i_128_3 (by omega) (by omega) (by omega) (by omega) ?_
  refine k_istore_n i_128_4 (Nat.le_of_ble_eq_true rfl) ?_
  dsimp only [q_st1, q_st2, q_unl]
  refine k_iload_n i_128_5 rfl ?_
  refine k_bipush i_128_6 (by decide) ?_
  refine k_ic_ge (t := 26) i_128_8 rfl (by omega) (by omega) (fun h8 => ?_) (fun h8 => ?_)
  · refine k_iconst i_128_26 ?_
    refine k_iret i_128_27 qt_128 ?_
    exact ⟨by unfold mRun; first | rw [if_neg (by omega)] | rw [if_pos (by omega)], rfl⟩
  · refine k_iload_n i_128_11 rfl ?_
    refine k_iconst i_128_12 ?_
    refine k_idiv i_128_13 (by omega) (by omega) (by omega) (by omega) ?_
    refine k_iload_n i_128_14 rfl ?_
    refine k_ic_ne (t := 26) i_128_15 rfl (by omega) (by omega) (fun h15 => ?_) (fun h15 => ?_)
    · refine k_iconst i_128_26 ?_
      refine k_iret i_128_27 qt_128 ?_
      exact ⟨by unfold mRun; first | rw [if_neg (by omega)] | rw [if_pos (by omega)], rfl⟩
    · refine k_iload_n i_128_18 rfl ?_
      refine k_iconst i_128_19 ?_
      refine k_irem i_128_20 (by omega) (by omega) (by omega) (by omega) ?_
      refine k_iconst i_128_21 ?_
      refine k_iadd i_128_22 ?_
      refine k_goto (t := 27) i_128_23 rfl ?_
      refine k_iret i_128_27 qt_128 ?_
      exact ⟨by unfold mRun; first | rw [if_neg (by omega)] | rw [if_pos (by omega)], rfl⟩
theorem mOn_range {T : Tn} (hw : tWF T) {el : Nat} {s q : Int} (hs : 0 ≤ s ∧ s < 17 * tN T) (hq : 0 ≤ q ∧ q < 4) (hr : mRun s q ≤ 4) : -1 ≤ mOn T el s q ∧ mOn T el s q < 17 * tN T ∧ (0 ≤ mOn T el s q → mOn T el s q / 17 = nx T (s / 17) q ∧ 0 ≤ nx T (s / 17) q) := by
  have h1 := nx_range hw (s / 17) q
  have h2 : 1 ≤ mRun s q := by unfold mRun; split <;> omega
  unfold mOn
  split
  · omega
  · split <;> omega
-- method 129: StraightTaxModel.onward.(III)I
theorem m_onward (hT : MT S T) (hw : tWF T) {el : Nat} (hel : el < 2 ^ 31) (s q : Int) (hs : 0 ≤ s ∧ s < 17 * tN T) (hq : 0 ≤ q ∧ q < 4) : KP shM (d + 2) 129 [.ref 0, .int (J s), .int (J q), .int (J (el : Int))] S (.int (J (mOn T el s q))) := by
  have hN := tN_le hw
  have hr := nx_range hw (s / 17) q
  have k53 : ∀ (u : Int), ¬ nx T (s / 17) q < 0 → u = mRun s q - 1 → K shM (d + 2) 129 53 [some (.ref 0), some (.int (J s)), some (.int (J q)), some (.int (J (el : Int))), some (.int (J (s / 17))), some (.int (J (s % 17))), some (.int (J (nx T (s / 17) q))), none] [.int (J u)] S (fun r1 S2 => r1 = some (.int (J (mOn T el s q))) ∧ S2 = S) := by
    intro u hn hu
    refine k_istore i_129_53 (Nat.le_of_ble_eq_true rfl) ?_
    dsimp only [q_st1, q_st2, q_unl]
    refine k_bipush i_129_55 (by decide) ?_
    refine k_iload i_129_57 rfl ?_
    refine k_imul i_129_59 ?_
    refine k_iload_n i_129_60 rfl ?_
    refine k_iload i_129_61 rfl ?_
    refine k_sp2 i_129_63 c_12_83 (by decide) qp_109 (Nat.le_of_ble_eq_true rfl) (m_has hel _ (by omega) (by omega)) ?_
    refine k_if_eqB (t := 74) i_129_66 rfl (fun h => ?_) (fun h => ?_)
    · refine k_iconst i_129_74 ?_
      refine k_iload_n i_129_75 rfl ?_
      refine k_imul i_129_76 ?_
      refine k_iload i_129_77 rfl ?_
      refine k_iadd i_129_79 ?_
      refine k_iadd i_129_80 ?_
      refine k_iret i_129_81 qt_129 ?_
      exact ⟨by unfold mOn; rw [if_neg hn, h, hu]; rfl, rfl⟩
    · refine k_bipush i_129_69 (by decide) ?_
      refine k_goto (t := 80) i_129_71 rfl ?_
      refine k_iadd i_129_80 ?_
      refine k_iret i_129_81 qt_129 ?_
      exact ⟨by unfold mOn; rw [if_neg hn, h]; rfl, rfl⟩
  refine k_start ql_129 (Nat.le_of_ble_eq_true rfl) ?_
  simp only [q_en, List.replicate]
  refine k_iload_n i_129_0 rfl ?_
  refine k_bipush i_129_1 (by decide) ?_
  refine k_idiv i_129_3 (by omega) (by omega) (by omega) (by omega) ?_
  refine k_istore i_129_4 (Nat.le_of_ble_eq_true rfl) ?_
  dsimp only [q_st1, q_st2, q_unl]
  refine k_iload_n i_129_6 rfl ?_
  refine k_bipush i_129_7 (by decide) ?_
  refine k_irem i_129_9 (by omega) (by omega) (by omega) (by omega) ?_
  refine k_istore i_129_10 (Nat.le_of_ble_eq_true rfl) ?_
  dsimp only [q_st1, q_st2, q_unl]
  refine k_aload_n i_129_12 rfl ?_
  refine k_iload i_129_13 rfl ?_
  refine k_iload_n i_129_15 rfl ?_
  refine k_vp2 i_129_16 c_12_187 qp_117 qo_117 (by first | rfl | assumption | (rw [hR]; rfl) | (dsimp only; rw [hR]; rfl)) (Nat.le_of_ble_eq_true rfl) (m_to hT hw _ _ (by omega) (by omega)) ?_
  refine k_istore i_129_19 (Nat.le_of_ble_eq_true rfl) ?_
  dsimp only [q_st1, q_st2, q_unl]
  refine k_iload i_129_21 rfl ?_
  refine k_if_ge (t := 28) i_129_23 rfl (by omega) (fun h => ?_) (fun h => ?_)
  · refine k_iload i_129_28 rfl ?_
    refine k_bipush i_129_30 (by decide) ?_
    refine k_ic_ge (t := 52) i_129_32 rfl (by omega) (by omega) (fun h32 => ?_) (fun h32 => ?_)
    · refine k_iconst i_129_52 ?_
      exact k53 _ (by omega) (by unfold mRun; first | rw [if_neg (by omega)] ; rfl | (rw [if_pos (by omega)]; omega))
    · refine k_iload i_129_35 rfl ?_
      refine k_iconst i_129_37 ?_
      refine k_idiv i_129_38 (by omega) (by omega) (by omega) (by omega) ?_
      refine k_iload_n i_129_39 rfl ?_
      refine k_ic_ne (t := 52) i_129_40 rfl (by omega) (by omega) (fun h40 => ?_) (fun h40 => ?_)
      · refine k_iconst i_129_52 ?_
        exact k53 _ (by omega) (by unfold mRun; first | rw [if_neg (by omega)] ; rfl | (rw [if_pos (by omega)]; omega))
      · refine k_iload i_129_43 rfl ?_
        refine k_iconst i_129_45 ?_
        refine k_irem i_129_46 (by omega) (by omega) (by omega) (by omega) ?_
        refine k_iconst i_129_47 ?_
        refine k_iadd i_129_48 ?_
        refine k_goto (t := 53) i_129_49 rfl ?_
        exact k53 _ (by omega) (by unfold mRun; first | rw [if_neg (by omega)] ; rfl | (rw [if_pos (by omega)]; omega))
  · refine k_iconst i_129_26 ?_
    refine k_iret i_129_27 qt_129 ?_
    exact ⟨by unfold mOn; rw [if_pos (by omega)], rfl⟩
-- method 119: StraightTaxModel.behind.(II)I
theorem m_behind (hT : MT S T) (hw : tWF T) (c q : Int) (hq : inJ q) : KP shM d 119 [.ref 0, .int (J c), .int (J q)] S (.int (J (c - (if q = 1 then 1 else if q = 3 then -1 else if q = 2 then tW T else -tW T)))) := by
  obtain ⟨a0, a1, a2, a3, a4, a5, a6, a7, a8⟩ := id hT
  refine k_start ql_119 (Nat.le_of_ble_eq_true rfl) ?_
  simp only [q_en, List.replicate]
  refine k_iload_n i_119_0 rfl ?_
  refine k_iload_n i_119_1 rfl ?_
  refine k_iconst i_119_2 ?_
  refine k_ic_ne (t := 10) i_119_3 rfl (by omega) (by omega) (fun h3 => ?_) (fun h3 => ?_)
  · refine k_iload_n i_119_10 rfl ?_
    refine k_iconst i_119_11 ?_
    refine k_ic_ne (t := 19) i_119_12 rfl (by omega) (by omega) (fun h12 => ?_) (fun h12 => ?_)
    · refine k_iload_n i_119_19 rfl ?_
      refine k_iconst i_119_20 ?_
      refine k_ic_ne (t := 31) i_119_21 rfl (by omega) (by omega) (fun h21 => ?_) (fun h21 => ?_)
      · refine k_aload_n i_119_31 rfl ?_
        refine k_gfI i_119_32 f_12_7 (by first | rfl | assumption | (rw [hR]; rfl) | (dsimp only; rw [hR]; rfl)) (by decide) (by decide) (Or.inl rfl) ?_
        refine k_ineg i_119_35 ?_
        refine k_isub i_119_36 ?_
        refine k_iret i_119_37 qt_119 ?_
        exact ⟨by rw [← a0]; congr 4; (repeat' split) <;> first | rfl | omega, rfl⟩
      · refine k_aload_n i_119_24 rfl ?_
        refine k_gfI i_119_25 f_12_7 (by first | rfl | assumption | (rw [hR]; rfl) | (dsimp only; rw [hR]; rfl)) (by decide) (by decide) (Or.inl rfl) ?_
        refine k_goto (t := 36) i_119_28 rfl ?_
        refine k_isub i_119_36 ?_
        refine k_iret i_119_37 qt_119 ?_
        exact ⟨by rw [← a0]; congr 4; (repeat' split) <;> first | rfl | omega, rfl⟩
    · refine k_iconst i_119_15 ?_
      refine k_goto (t := 36) i_119_16 rfl ?_
      refine k_isub i_119_36 ?_
      refine k_iret i_119_37 qt_119 ?_
      exact ⟨by rw [← a0]; congr 4; (repeat' split) <;> first | rfl | omega, rfl⟩
  · refine k_iconst i_119_6 ?_
    refine k_goto (t := 36) i_119_7 rfl ?_
    refine k_isub i_119_36 ?_
    refine k_iret i_119_37 qt_119 ?_
    exact ⟨by rw [← a0]; congr 4; (repeat' split) <;> first | rfl | omega, rfl⟩
end MS
