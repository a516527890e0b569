/-! THE TOWN, 2: steps, prices -/
def dxx (d : Int) : Int := if d = 1 then 1 else if d = 3 then -1 else 0
def dyy (d : Int) : Int := if d = 2 then 1 else if d = 0 then -1 else 0
/-- the square at a place, or none -/
def tSq (T : Tn) (x y : Int) : Int := if 0 ≤ x ∧ x < tW T ∧ 0 ≤ y ∧ y < tH T then y * tW T + x else -1
/-- where a step leads from a square; -1: nowhere -/
def nx (T : Tn) (c d : Int) : Int := if tOpen T (tSq T (c % tW T + dxx d) (c / tW T + dyy d)) = true then tSq T (c % tW T + dxx d) (c / tW T + dyy d) else -1
/-- the table of steps as it is held -/
def TNx (S : QS) (t : Nat) (T : Tn) : Prop := ∀ c d : Nat, c < 20 → d < 4 → S.1 (t + 2) (c * 4 + d) = if (c : Int) < tN T then nx T c d else -1
def tAh (T : Tn) (c d : Int) : Int := if (0 ≤ c ∧ c < 20) ∧ (0 ≤ d ∧ d < 4) then (if c < tN T then nx T c d else -1) else -1
def isDir (d : Int) : Bool := decide (0 ≤ d ∧ d < 4)
theorem tSq_range {T : Tn} (hw : tWF T) (x y : Int) : -1 ≤ tSq T x y ∧ tSq T x y < tN T := by
  unfold tSq
  have hN := tN_le hw
  split
  · rename_i h
    obtain ⟨h1, h2, h3, h4⟩ := h
    obtain ⟨⟨w1, w2⟩, ⟨w3, w4⟩, -⟩ := hw
    have h5 := Int.mul_le_mul_of_nonneg_right (a := y) (b := tH T - 1) (c := tW T) (by omega) (by omega)
    have h6 : 0 ≤ y * tW T := Int.mul_nonneg h3 (by omega)
    have h7 : (tH T - 1) * tW T = tN T - tW T := by unfold tN; rw [Int.sub_mul, Int.mul_comm]; omega
    omega
  · omega
theorem nx_range {T : Tn} (hw : tWF T) (c d : Int) : -1 ≤ nx T c d ∧ nx T c d < tN T := by
  unfold nx
  have := tSq_range hw (c % tW T + dxx d) (c / tW T + dyy d)
  have := tN_le hw
  split <;> omega
theorem tAh_range {T : Tn} (hw : tWF T) (c d : Int) : -1 ≤ tAh T c d ∧ tAh T c d < tN T := by
  unfold tAh
  have := nx_range hw c d
  have := tN_le hw
  split
  · split <;> omega
  · omega
theorem tPart_range {T : Tn} (hw : tWF T) {o : Int} (h1 : 0 ≤ o) (h2 : o ≤ 100) : 0 ≤ tPart T o ∧ tPart T o ≤ 90000 := by
  obtain ⟨-, -, -, ⟨r1, r2⟩, -⟩ := hw
  have h3 : 0 ≤ tR T * o := Int.mul_nonneg (by omega) h1
  have h4 : tR T * o ≤ 9 * 100 := Int.mul_le_mul r2 h2 h1 (by decide)
  have h5 : 0 ≤ tR T * o * o := Int.mul_nonneg h3 h1
  have h6 : tR T * o * o ≤ 900 * 100 := Int.mul_le_mul (by omega) h2 h1 (by decide)
  unfold tPart
  split
  · omega
  · split <;> omega
theorem tPrice_range {T : Tn} (hw : tWF T) {nt r : Int} (h : r ≤ 100) : 0 ≤ tPrice T nt r ∧ tPrice T nt r ≤ 180009 := by
  have hf := hw.2.2.1
  have ha := hw.2.2.2.2.2.2.1
  unfold tPrice
  split
  · omega
  · rename_i h1
    have := tPart_range hw (o := r - tF T) (by omega) (by omega)
    split <;> omega
section TW2
variable {sh : QH} {S : QS} {t d : Nat} {T : Tn}
-- method 74: StraightTax.isDirection.(I)Z
theorem e_isDir (c : Int) (hc : inJ c) : KP sh d 74 [.int (J c)] S (.int (J (bi (isDir c)))) := by
  refine k_start ql_74 (Nat.le_of_ble_eq_true rfl) ?_
  simp only [q_en, List.replicate]
  refine k_iload_n i_74_0 rfl ?_
  refine k_if_lt (t := 13) i_74_1 rfl (by omega) (fun h1 => ?_) (fun h1 => ?_)
  · refine k_iconst i_74_13 ?_
    refine k_nret i_74_14 qt_74 (by first | exact bi_nar _ | rfl) ?_
    exact ⟨by simp only [isDir]; congr 3; simp [bi]; omega, rfl⟩
  · refine k_iload_n i_74_4 rfl ?_
    refine k_iconst i_74_5 ?_
    refine k_ic_ge (t := 13) i_74_6 rfl (by omega) (by omega) (fun h6 => ?_) (fun h6 => ?_)
    · refine k_iconst i_74_13 ?_
      refine k_nret i_74_14 qt_74 (by first | exact bi_nar _ | rfl) ?_
      exact ⟨by simp only [isDir]; congr 3; simp [bi]; omega, rfl⟩
    · refine k_iconst i_74_9 ?_
      refine k_goto (t := 14) i_74_10 rfl ?_
      refine k_nret i_74_14 qt_74 (by first | exact bi_nar _ | rfl) ?_
      exact ⟨by simp only [isDir]; congr 3; simp [bi]; omega, rfl⟩
-- method 32: StraightTax$Town.ahead.(II)I
theorem e_ahead (hT : TAt sh S t T) (hx : TNx S t T) (c q : Int) (hc : inJ c) (hq : inJ q) : KP sh (d + 1) 32 [.ref t, .int (J c), .int (J q)] S (.int (J (tAh T c q))) := by
  obtain ⟨s1, s2, s3, r1, r2, a0, a1, a2, a3, a4, a5, a6, ag⟩ := id hT
  refine k_start ql_32 (Nat.le_of_ble_eq_true rfl) ?_
  simp only [q_en, List.replicate]
  refine k_iload_n i_32_0 rfl ?_
  refine k_sp1 i_32_1 c_7_71 (by decide) qp_30 (Nat.le_of_ble_eq_true rfl) (e_isHeld _ hc) ?_
  refine k_if_eqB (t := 27) i_32_4 rfl (fun h => ?_) (fun h => ?_)
  · have h2 : ¬ (0 ≤ c ∧ c < 20) := by simpa [tHeld] using h
    refine k_iconst i_32_27 ?_
    refine k_iret i_32_28 qt_32 ?_
    exact ⟨by unfold tAh; rw [if_neg (fun z => h2 z.1)], rfl⟩
  · have h2 : 0 ≤ c ∧ c < 20 := by simpa [tHeld] using h
    refine k_iload_n i_32_7 rfl ?_
    refine k_sp1 i_32_8 c_7_81 (by decide) qp_74 (Nat.le_of_ble_eq_true rfl) (e_isDir _ hq) ?_
    refine k_if_eqB (t := 27) i_32_11 rfl (fun h => ?_) (fun h => ?_)
    · have h3 : ¬ (0 ≤ q ∧ q < 4) := by simpa [isDir] using h
      refine k_iconst i_32_27 ?_
      refine k_iret i_32_28 qt_32 ?_
      exact ⟨by unfold tAh; rw [if_neg (fun z => h3 z.2)], rfl⟩
    · have h3 : 0 ≤ q ∧ q < 4 := by simpa [isDir] using h
      have h4 := hx c.toNat q.toNat (by omega) (by omega)
      have e1 : (c * 4 + q).toNat = c.toNat * 4 + q.toNat := by omega
      have e2 : ((c.toNat : Nat) : Int) = c := by omega
      have e3 : ((q.toNat : Nat) : Int) = q := by omega
      rw [e2, e3] at h4
      refine k_aload_n i_32_14 rfl ?_
      refine k_gfR i_32_15 f_7_15 (by first | rfl | assumption | (rw [hR]; rfl) | (dsimp only; rw [hR]; rfl)) (by decide) (by decide) (Or.inr ⟨_, rfl⟩) (by first | rfl | assumption | (rw [hR]; rfl) | (dsimp only; rw [hR]; rfl)) ?_
      refine k_iload_n i_32_18 rfl ?_
      refine k_iconst i_32_19 ?_
      refine k_imul i_32_20 ?_
      refine k_iload_n i_32_21 rfl ?_
      refine k_iadd i_32_22 ?_
      refine k_iald i_32_23 (by first | rfl | assumption | (rw [hR]; rfl) | (dsimp only; rw [hR]; rfl)) (by decide) (by omega) (by omega) ?_
      refine k_goto (t := 28) i_32_24 rfl ?_
      refine k_iret i_32_28 qt_32 ?_
      exact ⟨by unfold tAh; rw [if_pos ⟨h2, h3⟩, e1, h4], rfl⟩
-- method 25: StraightTax$Town.squareAt.(II)I
theorem e_squareAt (hT : TAt sh S t T) (hw : tWF T) (x y : Int) (hx : inJ x) (hy : inJ y) : KP sh d 25 [.ref t, .int (J x), .int (J y)] S (.int (J (tSq T x y))) := by
  obtain ⟨s1, s2, s3, r1, r2, a0, a1, a2, a3, a4, a5, a6, ag⟩ := id hT
  obtain ⟨⟨w1, w2⟩, ⟨w3, w4⟩, -⟩ := hw
  refine k_start ql_25 (Nat.le_of_ble_eq_true rfl) ?_
  simp only [q_en, List.replicate]
  refine k_iload_n i_25_0 rfl ?_
  refine k_if_lt (t := 35) i_25_1 rfl (by omega) (fun h1 => ?_) (fun h1 => ?_)
  · refine k_iconst i_25_35 ?_
    refine k_iret i_25_36 qt_25 ?_
    exact ⟨by unfold tSq; first | rw [if_neg (by omega)] | (rw [if_pos (by omega), a0]), rfl⟩
  · refine k_iload_n i_25_4 rfl ?_
    refine k_aload_n i_25_5 rfl ?_
    refine k_gfI i_25_6 f_7_24 (by first | rfl | assumption | (rw [hR]; rfl) | (dsimp only; rw [hR]; rfl)) (by decide) (by decide) (Or.inl rfl) ?_
    refine k_ic_ge (t := 35) i_25_9 rfl (by omega) (by omega) (fun h9 => ?_) (fun h9 => ?_)
    · refine k_iconst i_25_35 ?_
      refine k_iret i_25_36 qt_25 ?_
      exact ⟨by unfold tSq; first | rw [if_neg (by omega)] | (rw [if_pos (by omega), a0]), rfl⟩
    · refine k_iload_n i_25_12 rfl ?_
      refine k_if_lt (t := 35) i_25_13 rfl (by omega) (fun h13 => ?_) (fun h13 => ?_)
      · refine k_iconst i_25_35 ?_
        refine k_iret i_25_36 qt_25 ?_
        exact ⟨by unfold tSq; first | rw [if_neg (by omega)] | (rw [if_pos (by omega), a0]), rfl⟩
      · refine k_iload_n i_25_16 rfl ?_
        refine k_aload_n i_25_17 rfl ?_
        refine k_gfI i_25_18 f_7_28 (by first | rfl | assumption | (rw [hR]; rfl) | (dsimp only; rw [hR]; rfl)) (by decide) (by decide) (Or.inl rfl) ?_
        refine k_ic_ge (t := 35) i_25_21 rfl (by omega) (by omega) (fun h21 => ?_) (fun h21 => ?_)
        · refine k_iconst i_25_35 ?_
          refine k_iret i_25_36 qt_25 ?_
          exact ⟨by unfold tSq; first | rw [if_neg (by omega)] | (rw [if_pos (by omega), a0]), rfl⟩
        · refine k_iload_n i_25_24 rfl ?_
          refine k_aload_n i_25_25 rfl ?_
          refine k_gfI i_25_26 f_7_24 (by first | rfl | assumption | (rw [hR]; rfl) | (dsimp only; rw [hR]; rfl)) (by decide) (by decide) (Or.inl rfl) ?_
          refine k_imul i_25_29 ?_
          refine k_iload_n i_25_30 rfl ?_
          refine k_iadd i_25_31 ?_
          refine k_goto (t := 36) i_25_32 rfl ?_
          refine k_iret i_25_36 qt_25 ?_
          exact ⟨by unfold tSq; first | rw [if_neg (by omega)] | (rw [if_pos (by omega), a0]), rfl⟩
-- method 33: StraightTax$Town.runOf.(IIII)I
theorem e_runOf (hT : TAt sh S t T) (hw : tWF T) (c last run q : Int) (hc : inJ c) (hl : inJ last) (hq : inJ q) : KP sh (d + 2) 33 [.ref t, .int (J c), .int (J last), .int (J run), .int (J q)] S (.int (J (tRun T c last run q))) := by
  obtain ⟨s1, s2, s3, r1, r2, a0, a1, a2, a3, a4, a5, a6, ag⟩ := id hT
  refine k_start ql_33 (Nat.le_of_ble_eq_true rfl) ?_
  simp only [q_en, List.replicate]
  refine k_iload i_33_0 rfl ?_
  refine k_iload_n i_33_2 rfl ?_
  refine k_ic_ne (t := 20) i_33_3 rfl (by omega) (by omega) (fun h => ?_) (fun h => ?_)
  · refine k_iconst i_33_20 ?_
    refine k_iret i_33_21 qt_33 ?_
    exact ⟨by unfold tRun; rw [if_neg (fun z => h z.1)], rfl⟩
  · refine k_aload_n i_33_6 rfl ?_
    refine k_iload_n i_33_7 rfl ?_
    refine k_vp1 i_33_8 c_7_94 qp_34 qo_34 (by first | rfl | assumption | (rw [hR]; rfl) | (dsimp only; rw [hR]; rfl)) (Nat.le_of_ble_eq_true rfl) (e_isElbow hT hw _ hc) ?_
    refine k_if_neB (t := 20) i_33_11 rfl (fun h => ?_) (fun h => ?_)
    · refine k_iconst i_33_20 ?_
      refine k_iret i_33_21 qt_33 ?_
      exact ⟨by unfold tRun; rw [if_neg (fun z => by simp [h] at z)], rfl⟩
    · refine k_iload_n i_33_14 rfl ?_
      refine k_iconst i_33_15 ?_
      refine k_iadd i_33_16 ?_
      refine k_goto (t := 21) i_33_17 rfl ?_
      refine k_iret i_33_21 qt_33 ?_
      exact ⟨by unfold tRun; rw [if_pos ⟨by omega, h⟩], rfl⟩
-- method 35: StraightTax$Town.price.(IZ)I
theorem e_price (hT : TAt sh S t T) (hw : tWF T) (r nt : Int) (hr : -100 ≤ r ∧ r ≤ 100) (hn : nt = 0 ∨ nt = 1) : KP sh d 35 [.ref t, .int (J r), .int (J nt)] S (.int (J (tPrice T nt r))) := by
  obtain ⟨s1, s2, s3, r1, r2, a0, a1, a2, a3, a4, a5, a6, ag⟩ := id hT
  obtain ⟨⟨w1, w2⟩, ⟨w3, w4⟩, ⟨w5, w6⟩, ⟨w7, w8⟩, ⟨w9, w10⟩, ⟨w11, w12⟩, ⟨w13, w14⟩, -⟩ := id hw
  refine k_start ql_35 (Nat.le_of_ble_eq_true rfl) ?_
  simp only [q_en, List.replicate]
  refine k_iload_n i_35_0 rfl ?_
  refine k_aload_n i_35_1 rfl ?_
  refine k_gfI i_35_2 f_7_31 (by first | rfl | assumption | (rw [hR]; rfl) | (dsimp only; rw [hR]; rfl)) (by decide) (by decide) (Or.inl rfl) ?_
  refine k_isub i_35_5 ?_
  refine k_istore_n i_35_6 (Nat.le_of_ble_eq_true rfl) ?_
  dsimp only [q_st1, q_st2, q_unl]
  refine k_iload_n i_35_7 rfl ?_
  refine k_if_gt (t := 16) i_35_8 rfl (by omega) (fun h8 => ?_) (fun h8 => ?_)
  · refine k_aload_n i_35_16 rfl ?_
    refine k_gfI i_35_17 f_7_34 (by first | rfl | assumption | (rw [hR]; rfl) | (dsimp only; rw [hR]; rfl)) (by decide) (by decide) (Or.inl rfl) ?_
    refine k_istore i_35_20 (Nat.le_of_ble_eq_true rfl) ?_
    dsimp only [q_st1, q_st2, q_unl]
    refine k_aload_n i_35_22 rfl ?_
    refine k_gfI i_35_23 f_7_37 (by first | rfl | assumption | (rw [hR]; rfl) | (dsimp only; rw [hR]; rfl)) (by decide) (by decide) (Or.inl rfl) ?_
    refine k_iconst i_35_26 ?_
    refine k_ic_ne (t := 41) i_35_27 rfl (by omega) (by omega) (fun h27 => ?_) (fun h27 => ?_)
    · refine k_aload_n i_35_41 rfl ?_
      refine k_gfI i_35_42 f_7_37 (by first | rfl | assumption | (rw [hR]; rfl) | (dsimp only; rw [hR]; rfl)) (by decide) (by decide) (Or.inl rfl) ?_
      refine k_iconst i_35_45 ?_
      refine k_ic_ne (t := 59) i_35_46 rfl (by omega) (by omega) (fun h46 => ?_) (fun h46 => ?_)
      · refine k_iload_n i_35_59 rfl ?_
        refine k_if_eq (t := 82) i_35_60 rfl (by omega) (fun h60 => ?_) (fun h60 => ?_)
        · refine k_aload_n i_35_82 rfl ?_
          refine k_gfI i_35_83 f_7_44 (by first | rfl | assumption | (rw [hR]; rfl) | (dsimp only; rw [hR]; rfl)) (by decide) (by decide) (Or.inl rfl) ?_
          refine k_iload i_35_86 rfl ?_
          refine k_iadd i_35_88 ?_
          refine k_iret i_35_89 qt_35 ?_
          exact ⟨by simp only [a2, a3, a4, a5, a6] at *; congr 3; unfold tPrice tPart; repeat' split <;> first | omega | rfl | skip, rfl⟩
        · refine k_aload_n i_35_63 rfl ?_
          refine k_gfI i_35_64 f_7_40 (by first | rfl | assumption | (rw [hR]; rfl) | (dsimp only; rw [hR]; rfl)) (by decide) (by decide) (Or.inr rfl) ?_
          refine k_if_eq (t := 82) i_35_67 rfl (by omega) (fun h67 => ?_) (fun h67 => ?_)
          · refine k_aload_n i_35_82 rfl ?_
            refine k_gfI i_35_83 f_7_44 (by first | rfl | assumption | (rw [hR]; rfl) | (dsimp only; rw [hR]; rfl)) (by decide) (by decide) (Or.inl rfl) ?_
            refine k_iload i_35_86 rfl ?_
            refine k_iadd i_35_88 ?_
            refine k_iret i_35_89 qt_35 ?_
            exact ⟨by simp only [a2, a3, a4, a5, a6] at *; congr 3; unfold tPrice tPart; repeat' split <;> first | omega | rfl | skip, rfl⟩
          · refine k_aload_n i_35_70 rfl ?_
            refine k_gfI i_35_71 f_7_44 (by first | rfl | assumption | (rw [hR]; rfl) | (dsimp only; rw [hR]; rfl)) (by decide) (by decide) (Or.inl rfl) ?_
            refine k_iconst i_35_74 ?_
            refine k_iload i_35_75 rfl ?_
            refine k_imul i_35_77 ?_
            refine k_iadd i_35_78 ?_
            refine k_goto (t := 89) i_35_79 rfl ?_
            refine k_iret i_35_89 qt_35 ?_
            exact ⟨by simp only [a2, a3, a4, a5, a6] at *; congr 3; unfold tPrice tPart; repeat' split <;> first | omega | rfl | skip, rfl⟩
      · refine k_aload_n i_35_49 rfl ?_
        refine k_gfI i_35_50 f_7_34 (by first | rfl | assumption | (rw [hR]; rfl) | (dsimp only; rw [hR]; rfl)) (by decide) (by decide) (Or.inl rfl) ?_
        refine k_iload_n i_35_53 rfl ?_
        refine k_imul i_35_54 ?_
        refine k_iload_n i_35_55 rfl ?_
        refine k_imul i_35_56 ?_
        refine k_istore i_35_57 (Nat.le_of_ble_eq_true rfl) ?_
        dsimp only [q_st1, q_st2, q_unl]
        refine k_iload_n i_35_59 rfl ?_
        refine k_if_eq (t := 82) i_35_60 rfl (by omega) (fun h60 => ?_) (fun h60 => ?_)
        · refine k_aload_n i_35_82 rfl ?_
          refine k_gfI i_35_83 f_7_44 (by first | rfl | assumption | (rw [hR]; rfl) | (dsimp only; rw [hR]; rfl)) (by decide) (by decide) (Or.inl rfl) ?_
          refine k_iload i_35_86 rfl ?_
          refine k_iadd i_35_88 ?_
          refine k_iret i_35_89 qt_35 ?_
          exact ⟨by simp only [a2, a3, a4, a5, a6] at *; congr 3; unfold tPrice tPart; repeat' split <;> first | omega | rfl | skip, rfl⟩
        · refine k_aload_n i_35_63 rfl ?_
          refine k_gfI i_35_64 f_7_40 (by first | rfl | assumption | (rw [hR]; rfl) | (dsimp only; rw [hR]; rfl)) (by decide) (by decide) (Or.inr rfl) ?_
          refine k_if_eq (t := 82) i_35_67 rfl (by omega) (fun h67 => ?_) (fun h67 => ?_)
          · refine k_aload_n i_35_82 rfl ?_
            refine k_gfI i_35_83 f_7_44 (by first | rfl | assumption | (rw [hR]; rfl) | (dsimp only; rw [hR]; rfl)) (by decide) (by decide) (Or.inl rfl) ?_
            refine k_iload i_35_86 rfl ?_
            refine k_iadd i_35_88 ?_
            refine k_iret i_35_89 qt_35 ?_
            exact ⟨by simp only [a2, a3, a4, a5, a6] at *; congr 3; unfold tPrice tPart; repeat' split <;> first | omega | rfl | skip, rfl⟩
          · refine k_aload_n i_35_70 rfl ?_
            refine k_gfI i_35_71 f_7_44 (by first | rfl | assumption | (rw [hR]; rfl) | (dsimp only; rw [hR]; rfl)) (by decide) (by decide) (Or.inl rfl) ?_
            refine k_iconst i_35_74 ?_
            refine k_iload i_35_75 rfl ?_
            refine k_imul i_35_77 ?_
            refine k_iadd i_35_78 ?_
            refine k_goto (t := 89) i_35_79 rfl ?_
            refine k_iret i_35_89 qt_35 ?_
            exact ⟨by simp only [a2, a3, a4, a5, a6] at *; congr 3; unfold tPrice tPart; repeat' split <;> first | omega | rfl | skip, rfl⟩
    · refine k_aload_n i_35_30 rfl ?_
      refine k_gfI i_35_31 f_7_34 (by first | rfl | assumption | (rw [hR]; rfl) | (dsimp only; rw [hR]; rfl)) (by decide) (by decide) (Or.inl rfl) ?_
      refine k_iload_n i_35_34 rfl ?_
      refine k_imul i_35_35 ?_
      refine k_istore i_35_36 (Nat.le_of_ble_eq_true rfl) ?_
      dsimp only [q_st1, q_st2, q_unl]
      refine k_goto (t := 59) i_35_38 rfl ?_
      refine k_iload_n i_35_59 rfl ?_
      refine k_if_eq (t := 82) i_35_60 rfl (by omega) (fun h60 => ?_) (fun h60 => ?_)
      · refine k_aload_n i_35_82 rfl ?_
        refine k_gfI i_35_83 f_7_44 (by first | rfl | assumption | (rw [hR]; rfl) | (dsimp only; rw [hR]; rfl)) (by decide) (by decide) (Or.inl rfl) ?_
        refine k_iload i_35_86 rfl ?_
        refine k_iadd i_35_88 ?_
        refine k_iret i_35_89 qt_35 ?_
        exact ⟨by simp only [a2, a3, a4, a5, a6] at *; congr 3; unfold tPrice tPart; repeat' split <;> first | omega | rfl | skip, rfl⟩
      · refine k_aload_n i_35_63 rfl ?_
        refine k_gfI i_35_64 f_7_40 (by first | rfl | assumption | (rw [hR]; rfl) | (dsimp only; rw [hR]; rfl)) (by decide) (by decide) (Or.inr rfl) ?_
        refine k_if_eq (t := 82) i_35_67 rfl (by omega) (fun h67 => ?_) (fun h67 => ?_)
        · refine k_aload_n i_35_82 rfl ?_
          refine k_gfI i_35_83 f_7_44 (by first | rfl | assumption | (rw [hR]; rfl) | (dsimp only; rw [hR]; rfl)) (by decide) (by decide) (Or.inl rfl) ?_
          refine k_iload i_35_86 rfl ?_
          refine k_iadd i_35_88 ?_
          refine k_iret i_35_89 qt_35 ?_
          exact ⟨by simp only [a2, a3, a4, a5, a6] at *; congr 3; unfold tPrice tPart; repeat' split <;> first | omega | rfl | skip, rfl⟩
        · refine k_aload_n i_35_70 rfl ?_
          refine k_gfI i_35_71 f_7_44 (by first | rfl | assumption | (rw [hR]; rfl) | (dsimp only; rw [hR]; rfl)) (by decide) (by decide) (Or.inl rfl) ?_
          refine k_iconst i_35_74 ?_
          refine k_iload i_35_75 rfl ?_
          refine k_imul i_35_77 ?_
          refine k_iadd i_35_78 ?_
          refine k_goto (t := 89) i_35_79 rfl ?_
          refine k_iret i_35_89 qt_35 ?_
          exact ⟨by simp only [a2, a3, a4, a5, a6] at *; congr 3; unfold tPrice tPart; repeat' split <;> first | omega | rfl | skip, rfl⟩
  · refine k_aload_n i_35_11 rfl ?_
    refine k_gfI i_35_12 f_7_44 (by first | rfl | assumption | (rw [hR]; rfl) | (dsimp only; rw [hR]; rfl)) (by decide) (by decide) (Or.inl rfl) ?_
    refine k_iret i_35_15 qt_35 ?_
    exact ⟨by simp only [a2, a3, a4, a5, a6] at *; congr 3; unfold tPrice tPart; repeat' split <;> first | omega | rfl | skip, rfl⟩
end TW2
