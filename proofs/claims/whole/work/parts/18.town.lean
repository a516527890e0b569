/-! THE TOWN -/
abbrev Tn : Type := Int × Int × Int × Int × Int × Int × Int × (Nat → Int)
abbrev tW (T : Tn) : Int := T.1
abbrev tH (T : Tn) : Int := T.2.1
abbrev tF (T : Tn) : Int := T.2.2.1
abbrev tR (T : Tn) : Int := T.2.2.2.1
abbrev tM (T : Tn) : Int := T.2.2.2.2.1
abbrev tD (T : Tn) : Int := T.2.2.2.2.2.1
abbrev tA (T : Tn) : Int := T.2.2.2.2.2.2.1
abbrev tG (T : Tn) : Nat → Int := T.2.2.2.2.2.2.2
def tN (T : Tn) : Int := tW T * tH T
/-- as a text may tell it -/
def tWF (T : Tn) : Prop := (2 ≤ tW T ∧ tW T ≤ 5) ∧ (1 ≤ tH T ∧ tH T ≤ 4) ∧ (0 ≤ tF T ∧ tF T ≤ 4) ∧ (1 ≤ tR T ∧ tR T ≤ 9) ∧ (0 ≤ tM T ∧ tM T ≤ 2) ∧ (0 ≤ tD T ∧ tD T ≤ 1) ∧ (0 ≤ tA T ∧ tA T ≤ 9) ∧ ∀ c, 0 ≤ tG T c ∧ tG T c ≤ 2
theorem tN_le {T : Tn} (h : tWF T) : 2 ≤ tN T ∧ tN T ≤ 20 := by
  obtain ⟨⟨h1, h2⟩, ⟨h3, h4⟩, -⟩ := h
  unfold tN
  constructor
  · have := Int.mul_le_mul h1 h3 (by decide) (by omega)
    omega
  · have := Int.mul_le_mul h2 h4 (by omega) (by omega)
    omega
/-- where a town lies: its cell, its two rows behind it -/
def TAt (sh : QH) (S : QS) (t : Nat) (T : Tn) : Prop := sh[t]? = some (7, 9) ∧ sh[t + 1]? = some (100, 20) ∧ sh[t + 2]? = some (100, 80) ∧ S.2.2 t 7 = some (t + 1) ∧ S.2.2 t 8 = some (t + 2) ∧ S.1 t 0 = tW T ∧ S.1 t 1 = tH T ∧ S.1 t 2 = tF T ∧ S.1 t 3 = tR T ∧ S.1 t 4 = tM T ∧ S.1 t 5 = tD T ∧ S.1 t 6 = tA T ∧ (∀ c, c < 20 → S.1 (t + 1) c = tG T c)
def tHas (T : Tn) (c : Int) : Bool := decide (0 ≤ c ∧ c < tN T)
def tHeld (c : Int) : Bool := decide (0 ≤ c ∧ c < 20)
def tOn (T : Tn) (c : Int) : Int := if 0 ≤ c ∧ c < 20 then tG T c.toNat else 0
def tOpen (T : Tn) (c : Int) : Bool := tHas T c && decide (tOn T c ≠ 1)
def tElb (T : Tn) (c : Int) : Bool := decide (0 ≤ c ∧ c < 20 ∧ tG T c.toNat = 2)
def tPart (T : Tn) (o : Int) : Int := if tM T = 0 then tR T else if tM T = 1 then tR T * o else tR T * o * o
/-- what the r-th step of a run costs -/
def tPrice (T : Tn) (nt r : Int) : Int := tA T + (if r - tF T ≤ 0 then 0 else if nt = 1 ∧ tD T = 1 then 2 * tPart T (r - tF T) else tPart T (r - tF T))
def tRun (T : Tn) (c last run d : Int) : Int := if d = last ∧ tElb T c = false then run + 1 else 1
section TW
variable {sh : QH} {S : QS} {t d : Nat} {T : Tn}
-- method 30: StraightTax$Town.isHeld.(I)Z
theorem e_isHeld (c : Int) (hc : inJ c) : KP sh d 30 [.int (J c)] S (.int (J (bi (tHeld c)))) := by
  refine k_start ql_30 (Nat.le_of_ble_eq_true rfl) ?_
  simp only [q_en, List.replicate]
  refine k_iload_n i_30_0 rfl ?_
  refine k_if_lt (t := 14) i_30_1 rfl (by omega) (fun h1 => ?_) (fun h1 => ?_)
  · refine k_iconst i_30_14 ?_
    refine k_nret i_30_15 qt_30 (by first | exact bi_nar _ | rfl) ?_
    exact ⟨by simp only [tHeld]; congr 3; simp [bi]; omega, rfl⟩
  · refine k_iload_n i_30_4 rfl ?_
    refine k_bipush i_30_5 (by decide) ?_
    refine k_ic_ge (t := 14) i_30_7 rfl (by omega) (by omega) (fun h7 => ?_) (fun h7 => ?_)
    · refine k_iconst i_30_14 ?_
      refine k_nret i_30_15 qt_30 (by first | exact bi_nar _ | rfl) ?_
      exact ⟨by simp only [tHeld]; congr 3; simp [bi]; omega, rfl⟩
    · refine k_iconst i_30_10 ?_
      refine k_goto (t := 15) i_30_11 rfl ?_
      refine k_nret i_30_15 qt_30 (by first | exact bi_nar _ | rfl) ?_
      exact ⟨by simp only [tHeld]; congr 3; simp [bi]; omega, rfl⟩
-- method 28: StraightTax$Town.squares.()I
theorem e_squares (hT : TAt sh S t T) : KP sh d 28 [.ref t] S (.int (J (tN T))) := by
  obtain ⟨s1, s2, s3, r1, r2, a0, a1, a2, a3, a4, a5, a6, ag⟩ := id hT
  refine k_start ql_28 (Nat.le_of_ble_eq_true rfl) ?_
  simp only [q_en, List.replicate]
  refine k_aload_n i_28_0 rfl ?_
  refine k_gfI i_28_1 f_7_24 (by first | rfl | assumption | (rw [hR]; rfl) | (dsimp only; rw [hR]; rfl)) (by decide) (by decide) (Or.inl rfl) ?_
  refine k_aload_n i_28_4 rfl ?_
  refine k_gfI i_28_5 f_7_28 (by first | rfl | assumption | (rw [hR]; rfl) | (dsimp only; rw [hR]; rfl)) (by decide) (by decide) (Or.inl rfl) ?_
  refine k_imul i_28_8 ?_
  refine k_iret i_28_9 qt_28 ?_
  exact ⟨by rw [a0, a1]; rfl, rfl⟩
-- by 30 (e_isHeld _ (by omega))
-- by 28 (e_squares hT)
-- method 27: StraightTax$Town.has.(I)Z
theorem e_has (hT : TAt sh S t T) (hw : tWF T) (c : Int) (hc : inJ c) : KP sh (d + 1) 27 [.ref t, .int (J c)] S (.int (J (bi (tHas T c)))) := by
  obtain ⟨s1, s2, s3, r1, r2, a0, a1, a2, a3, a4, a5, a6, ag⟩ := id hT
  have hN := tN_le hw
  refine k_start ql_27 (Nat.le_of_ble_eq_true rfl) ?_
  simp only [q_en, List.replicate]
  refine k_iload_n i_27_0 rfl ?_
  refine k_if_lt (t := 16) i_27_1 rfl (by omega) (fun h1 => ?_) (fun h1 => ?_)
  · refine k_iconst i_27_16 ?_
    refine k_nret i_27_17 qt_27 (by first | exact bi_nar _ | rfl) ?_
    exact ⟨by simp only [tHas]; congr 3; simp [bi]; omega, rfl⟩
  · refine k_iload_n i_27_4 rfl ?_
    refine k_aload_n i_27_5 rfl ?_
    refine k_vp0 i_27_6 c_7_67 qp_28 qo_28 (by first | rfl | assumption | (rw [hR]; rfl) | (dsimp only; rw [hR]; rfl)) (Nat.le_of_ble_eq_true rfl) (e_squares hT) ?_
    refine k_ic_ge (t := 16) i_27_9 rfl (by omega) (by omega) (fun h9 => ?_) (fun h9 => ?_)
    · refine k_iconst i_27_16 ?_
      refine k_nret i_27_17 qt_27 (by first | exact bi_nar _ | rfl) ?_
      exact ⟨by simp only [tHas]; congr 3; simp [bi]; omega, rfl⟩
    · refine k_iconst i_27_12 ?_
      refine k_goto (t := 17) i_27_13 rfl ?_
      refine k_nret i_27_17 qt_27 (by first | exact bi_nar _ | rfl) ?_
      exact ⟨by simp only [tHas]; congr 3; simp [bi]; omega, rfl⟩
-- method 29: StraightTax$Town.thingOn.(I)I
theorem e_thingOn (hT : TAt sh S t T) (c : Int) (hc : inJ c) : KP sh (d + 1) 29 [.ref t, .int (J c)] S (.int (J (tOn T c))) := by
  obtain ⟨s1, s2, s3, r1, r2, a0, a1, a2, a3, a4, a5, a6, ag⟩ := id hT
  refine k_start ql_29 (Nat.le_of_ble_eq_true rfl) ?_
  simp only [q_en, List.replicate]
  refine k_iload_n i_29_0 rfl ?_
  refine k_sp1 i_29_1 c_7_71 (by decide) qp_30 (Nat.le_of_ble_eq_true rfl) (e_isHeld _ hc) ?_
  refine k_if_eqB (t := 16) i_29_4 rfl (fun h => ?_) (fun h => ?_)
  · have h2 : ¬ (0 ≤ c ∧ c < 20) := by simpa [tHeld] using h
    refine k_iconst i_29_16 ?_
    refine k_iret i_29_17 qt_29 ?_
    exact ⟨by unfold tOn; rw [if_neg h2], rfl⟩
  · have h2 : 0 ≤ c ∧ c < 20 := by simpa [tHeld] using h
    refine k_aload_n i_29_7 rfl ?_
    refine k_gfR i_29_8 f_7_9 (by first | rfl | assumption | (rw [hR]; rfl) | (dsimp only; rw [hR]; rfl)) (by decide) (by decide) (Or.inr ⟨_, rfl⟩) (by first | rfl | assumption | (rw [hR]; rfl) | (dsimp only; rw [hR]; rfl)) ?_
    refine k_iload_n i_29_11 rfl ?_
    refine k_iald i_29_12 (by first | rfl | assumption | (rw [hR]; rfl) | (dsimp only; rw [hR]; rfl)) (by decide) (by omega) (by omega) ?_
    refine k_goto (t := 17) i_29_13 rfl ?_
    refine k_iret i_29_17 qt_29 ?_
    exact ⟨by unfold tOn; rw [if_pos h2, ag _ (by omega)], rfl⟩
-- by 27 (e_has hT hw _ hc)
-- by 29 (e_thingOn hT _ hc)
theorem tOn_le {T : Tn} (hw : tWF T) (c : Int) : 0 ≤ tOn T c ∧ tOn T c ≤ 2 := by
  unfold tOn
  split
  · exact hw.2.2.2.2.2.2.2 _
  · decide
-- method 26: StraightTax$Town.isOpen.(I)Z
theorem e_isOpen (hT : TAt sh S t T) (hw : tWF T) (c : Int) (hc : inJ c) : KP sh (d + 2) 26 [.ref t, .int (J c)] S (.int (J (bi (tOpen T c)))) := by
  obtain ⟨s1, s2, s3, r1, r2, a0, a1, a2, a3, a4, a5, a6, ag⟩ := id hT
  have hon := tOn_le hw c
  refine k_start ql_26 (Nat.le_of_ble_eq_true rfl) ?_
  simp only [q_en, List.replicate]
  refine k_aload_n i_26_0 rfl ?_
  refine k_iload_n i_26_1 rfl ?_
  refine k_vp1 i_26_2 c_7_74 qp_27 qo_27 (by first | rfl | assumption | (rw [hR]; rfl) | (dsimp only; rw [hR]; rfl)) (Nat.le_of_ble_eq_true rfl) (e_has hT hw _ hc) ?_
  refine k_if_eqB (t := 21) i_26_5 rfl (fun h5 => ?_) (fun h5 => ?_)
  · refine k_iconst i_26_21 ?_
    refine k_nret i_26_22 qt_26 (by first | exact bi_nar _ | rfl) ?_
    exact ⟨by simp_all [tOpen, bi], rfl⟩
  · refine k_aload_n i_26_8 rfl ?_
    refine k_iload_n i_26_9 rfl ?_
    refine k_vp1 i_26_10 c_7_77 qp_29 qo_29 (by first | rfl | assumption | (rw [hR]; rfl) | (dsimp only; rw [hR]; rfl)) (Nat.le_of_ble_eq_true rfl) (e_thingOn hT _ hc) ?_
    refine k_iconst i_26_13 ?_
    refine k_ic_eq (t := 21) i_26_14 rfl (by omega) (by omega) (fun h14 => ?_) (fun h14 => ?_)
    · refine k_iconst i_26_21 ?_
      refine k_nret i_26_22 qt_26 (by first | exact bi_nar _ | rfl) ?_
      exact ⟨by simp_all [tOpen, bi], rfl⟩
    · refine k_iconst i_26_17 ?_
      refine k_goto (t := 22) i_26_18 rfl ?_
      refine k_nret i_26_22 qt_26 (by first | exact bi_nar _ | rfl) ?_
      exact ⟨by simp_all [tOpen, bi], rfl⟩
-- method 34: StraightTax$Town.isElbow.(I)Z
theorem e_isElbow (hT : TAt sh S t T) (hw : tWF T) (c : Int) (hc : inJ c) : KP sh (d + 1) 34 [.ref t, .int (J c)] S (.int (J (bi (tElb T c)))) := by
  obtain ⟨s1, s2, s3, r1, r2, a0, a1, a2, a3, a4, a5, a6, ag⟩ := id hT
  have hg := hw.2.2.2.2.2.2.2
  refine k_start ql_34 (Nat.le_of_ble_eq_true rfl) ?_
  simp only [q_en, List.replicate]
  refine k_iload_n i_34_0 rfl ?_
  refine k_sp1 i_34_1 c_7_71 (by decide) qp_30 (Nat.le_of_ble_eq_true rfl) (e_isHeld _ hc) ?_
  refine k_if_eqB (t := 21) i_34_4 rfl (fun h => ?_) (fun h => ?_)
  · have h2 : ¬ (0 ≤ c ∧ c < 20) := by simpa [tHeld] using h
    refine k_iconst i_34_21 ?_
    refine k_nret i_34_22 qt_34 (by first | exact bi_nar _ | rfl) ?_
    exact ⟨by unfold tElb; rw [decide_eq_false (by omega)]; rfl, rfl⟩
  · have h2 : 0 ≤ c ∧ c < 20 := by simpa [tHeld] using h
    have h3 := hg c.toNat
    refine k_aload_n i_34_7 rfl ?_
    refine k_gfR i_34_8 f_7_9 (by first | rfl | assumption | (rw [hR]; rfl) | (dsimp only; rw [hR]; rfl)) (by decide) (by decide) (Or.inr ⟨_, rfl⟩) (by first | rfl | assumption | (rw [hR]; rfl) | (dsimp only; rw [hR]; rfl)) ?_
    refine k_iload_n i_34_11 rfl ?_
    refine k_iald i_34_12 (by first | rfl | assumption | (rw [hR]; rfl) | (dsimp only; rw [hR]; rfl)) (by decide) (by omega) (by omega) ?_
    rw [ag _ (by omega)]
    refine k_iconst i_34_13 ?_
    refine k_ic_ne (t := 21) i_34_14 rfl (by omega) (by omega) (fun h => ?_) (fun h => ?_)
    · refine k_iconst i_34_21 ?_
      refine k_nret i_34_22 qt_34 (by first | exact bi_nar _ | rfl) ?_
      exact ⟨by unfold tElb; rw [decide_eq_false (by omega)]; rfl, rfl⟩
    · refine k_iconst i_34_17 ?_
      refine k_goto (t := 22) i_34_18 rfl ?_
      refine k_nret i_34_22 qt_34 (by first | exact bi_nar _ | rfl) ?_
      exact ⟨by unfold tElb; rw [decide_eq_true (by omega)]; rfl, rfl⟩
end TW
