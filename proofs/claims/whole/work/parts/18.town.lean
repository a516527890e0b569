/-! THE TOWN -/
abbrev Tn : Type := Int × Int × Int × Int × Int × Int × Int × (Nat → Int)
abbrev tW (T : Tn) : Int := T.1
abbrev tH (T : Tn) : Int := T.2.1
abbrev tF (T : Tn) : Int := T.2.2.1
abbrev tR (T : Tn) : Int := T.2.2.2.1
abbrev tM (T : Tn) : Int := T.2.2.2.2.1
abbrev tD (T : Tn) : Int := T.2.2.2.2.2.1
abbrev tA (T : Tn) : Int := T.2.2.2.2.2.2.1
abbrev tG (T : Tn) : Nat → Int := T.2.2.2.2.2.2.2
def tN (T : Tn) : Int := tW T * tH T
/-- as a text may tell it -/
def tWF (T : Tn) : Prop := (2 ≤ tW T ∧ tW T ≤ 5) ∧ (1 ≤ tH T ∧ tH T ≤ 4) ∧ (0 ≤ tF T ∧ tF T ≤ 4) ∧ (1 ≤ tR T ∧ tR T ≤ 9) ∧ (0 ≤ tM T ∧ tM T ≤ 2) ∧ (0 ≤ tD T ∧ tD T ≤ 1) ∧ (0 ≤ tA T ∧ tA T ≤ 9) ∧ ∀ c, 0 ≤ tG T c ∧ tG T c ≤ 2
theorem tN_le {T : Tn} (h : tWF T) : 2 ≤ tN T ∧ tN T ≤ 20 := by
  obtain ⟨⟨h1, h2⟩, ⟨h3, h4⟩, -⟩ := h
  unfold tN
  constructor
  · have := Int.mul_le_mul h1 h3 (by decide) (by omega)
    omega
  · have := Int.mul_le_mul h2 h4 (by omega) (by omega)
    omega
/-- where a town lies: its cell, its two rows behind it -/
def TAt (sh : QH) (S : QS) (t : Nat) (T : Tn) : Prop := sh[t]? = some (7, 9) ∧ sh[t + 1]? = some (100, 20) ∧ sh[t + 2]? = some (100, 80) ∧ S.2.2 t 7 = some (t + 1) ∧ S.2.2 t 8 = some (t + 2) ∧ S.1 t 0 = tW T ∧ S.1 t 1 = tH T ∧ S.1 t 2 = tF T ∧ S.1 t 3 = tR T ∧ S.1 t 4 = tM T ∧ S.1 t 5 = tD T ∧ S.1 t 6 = tA T ∧ (∀ c, c < 20 → S.1 (t + 1) c = tG T c)
def tHas (T : Tn) (c : Int) : Bool := decide (0 ≤ c ∧ c < tN T)
def tHeld (c : Int) : Bool := decide (0 ≤ c ∧ c < 20)
def tOn (T : Tn) (c : Int) : Int := if 0 ≤ c ∧ c < 20 then tG T c.toNat else 0
def tOpen (T : Tn) (c : Int) : Bool := tHas T c && decide (tOn T c ≠ 1)
def tElb (T : Tn) (c : Int) : Bool := decide (0 ≤ c ∧ c < 20 ∧ tG T c.toNat = 2)
def tPart (T : Tn) (o : Int) : Int := if tM T = 0 then tR T else if tM T = 1 then tR T * o else tR T * o * o
/-- what the r-th step of a run costs -/
def tPrice (T : Tn) (nt r : Int) : Int := tA T + (if r - tF T ≤ 0 then 0 else if nt = 1 ∧ tD T = 1 then 2 * tPart T (r - tF T) else tPart T (r - tF T))
def tRun (T : Tn) (c last run d : Int) : Int := if d = last ∧ tElb T c = false then run + 1 else 1
section TW
variable {sh : QH} {S : QS} {t d : Nat} {T : Tn}
-- method 30: StraightTax$Town.isHeld.(I)Z
theorem e_isHeld (c : Int) (hc : inJ c) : KP sh d 30 [.int (J c)] S (.int (J (bi (tHeld c)))) := by
  refine k_start ql_30 (Nat.le_of_ble_eq_true rfl) ?_
  simp only [q_en, List.replicate]
  refine k_iload_n i_30_0 rfl ?_
  refine k_if_lt (t := 14) i_30_1 rfl (by omega) (fun h1 => ?_) (fun h1 => ?_)
  · refine k_iconst i_30_14 ?_
    refine k_nret i_30_15 qt_30 (by first | exact bi_nar _ | rfl) ?_
    exact ⟨by simp only [tHeld]; congr 3; simp [bi]; omega, rfl⟩
  · refine k_iload_n i_30_4 rfl ?_
    refine k_bipush i_30_5 (by decide) ?_
    refine k_ic_ge (t := 14) i_30_7 rfl (by omega) (by omega) (fun h7 => ?_) (fun h7 => ?_)
    · refine k_iconst i_30_14 ?_
      refine k_nret i_30_15 qt_30 (by first | exact bi_nar _ | rfl) ?_
      exact ⟨by simp only [tHeld]; congr 3; simp [bi]; omega, rfl⟩
    · refine k_iconst i_30_10 ?_
      refine k_goto (t := 15) i_30_11 rfl ?_
      refine k_nret i_30_15 qt_30 (by first | exact bi_nar _ | rfl) ?_
      exact ⟨by simp only [tHeld]; congr 3; simp [bi]; omega, rfl⟩
-- method 28: StraightTax$Town.squares.()I
theorem e_squares (hT : TAt sh S t T) : KP sh d 28 [.ref t] S (.int (J (tN T))) := by
  obtain ⟨s1, s2, s3, r1, r2, a0, a1, a2, a3, a4, a5, a6, ag⟩ := id hT
  refine k_start ql_28 (Nat.le_of_ble_eq_true rfl) ?_
  simp only [q_en, List.replicate]
  refine k_aload_n i_28_0 rfl ?_
  refine k_gfI i_28_1 f_7_24 (by first | rfl | assumption) (by decide) (by decide) (Or.inl rfl) ?_
  refine k_aload_n i_28_4 rfl ?_
  refine k_gfI i_28_5 f_7_28 (by first | rfl | assumption) (by decide) (by decide) (Or.inl rfl) ?_
  refine k_imul i_28_8 ?_
  refine k_iret i_28_9 qt_28 ?_
  exact ⟨by rw [a0, a1]; rfl, rfl⟩
end TW
