/-! THE REFERENCE: its world, its small methods -/
def shM : QH := [(12, 35), (100, 200), (100, 390), (102, 2), (100, 6), (100, 6), (100, 5), (100, 340), (100, 340), (100, 61), (100, 5), (100, 25), (100, 80), (100, 9), (100, 9), (100, 9)]
def rM : Nat → Nat → Option Nat := fun c k => match c with
  | 0 => match k with
    | 9 => some 1
    | 11 => some 2
    | 12 => some 3
    | 14 => some 4
    | 15 => some 5
    | 21 => some 6
    | 26 => some 7
    | 27 => some 8
    | 28 => some 9
    | 29 => some 10
    | 30 => some 11
    | 31 => some 12
    | 32 => some 13
    | 33 => some 14
    | 34 => some 15
    | _ => none
  | _ => none
/-- a town without things beyond it -/
def tOK (T : Tn) : Prop := tWF T ∧ ∀ c : Nat, tN T ≤ (c : Int) → tG T c = 0
/-- the squares with a thing, as bits -/
def tMk (T : Tn) (v : Int) : Nat → Nat
  | 0 => 0
  | k + 1 => tMk T v k + (if tG T k = v then 2 ^ k else 0)
def tMask (T : Tn) (v : Int) : Nat := tMk T v 20
theorem tMk_lt (T : Tn) (v : Int) : ∀ k, tMk T v k < 2 ^ k
  | 0 => by simp [tMk]
  | k + 1 => by
    have := tMk_lt T v k
    unfold tMk
    rw [Nat.pow_succ]
    split <;> omega
theorem tMk_bit (T : Tn) (v : Int) (c : Nat) : ∀ k, (tMk T v k).testBit c = decide (c < k ∧ tG T c = v)
  | 0 => by simp [tMk]
  | k + 1 => by
    have ih := tMk_bit T v c k
    have hl := tMk_lt T v k
    unfold tMk
    by_cases h : tG T k = v
    · rw [if_pos h, Nat.add_comm]
      rcases Nat.lt_trichotomy c k with hc | hc | hc
      · rw [Nat.testBit_two_pow_add_gt hc, ih]
        congr 1
        apply propext
        constructor
        · rintro ⟨h1, h2⟩; exact ⟨by omega, h2⟩
        · rintro ⟨h1, h2⟩; exact ⟨by omega, h2⟩
      · subst hc
        rw [Nat.testBit_two_pow_add_eq, ih]
        simp [h]
      · rw [Nat.testBit_lt_two_pow]
        · rw [decide_eq_false (by omega)]
        · have : 2 ^ (k + 1) ≤ 2 ^ c := Nat.pow_le_pow_right (by decide) hc
          rw [Nat.pow_succ] at this
          omega
    · rw [if_neg h, Nat.add_zero, ih]
      by_cases hc : c = k
      · subst hc; simp [h]
      · congr 1
        apply propext
        constructor
        · rintro ⟨h1, h2⟩; exact ⟨by omega, h2⟩
        · rintro ⟨h1, h2⟩; exact ⟨by omega, h2⟩
/-- the reference's town -/
def MT (S : QS) (T : Tn) : Prop := S.1 0 0 = tW T ∧ S.1 0 1 = tH T ∧ S.1 0 2 = (tMask T 1 : Int) ∧ S.1 0 3 = (tMask T 2 : Int) ∧ S.1 0 4 = tF T ∧ S.1 0 5 = tR T ∧ S.1 0 6 = tM T ∧ S.1 0 7 = tD T ∧ S.1 0 8 = tA T
section ML
variable {S : QS} {d : Nat} {T : Tn}
-- method 100: StraightTaxModel.in.(JJJ)Z
theorem m_in (v lo hi : Int) (h1 : inL v) (h2 : inL lo) (h3 : inL hi) : KP shM d 100 [.long (JL v), .long (JL lo), .long (JL hi)] S (.int (J (bi (decide (lo ≤ v ∧ v ≤ hi))))) := by
  refine k_start ql_100 (Nat.le_of_ble_eq_true rfl) ?_
  simp only [q_en, List.replicate]
  refine k_lload_n i_100_0 rfl ?_
  refine k_lload_n i_100_1 rfl ?_
  refine k_lcmp i_100_2 ?_
  refine k_lc_lt (t := 17) i_100_3 rfl h1 h2 (fun h => ?_) (fun h => ?_)
  · refine k_iconst i_100_17 ?_
    refine k_nret i_100_18 qt_100 (by first | exact bi_nar _ | rfl) ?_
    exact ⟨by rw [decide_eq_false (by omega)]; rfl, rfl⟩
  · refine k_lload_n i_100_6 rfl ?_
    refine k_lload i_100_7 rfl ?_
    refine k_lcmp i_100_9 ?_
    refine k_lc_gt (t := 17) i_100_10 rfl h1 h3 (fun h' => ?_) (fun h' => ?_)
    · refine k_iconst i_100_17 ?_
      refine k_nret i_100_18 qt_100 (by first | exact bi_nar _ | rfl) ?_
      exact ⟨by rw [decide_eq_false (by omega)]; rfl, rfl⟩
    · refine k_iconst i_100_13 ?_
      refine k_goto (t := 18) i_100_14 rfl ?_
      refine k_nret i_100_18 qt_100 (by first | exact bi_nar _ | rfl) ?_
      exact ⟨by rw [decide_eq_true (by omega)]; rfl, rfl⟩
-- method 109: StraightTaxModel.has.(II)Z
theorem m_has {m : Nat} (hm : m < 2 ^ 31) (c : Int) (h0 : 0 ≤ c) (h1 : c < 32) : KP shM d 109 [.int (J (m : Int)), .int (J c)] S (.int (J (bi (m.testBit c.toNat)))) := by
  obtain ⟨k, rfl⟩ : ∃ k : Nat, c = k := ⟨c.toNat, by omega⟩
  have hk : k < 32 := by omega
  have hb := bi_01 (m.testBit k)
  refine k_start ql_109 (Nat.le_of_ble_eq_true rfl) ?_
  simp only [q_en, List.replicate]
  refine k_iload_n i_109_0 rfl ?_
  refine k_iload_n i_109_1 rfl ?_
  refine k_ishr i_109_2 (J_shr hm hk) ?_
  refine k_iconst i_109_3 ?_
  refine k_iand (c := bi (m.testBit k)) i_109_4 (by rw [← J_shr hm hk]; exact J_bit hm hk) ?_
  refine k_iconst i_109_5 ?_
  rw [show (((k : Int)).toNat) = k by omega]
  refine k_ic_ne (t := 13) i_109_6 rfl (by omega) (by omega) (fun h => ?_) (fun h => ?_)
  · refine k_iconst i_109_13 ?_
    refine k_nret i_109_14 qt_109 (by first | exact bi_nar _ | rfl) ?_
    exact ⟨by rcases hb with hb | hb; rw [hb]; omega, rfl⟩
  · refine k_iconst i_109_9 ?_
    refine k_goto (t := 14) i_109_10 rfl ?_
    refine k_nret i_109_14 qt_109 (by first | exact bi_nar _ | rfl) ?_
    exact ⟨by rcases hb with hb | hb; omega; rw [hb], rfl⟩
-- method 107: StraightTaxModel.lesser.(II)I
theorem m_lesser (a b : Int) (ha : inJ a) (hb : inJ b) : KP shM d 107 [.int (J a), .int (J b)] S (.int (J (min a b))) := by
  refine k_start ql_107 (Nat.le_of_ble_eq_true rfl) ?_
  simp only [q_en, List.replicate]
  refine k_iload_n i_107_0 rfl ?_
  refine k_iload_n i_107_1 rfl ?_
  refine k_ic_ge (t := 9) i_107_2 rfl (by omega) (by omega) (fun h2 => ?_) (fun h2 => ?_)
  · refine k_iload_n i_107_9 rfl ?_
    refine k_iret i_107_10 qt_107 ?_
    exact ⟨by first | rw [Int.min_eq_left (by omega)] | rw [Int.min_eq_right (by omega)], rfl⟩
  · refine k_iload_n i_107_5 rfl ?_
    refine k_goto (t := 10) i_107_6 rfl ?_
    refine k_iret i_107_10 qt_107 ?_
    exact ⟨by first | rw [Int.min_eq_left (by omega)] | rw [Int.min_eq_right (by omega)], rfl⟩
-- by 100 (m_in _ _ _ (by omega) (by omega) (by omega))
-- method 112: StraightTaxModel.isSquare.(I)Z
theorem m_isSquare (hT : MT S T) (hw : tWF T) (c : Int) (hc : inJ c) : KP shM (d + 1) 112 [.ref 0, .int (J c)] S (.int (J (bi (tHas T c)))) := by
  obtain ⟨a0, a1, a2, a3, a4, a5, a6, a7, a8⟩ := id hT
  have hN := tN_le hw
  have e : S.1 0 0 * S.1 0 1 = tN T := by rw [a0, a1]; rfl
  refine k_start ql_112 (Nat.le_of_ble_eq_true rfl) ?_
  simp only [q_en, List.replicate]
  refine k_iload_n i_112_0 rfl ?_
  refine k_i2lJ i_112_1 (by omega) ?_
  refine k_lconstJ (a := 0) i_112_2 rfl ?_
  refine k_aload_n i_112_3 rfl ?_
  refine k_gfI i_112_4 f_12_7 (by first | rfl | assumption | (rw [hR]; rfl) | (dsimp only; rw [hR]; rfl)) (by decide) (by decide) (Or.inl rfl) ?_
  refine k_aload_n i_112_7 rfl ?_
  refine k_gfI i_112_8 f_12_13 (by first | rfl | assumption | (rw [hR]; rfl) | (dsimp only; rw [hR]; rfl)) (by decide) (by decide) (Or.inl rfl) ?_
  refine k_imul i_112_11 ?_
  rw [e]
  refine k_iconst i_112_12 ?_
  refine k_isub i_112_13 ?_
  refine k_i2lJ i_112_14 (by omega) ?_
  refine k_sp3 i_112_15 c_12_72 (by decide) qp_100 (Nat.le_of_ble_eq_true rfl) (m_in _ _ _ (by omega) (by omega) (by omega)) ?_
  refine k_nret i_112_18 qt_112 (by first | exact bi_nar _ | rfl) ?_
  exact ⟨by unfold tHas; rw [decide_eq_decide.mpr (show (0 ≤ c ∧ c ≤ tN T - 1) ↔ (0 ≤ c ∧ c < tN T) by omega)], rfl⟩
theorem tMask_lt (T : Tn) (v : Int) : tMask T v < 2 ^ 20 := tMk_lt T v 20
theorem tMask_bit (T : Tn) (v : Int) (c : Nat) : (tMask T v).testBit c = decide (c < 20 ∧ tG T c = v) := tMk_bit T v c 20
-- by 109 (m_has (by omega) _ (by omega) (by omega))
-- method 115: StraightTaxModel.isOpen.(I)Z
theorem m_isOpen (hT : MT S T) (hw : tWF T) (c : Int) (hc : inJ c) : KP shM (d + 2) 115 [.ref 0, .int (J c)] S (.int (J (bi (tOpen T c)))) := by
  obtain ⟨a0, a1, a2, a3, a4, a5, a6, a7, a8⟩ := id hT
  have hN := tN_le hw
  have hm := tMask_lt T 1
  refine k_start ql_115 (Nat.le_of_ble_eq_true rfl) ?_
  simp only [q_en, List.replicate]
  refine k_aload_n i_115_0 rfl ?_
  refine k_iload_n i_115_1 rfl ?_
  refine k_vp1 i_115_2 c_12_76 qp_112 qo_112 (by first | rfl | assumption | (rw [hR]; rfl) | (dsimp only; rw [hR]; rfl)) (Nat.le_of_ble_eq_true rfl) (m_isSquare hT hw _ hc) ?_
  refine k_if_eqB (t := 23) i_115_5 rfl (fun h => ?_) (fun h => ?_)
  · refine k_iconst i_115_23 ?_
    refine k_nret i_115_24 qt_115 (by first | exact bi_nar _ | rfl) ?_
    exact ⟨by unfold tOpen; rw [h]; rfl, rfl⟩
  · have h2 : 0 ≤ c ∧ c < tN T := by simpa [tHas] using h
    have e1 : tOn T c = tG T c.toNat := by unfold tOn; rw [if_pos (by omega)]
    have e2 : tOpen T c = decide (tG T c.toNat ≠ 1) := by unfold tOpen; rw [h, e1]; rfl
    refine k_aload_n i_115_8 rfl ?_
    refine k_gfI i_115_9 f_12_80 (by first | rfl | assumption | (rw [hR]; rfl) | (dsimp only; rw [hR]; rfl)) (by decide) (by decide) (Or.inl rfl) ?_
    rw [a2]
    refine k_iload_n i_115_12 rfl ?_
    refine k_sp2 i_115_13 c_12_83 (by decide) qp_109 (Nat.le_of_ble_eq_true rfl) (m_has (by omega) _ (by omega) (by omega)) ?_
    rw [tMask_bit]
    refine k_if_neB (t := 23) i_115_16 rfl (fun h => ?_) (fun h => ?_)
    · have h3 : tG T c.toNat = 1 := by simp at h; exact h.2
      refine k_iconst i_115_23 ?_
      refine k_nret i_115_24 qt_115 (by first | exact bi_nar _ | rfl) ?_
      exact ⟨by rw [e2, decide_eq_false (by simp [h3])]; rfl, rfl⟩
    · have h3 : ¬ tG T c.toNat = 1 := fun z => by rw [decide_eq_true ⟨by omega, z⟩] at h; cases h
      refine k_iconst i_115_19 ?_
      refine k_goto (t := 24) i_115_20 rfl ?_
      refine k_nret i_115_24 qt_115 (by first | exact bi_nar _ | rfl) ?_
      exact ⟨by rw [e2, decide_eq_true h3]; rfl, rfl⟩
-- by 115 (m_isOpen hT hw _ (by omega))
-- method 126: StraightTaxModel.areOpen.(II)Z
theorem m_areOpen (hT : MT S T) (hw : tWF T) (a b : Int) (ha : inJ a) (hb : inJ b) : KP shM (d + 3) 126 [.ref 0, .int (J a), .int (J b)] S (.int (J (bi (tOpen T a && tOpen T b)))) := by
  refine k_start ql_126 (Nat.le_of_ble_eq_true rfl) ?_
  simp only [q_en, List.replicate]
  refine k_aload_n i_126_0 rfl ?_
  refine k_iload_n i_126_1 rfl ?_
  refine k_vp1 i_126_2 c_12_182 qp_115 qo_115 (by first | rfl | assumption | (rw [hR]; rfl) | (dsimp only; rw [hR]; rfl)) (Nat.le_of_ble_eq_true rfl) (m_isOpen hT hw _ (by omega)) ?_
  refine k_if_eqB (t := 20) i_126_5 rfl (fun h5 => ?_) (fun h5 => ?_)
  · refine k_iconst i_126_20 ?_
    refine k_nret i_126_21 qt_126 (by first | exact bi_nar _ | rfl) ?_
    exact ⟨by simp_all [bi], rfl⟩
  · refine k_aload_n i_126_8 rfl ?_
    refine k_iload_n i_126_9 rfl ?_
    refine k_vp1 i_126_10 c_12_182 qp_115 qo_115 (by first | rfl | assumption | (rw [hR]; rfl) | (dsimp only; rw [hR]; rfl)) (Nat.le_of_ble_eq_true rfl) (m_isOpen hT hw _ (by omega)) ?_
    refine k_if_eqB (t := 20) i_126_13 rfl (fun h13 => ?_) (fun h13 => ?_)
    · refine k_iconst i_126_20 ?_
      refine k_nret i_126_21 qt_126 (by first | exact bi_nar _ | rfl) ?_
      exact ⟨by simp_all [bi], rfl⟩
    · refine k_iconst i_126_16 ?_
      refine k_goto (t := 21) i_126_17 rfl ?_
      refine k_nret i_126_21 qt_126 (by first | exact bi_nar _ | rfl) ?_
      exact ⟨by simp_all [bi], rfl⟩
-- method 120: StraightTaxModel.priceOf.(I)I
theorem m_priceOf (hT : MT S T) (hR : S.2.2 = rM) (hw : tWF T) (r nt : Int) (hn : S.1 2 2 = nt) (hr : -100 ≤ r ∧ r ≤ 100) (h01 : nt = 0 ∨ nt = 1) : KP shM d 120 [.ref 0, .int (J r)] S (.int (J (tPrice T nt r))) := by
  obtain ⟨a0, a1, a2, a3, a4, a5, a6, a7, a8⟩ := id hT
  obtain ⟨⟨w1, w2⟩, ⟨w3, w4⟩, ⟨w5, w6⟩, ⟨w7, w8⟩, ⟨w9, w10⟩, ⟨w11, w12⟩, ⟨w13, w14⟩, -⟩ := id hw
  have k54 : ∀ p : Int, p = (if r - tF T ≤ 0 then 0 else tPart T (r - tF T)) → K shM d 120 54 [some (.ref 0), some (.int (J r)), some (.int (J (r - S.1 0 4))), none] [.int (J p)] S (fun r1 S2 => r1 = some (.int (J (tPrice T nt r))) ∧ S2 = S) := by
    intro p hp
    refine k_istore_n i_120_54 (Nat.le_of_ble_eq_true rfl) ?_
    dsimp only [q_st1, q_st2, q_unl]
    refine k_aload_n i_120_55 rfl ?_
    refine k_gfI i_120_56 f_12_173 (by first | rfl | assumption | (rw [hR]; rfl) | (dsimp only; rw [hR]; rfl)) (by decide) (by decide) (Or.inl rfl) ?_
    refine k_aload_n i_120_59 rfl ?_
    refine k_gfI i_120_60 f_12_170 (by first | rfl | assumption | (rw [hR]; rfl) | (dsimp only; rw [hR]; rfl)) (by decide) (by decide) (Or.inl rfl) ?_
    refine k_iconst i_120_63 ?_
    refine k_ic_ne (t := 83) i_120_64 rfl (by omega) (by omega) (fun h => ?_) (fun h => ?_)
    · refine k_iload_n i_120_83 rfl ?_
      refine k_iadd i_120_84 ?_
      refine k_iret i_120_85 qt_120 ?_
      exact ⟨by rw [hp, a8]; unfold tPrice; repeat' split <;> first | omega | rfl | skip, rfl⟩
    · refine k_aload_n i_120_67 rfl ?_
      refine k_gfR i_120_68 f_12_29 (by first | rfl | assumption | (rw [hR]; rfl) | (dsimp only; rw [hR]; rfl)) (by decide) (by decide) (Or.inr ⟨_, rfl⟩) (by first | rfl | assumption | (rw [hR]; rfl) | (dsimp only; rw [hR]; rfl)) ?_
      refine k_iconst i_120_71 ?_
      refine k_iald i_120_72 rfl (by decide) (by omega) (by omega) ?_
      rw [show ((2 : Int)).toNat = 2 from rfl, hn]
      refine k_iconst i_120_73 ?_
      refine k_ic_ne (t := 83) i_120_74 rfl (by omega) (by omega) (fun h => ?_) (fun h => ?_)
      · refine k_iload_n i_120_83 rfl ?_
        refine k_iadd i_120_84 ?_
        refine k_iret i_120_85 qt_120 ?_
        exact ⟨by rw [hp, a8]; unfold tPrice; repeat' split <;> first | omega | rfl | skip, rfl⟩
      · refine k_iconst i_120_77 ?_
        refine k_iload_n i_120_78 rfl ?_
        refine k_imul i_120_79 ?_
        refine k_goto (t := 84) i_120_80 rfl ?_
        refine k_iadd i_120_84 ?_
        refine k_iret i_120_85 qt_120 ?_
        exact ⟨by rw [hp, a8]; unfold tPrice; repeat' split <;> first | omega | rfl | skip, rfl⟩
  refine k_start ql_120 (Nat.le_of_ble_eq_true rfl) ?_
  simp only [q_en, List.replicate]
  refine k_iload_n i_120_0 rfl ?_
  refine k_aload_n i_120_1 rfl ?_
  refine k_gfI i_120_2 f_12_16 (by first | rfl | assumption | (rw [hR]; rfl) | (dsimp only; rw [hR]; rfl)) (by decide) (by decide) (Or.inl rfl) ?_
  refine k_isub i_120_5 ?_
  refine k_istore_n i_120_6 (Nat.le_of_ble_eq_true rfl) ?_
  dsimp only [q_st1, q_st2, q_unl]
  refine k_iload_n i_120_7 rfl ?_
  refine k_if_gt (t := 15) i_120_8 rfl (by omega) (fun h8 => ?_) (fun h8 => ?_)
  · refine k_aload_n i_120_15 rfl ?_
    refine k_gfI i_120_16 f_12_22 (by first | rfl | assumption | (rw [hR]; rfl) | (dsimp only; rw [hR]; rfl)) (by decide) (by decide) (Or.inl rfl) ?_
    refine k_if_ne (t := 29) i_120_19 rfl (by omega) (fun h19 => ?_) (fun h19 => ?_)
    · refine k_aload_n i_120_29 rfl ?_
      refine k_gfI i_120_30 f_12_22 (by first | rfl | assumption | (rw [hR]; rfl) | (dsimp only; rw [hR]; rfl)) (by decide) (by decide) (Or.inl rfl) ?_
      refine k_iconst i_120_33 ?_
      refine k_ic_ne (t := 46) i_120_34 rfl (by omega) (by omega) (fun h34 => ?_) (fun h34 => ?_)
      · refine k_aload_n i_120_46 rfl ?_
        refine k_gfI i_120_47 f_12_19 (by first | rfl | assumption | (rw [hR]; rfl) | (dsimp only; rw [hR]; rfl)) (by decide) (by decide) (Or.inl rfl) ?_
        refine k_iload_n i_120_50 rfl ?_
        refine k_imul i_120_51 ?_
        refine k_iload_n i_120_52 rfl ?_
        refine k_imul i_120_53 ?_
        exact k54 _ (by simp only [a4, a5, a6] at *; unfold tPart; repeat' split <;> first | omega | rfl | skip)
      · refine k_aload_n i_120_37 rfl ?_
        refine k_gfI i_120_38 f_12_19 (by first | rfl | assumption | (rw [hR]; rfl) | (dsimp only; rw [hR]; rfl)) (by decide) (by decide) (Or.inl rfl) ?_
        refine k_iload_n i_120_41 rfl ?_
        refine k_imul i_120_42 ?_
        refine k_goto (t := 54) i_120_43 rfl ?_
        exact k54 _ (by simp only [a4, a5, a6] at *; unfold tPart; repeat' split <;> first | omega | rfl | skip)
    · refine k_aload_n i_120_22 rfl ?_
      refine k_gfI i_120_23 f_12_19 (by first | rfl | assumption | (rw [hR]; rfl) | (dsimp only; rw [hR]; rfl)) (by decide) (by decide) (Or.inl rfl) ?_
      refine k_goto (t := 54) i_120_26 rfl ?_
      exact k54 _ (by simp only [a4, a5, a6] at *; unfold tPart; repeat' split <;> first | omega | rfl | skip)
  · refine k_iconst i_120_11 ?_
    refine k_goto (t := 54) i_120_12 rfl ?_
    exact k54 _ (by simp only [a4, a5, a6] at *; unfold tPart; repeat' split <;> first | omega | rfl | skip)
end ML
