/-! CALLS: one, square, law, count, trace, errand, home -/
theorem onk_cnt (T : Tn) (v : Int) : ∀ k, k ≤ 20 → ((onk (tMask T v) k : Nat) : Int) = tCnt T v k
  | 0, _ => rfl
  | k + 1, h => by
    have ih := onk_cnt T v k (by omega)
    unfold onk tCnt
    rw [tb_mod]
    have hb : (tMask T v).testBit k = decide (tG T k = v) := by
      unfold tMask
      rw [tMk_bit]
      congr 1
      apply propext
      constructor
      · rintro ⟨_, h2⟩; exact h2
      · intro h2; exact ⟨by omega, h2⟩
    have e : tOn T (k : Int) = tG T k := by
      unfold tOn
      rw [if_pos (by omega)]
      rfl
    rw [hb, e]
    by_cases z : tG T k = v
    · rw [decide_eq_true z, if_pos rfl, if_pos z]
      omega
    · rw [decide_eq_false z, if_neg (by decide), if_neg z]
      omega
theorem cnt_beyond {T : Tn} (hT : tOK T) {v : Int} (hv : v ≠ 0) : ∀ k : Nat, tN T ≤ (k : Int) → k ≤ 20 → tCnt T v k = tCnt T v (tN T).toNat
  | 0, h, _ => by rw [show (tN T).toNat = 0 by omega]
  | k + 1, h, h2 => by
    by_cases z : tN T = ((k + 1 : Nat) : Int)
    · rw [z]; rfl
    · have ih := cnt_beyond hT hv k (by omega) (by omega)
      rw [← ih]
      have e : tOn T (k : Int) = 0 := by
        unfold tOn
        split
        · exact hT.2 k (by omega)
        · rfl
      show tCnt T v k + (if tOn T (k : Int) = v then 1 else 0) = _
      rw [e, if_neg (fun y => hv y.symm), Int.add_zero]
theorem cnt_ones {T : Tn} (hT : tOK T) {v : Int} (hv : v ≠ 0) : tCnt T v (tN T).toNat = ((onk (tMask T v) 20 : Nat) : Int) := by
  have hN := tN_le hT.1
  rw [onk_cnt T v 20 (by omega), cnt_beyond hT hv 20 (by omega) (by omega)]
theorem mask_on {T : Tn} {v c : Int} (hc : 0 ≤ c ∧ c < 20) : (tMask T v).testBit c.toNat = decide (tOn T c = v) := by
  unfold tMask tOn
  rw [tMk_bit, if_pos hc]
  congr 1
  apply propext
  constructor
  · rintro ⟨_, h2⟩; exact h2
  · intro h2; exact ⟨by omega, h2⟩
theorem tHas_iff {T : Tn} {c : Int} : tHas T c = true ↔ 0 ≤ c ∧ c < tN T := by
  unfold tHas
  exact decide_eq_true_iff
section TE
variable {σ : Sg} {h0 s0 w0 d n : Nat} {I : Nat → Nat → Int} {X : XX} {I2 : Nat → Nat → Int} {X2 : XX}
theorem t_one (hX : XI σ h0 s0 w0 I X) (hM : MI σ I2 X2) (hS : SOK σ) (a : Int) (ha : inJ a) : Both σ h0 s0 w0 I X I2 X2 76 122 [.int (J a)] := by
  have hwk := hX.wk
  have hmk := hM.wk
  have h60 := hS.wk.n60
  have hR := hX.rf
  have hR2 := hM.rf
  have hn : I 3 2 = (σ.w.n : Int) := hwk.2.2.1
  have hn2 : I2 2 3 = (σ.w.n : Int) := hmk.2.2.2.1
  have hpr := hS.wk.pr hS.ok.1
  have h6 : a = 0 ∨ a = 1 ∨ a = 2 ∨ a = 3 ∨ a = 4 ∨ (a < 0 ∨ 4 < a) := by omega
  rcases h6 with rfl | rfl | rfl | rfl | rfl | h6
  · refine ⟨.int (J (if σ.w.pos = -1 then -9 else σ.w.pos)), σ, hS, ?_, ?_⟩
    · unfold OX
-- method 76: StraightTax.one.(I)I
      refine k_start ql_76 (Nat.le_of_ble_eq_true rfl) ?_
      simp only [q_en, List.replicate]
      refine k_iload_n i_76_0 rfl ?_
      refine k_tsI (off := 35) (t := 36) i_76_1 (by omega) (by omega) rfl rfl ?_
      refine k_aload_n i_76_36 rfl ?_
      refine k_gfR i_76_37 f_11_19 (by first | rfl | assumption | (rw [hR]; rfl) | (dsimp only; rw [hR]; rfl)) (by decide) (by decide) (Or.inl ⟨_, rfl⟩) (by first | rfl | assumption | (rw [hR]; rfl) | (dsimp only; rw [hR]; rfl)) ?_
      refine k_gfV (a := σ.w.pos) i_76_40 f_11_132 (by first | rfl | assumption | (rw [hR]; rfl) | (dsimp only; rw [hR]; rfl)) (by decide) (by decide) (Or.inl rfl) (hwk.1) ?_
      refine k_iconst i_76_43 ?_
      refine k_ic_ne (t := 52) i_76_44 rfl (by omega) (by omega) (fun h => ?_) (fun h => ?_)
      · refine k_aload_n i_76_52 rfl ?_
        refine k_gfR i_76_53 f_11_19 (by first | rfl | assumption | (rw [hR]; rfl) | (dsimp only; rw [hR]; rfl)) (by decide) (by decide) (Or.inl ⟨_, rfl⟩) (by first | rfl | assumption | (rw [hR]; rfl) | (dsimp only; rw [hR]; rfl)) ?_
        refine k_gfV (a := σ.w.pos) i_76_56 f_11_132 (by first | rfl | assumption | (rw [hR]; rfl) | (dsimp only; rw [hR]; rfl)) (by decide) (by decide) (Or.inl rfl) (hwk.1) ?_
        refine k_iret i_76_59 qt_76 ?_
        exact ⟨by rw [if_neg (by omega)], _, _, _, hX⟩
      · refine k_bipush i_76_47 (by decide) ?_
        refine k_goto (t := 59) i_76_49 rfl ?_
        refine k_iret i_76_59 qt_76 ?_
        exact ⟨by rw [if_pos (by omega)], _, _, _, hX⟩
    · have hR := hR2
      unfold OM
-- method 122: StraightTaxModel.one.(I)I
      refine k_start ql_122 (Nat.le_of_ble_eq_true rfl) ?_
      simp only [q_en, List.replicate]
      refine k_iload_n i_122_0 rfl ?_
      refine k_tsI (off := 35) (t := 36) i_122_1 (by omega) (by omega) rfl rfl ?_
      refine k_aload_n i_122_36 rfl ?_
      refine k_gfR i_122_37 f_12_29 (by first | rfl | assumption | (rw [hR]; rfl) | (dsimp only; rw [hR]; rfl)) (by decide) (by decide) (Or.inr ⟨_, rfl⟩) (by first | rfl | assumption | (rw [hR]; rfl) | (dsimp only; rw [hR]; rfl)) ?_
      refine k_iconst i_122_40 ?_
      refine k_ialV (a := (if σ.w.pos = -1 then -9 else σ.w.pos)) i_122_41 (by first | rfl | assumption | (rw [hR]; rfl) | (dsimp only; rw [hR]; rfl)) (by decide) (by omega) (by omega) (hmk.1) ?_
      refine k_iret i_122_42 qt_122 ?_
      exact ⟨rfl, hM⟩
  · refine ⟨.int (J σ.w.paid), σ, hS, ?_, ?_⟩
    · unfold OX
-- method 76: StraightTax.one.(I)I
      refine k_start ql_76 (Nat.le_of_ble_eq_true rfl) ?_
      simp only [q_en, List.replicate]
      refine k_iload_n i_76_0 rfl ?_
      refine k_tsI (off := 59) (t := 60) i_76_1 (by omega) (by omega) rfl rfl ?_
      refine k_aload_n i_76_60 rfl ?_
      refine k_gfR i_76_61 f_11_19 (by first | rfl | assumption | (rw [hR]; rfl) | (dsimp only; rw [hR]; rfl)) (by decide) (by decide) (Or.inl ⟨_, rfl⟩) (by first | rfl | assumption | (rw [hR]; rfl) | (dsimp only; rw [hR]; rfl)) ?_
      refine k_gfV (a := σ.w.paid) i_76_64 f_11_167 (by first | rfl | assumption | (rw [hR]; rfl) | (dsimp only; rw [hR]; rfl)) (by decide) (by decide) (Or.inl rfl) (hwk.2.1) ?_
      refine k_iret i_76_67 qt_76 ?_
      exact ⟨rfl, _, _, _, hX⟩
    · have hR := hR2
      unfold OM
-- method 122: StraightTaxModel.one.(I)I
      refine k_start ql_122 (Nat.le_of_ble_eq_true rfl) ?_
      simp only [q_en, List.replicate]
      refine k_iload_n i_122_0 rfl ?_
      refine k_tsI (off := 42) (t := 43) i_122_1 (by omega) (by omega) rfl rfl ?_
      refine k_aload_n i_122_43 rfl ?_
      refine k_gfR i_122_44 f_12_29 (by first | rfl | assumption | (rw [hR]; rfl) | (dsimp only; rw [hR]; rfl)) (by decide) (by decide) (Or.inr ⟨_, rfl⟩) (by first | rfl | assumption | (rw [hR]; rfl) | (dsimp only; rw [hR]; rfl)) ?_
      refine k_iconst i_122_47 ?_
      refine k_ialV (a := σ.w.paid) i_122_48 (by first | rfl | assumption | (rw [hR]; rfl) | (dsimp only; rw [hR]; rfl)) (by decide) (by omega) (by omega) (hmk.2.1) ?_
      refine k_iret i_122_49 qt_122 ?_
      exact ⟨rfl, hM⟩
  · refine ⟨.int (J (wLr σ.w)), σ, hS, ?_, ?_⟩
    · unfold OX
-- method 76: StraightTax.one.(I)I
      refine k_start ql_76 (Nat.le_of_ble_eq_true rfl) ?_
      simp only [q_en, List.replicate]
      refine k_iload_n i_76_0 rfl ?_
      refine k_tsI (off := 67) (t := 68) i_76_1 (by omega) (by omega) rfl rfl ?_
      refine k_aload_n i_76_68 rfl ?_
      refine k_gfR i_76_69 f_11_19 (by first | rfl | assumption | (rw [hR]; rfl) | (dsimp only; rw [hR]; rfl)) (by decide) (by decide) (Or.inl ⟨_, rfl⟩) (by first | rfl | assumption | (rw [hR]; rfl) | (dsimp only; rw [hR]; rfl)) ?_
      refine k_vp0 i_76_72 c_11_149 qp_42 qo_42 (by first | rfl | assumption | (rw [hR]; rfl) | (dsimp only; rw [hR]; rfl)) (Nat.le_of_ble_eq_true rfl) (e_lastRun hR hwk h60) ?_
      refine k_iret i_76_75 qt_76 ?_
      exact ⟨rfl, _, _, _, hX⟩
    · have hR := hR2
      unfold OM
-- method 122: StraightTaxModel.one.(I)I
      refine k_start ql_122 (Nat.le_of_ble_eq_true rfl) ?_
      simp only [q_en, List.replicate]
      refine k_iload_n i_122_0 rfl ?_
      refine k_tsI (off := 49) (t := 50) i_122_1 (by omega) (by omega) rfl rfl ?_
      refine k_aload_n i_122_50 rfl ?_
      refine k_vp0 i_122_51 c_12_190 qp_118 qo_118 (by first | rfl | assumption | (rw [hR]; rfl) | (dsimp only; rw [hR]; rfl)) (Nat.le_of_ble_eq_true rfl) (m_runNow hM.mt hR hS.ok hmk hS.wk) ?_
      refine k_iret i_122_54 qt_122 ?_
      exact ⟨rfl, hM⟩
  · refine ⟨.int (J (if σ.w.n = 0 then -9 else wLd σ.w)), σ, hS, ?_, ?_⟩
    · unfold OX
-- method 76: StraightTax.one.(I)I
      refine k_start ql_76 (Nat.le_of_ble_eq_true rfl) ?_
      simp only [q_en, List.replicate]
      refine k_iload_n i_76_0 rfl ?_
      refine k_tsI (off := 75) (t := 76) i_76_1 (by omega) (by omega) rfl rfl ?_
      refine k_aload_n i_76_76 rfl ?_
      refine k_gfR i_76_77 f_11_19 (by first | rfl | assumption | (rw [hR]; rfl) | (dsimp only; rw [hR]; rfl)) (by decide) (by decide) (Or.inl ⟨_, rfl⟩) (by first | rfl | assumption | (rw [hR]; rfl) | (dsimp only; rw [hR]; rfl)) ?_
      refine k_gfV (a := (σ.w.n : Int)) i_76_80 f_11_142 (by first | rfl | assumption | (rw [hR]; rfl) | (dsimp only; rw [hR]; rfl)) (by decide) (by decide) (Or.inl rfl) (hn) ?_
      refine k_if_le (t := 96) i_76_83 rfl (by omega) (fun h => ?_) (fun h => ?_)
      · refine k_bipush i_76_96 (by decide) ?_
        refine k_iret i_76_98 qt_76 ?_
        exact ⟨by rw [if_pos (by omega)], _, _, _, hX⟩
      · refine k_aload_n i_76_86 rfl ?_
        refine k_gfR i_76_87 f_11_19 (by first | rfl | assumption | (rw [hR]; rfl) | (dsimp only; rw [hR]; rfl)) (by decide) (by decide) (Or.inl ⟨_, rfl⟩) (by first | rfl | assumption | (rw [hR]; rfl) | (dsimp only; rw [hR]; rfl)) ?_
        refine k_vp0 i_76_90 c_11_145 qp_41 qo_41 (by first | rfl | assumption | (rw [hR]; rfl) | (dsimp only; rw [hR]; rfl)) (Nat.le_of_ble_eq_true rfl) (e_lastDir hR hwk h60) ?_
        refine k_goto (t := 98) i_76_93 rfl ?_
        refine k_iret i_76_98 qt_76 ?_
        exact ⟨by rw [if_neg (by omega)], _, _, _, hX⟩
    · have hR := hR2
      unfold OM
-- method 122: StraightTaxModel.one.(I)I
      refine k_start ql_122 (Nat.le_of_ble_eq_true rfl) ?_
      simp only [q_en, List.replicate]
      refine k_iload_n i_122_0 rfl ?_
      refine k_tsI (off := 54) (t := 55) i_122_1 (by omega) (by omega) rfl rfl ?_
      refine k_aload_n i_122_55 rfl ?_
      refine k_gfR i_122_56 f_12_29 (by first | rfl | assumption | (rw [hR]; rfl) | (dsimp only; rw [hR]; rfl)) (by decide) (by decide) (Or.inr ⟨_, rfl⟩) (by first | rfl | assumption | (rw [hR]; rfl) | (dsimp only; rw [hR]; rfl)) ?_
      refine k_iconst i_122_59 ?_
      refine k_ialV (a := (σ.w.n : Int)) i_122_60 (by first | rfl | assumption | (rw [hR]; rfl) | (dsimp only; rw [hR]; rfl)) (by decide) (by omega) (by omega) (hn2) ?_
      refine k_if_ne (t := 69) i_122_61 rfl (by omega) (fun h => ?_) (fun h => ?_)
      · have hl : wLd σ.w = σ.w.d (σ.w.n - 1) := by unfold wLd; rw [if_neg (by omega)]
        refine k_aload_n i_122_69 rfl ?_
        refine k_gfR i_122_70 f_12_29 (by first | rfl | assumption | (rw [hR]; rfl) | (dsimp only; rw [hR]; rfl)) (by decide) (by decide) (Or.inr ⟨_, rfl⟩) (by first | rfl | assumption | (rw [hR]; rfl) | (dsimp only; rw [hR]; rfl)) ?_
        refine k_iconst i_122_73 ?_
        refine k_aload_n i_122_74 rfl ?_
        refine k_gfR i_122_75 f_12_29 (by first | rfl | assumption | (rw [hR]; rfl) | (dsimp only; rw [hR]; rfl)) (by decide) (by decide) (Or.inr ⟨_, rfl⟩) (by first | rfl | assumption | (rw [hR]; rfl) | (dsimp only; rw [hR]; rfl)) ?_
        refine k_iconst i_122_78 ?_
        refine k_ialV (a := (σ.w.n : Int)) i_122_79 (by first | rfl | assumption | (rw [hR]; rfl) | (dsimp only; rw [hR]; rfl)) (by decide) (by omega) (by omega) (hn2) ?_
        refine k_iadd i_122_80 ?_
        refine k_iconst i_122_81 ?_
        refine k_isub i_122_82 ?_
        refine k_ialV (a := (wLd σ.w)) i_122_83 (by first | rfl | assumption | (rw [hR]; rfl) | (dsimp only; rw [hR]; rfl)) (by decide) (by omega) (by omega) (by rw [hl, show ((4 : Int) + (σ.w.n : Int) - 1).toNat = 0 + 4 + (σ.w.n - 1) by omega]; exact (hmk.2.2.2.2 (σ.w.n - 1) (by omega)).1) ?_
        refine k_iret i_122_84 qt_122 ?_
        exact ⟨by rw [if_neg (by omega)], hM⟩
      · refine k_bipush i_122_64 (by decide) ?_
        refine k_goto (t := 84) i_122_66 rfl ?_
        refine k_iret i_122_84 qt_122 ?_
        exact ⟨by rw [if_pos (by omega)], hM⟩
  · refine ⟨.int (J (σ.w.n : Int)), σ, hS, ?_, ?_⟩
    · unfold OX
-- method 76: StraightTax.one.(I)I
      refine k_start ql_76 (Nat.le_of_ble_eq_true rfl) ?_
      simp only [q_en, List.replicate]
      refine k_iload_n i_76_0 rfl ?_
      refine k_tsI (off := 98) (t := 99) i_76_1 (by omega) (by omega) rfl rfl ?_
      refine k_aload_n i_76_99 rfl ?_
      refine k_gfR i_76_100 f_11_19 (by first | rfl | assumption | (rw [hR]; rfl) | (dsimp only; rw [hR]; rfl)) (by decide) (by decide) (Or.inl ⟨_, rfl⟩) (by first | rfl | assumption | (rw [hR]; rfl) | (dsimp only; rw [hR]; rfl)) ?_
      refine k_gfV (a := (σ.w.n : Int)) i_76_103 f_11_142 (by first | rfl | assumption | (rw [hR]; rfl) | (dsimp only; rw [hR]; rfl)) (by decide) (by decide) (Or.inl rfl) (hn) ?_
      refine k_iret i_76_106 qt_76 ?_
      exact ⟨rfl, _, _, _, hX⟩
    · have hR := hR2
      unfold OM
-- method 122: StraightTaxModel.one.(I)I
      refine k_start ql_122 (Nat.le_of_ble_eq_true rfl) ?_
      simp only [q_en, List.replicate]
      refine k_iload_n i_122_0 rfl ?_
      refine k_tsI (off := 84) (t := 85) i_122_1 (by omega) (by omega) rfl rfl ?_
      refine k_aload_n i_122_85 rfl ?_
      refine k_gfR i_122_86 f_12_29 (by first | rfl | assumption | (rw [hR]; rfl) | (dsimp only; rw [hR]; rfl)) (by decide) (by decide) (Or.inr ⟨_, rfl⟩) (by first | rfl | assumption | (rw [hR]; rfl) | (dsimp only; rw [hR]; rfl)) ?_
      refine k_iconst i_122_89 ?_
      refine k_ialV (a := (σ.w.n : Int)) i_122_90 (by first | rfl | assumption | (rw [hR]; rfl) | (dsimp only; rw [hR]; rfl)) (by decide) (by omega) (by omega) (hn2) ?_
      refine k_iret i_122_91 qt_122 ?_
      exact ⟨rfl, hM⟩
  · refine ⟨.int (J (-1)), σ, hS, ?_, ?_⟩
    · unfold OX
-- method 76: StraightTax.one.(I)I
      refine k_start ql_76 (Nat.le_of_ble_eq_true rfl) ?_
      simp only [q_en, List.replicate]
      refine k_iload_n i_76_0 rfl ?_
      refine k_tsO (t := 107) i_76_1 (by omega) (by omega) rfl ?_
      refine k_iconst i_76_107 ?_
      refine k_iret i_76_108 qt_76 ?_
      exact ⟨rfl, _, _, _, hX⟩
    · have hR := hR2
      unfold OM
-- method 122: StraightTaxModel.one.(I)I
      refine k_start ql_122 (Nat.le_of_ble_eq_true rfl) ?_
      simp only [q_en, List.replicate]
      refine k_iload_n i_122_0 rfl ?_
      refine k_tsO (t := 92) i_122_1 (by omega) (by omega) rfl ?_
      refine k_iconst i_122_92 ?_
      refine k_iret i_122_93 qt_122 ?_
      exact ⟨rfl, hM⟩
theorem t_square (hX : XI σ h0 s0 w0 I X) (hM : MI σ I2 X2) (hS : SOK σ) (a : Int) (ha : inJ a) : Both σ h0 s0 w0 I X I2 X2 70 111 [.int (J a)] := by
  obtain ⟨s1, s2, s3, q1, q2, a0, a1, a2, a3, a4, a5, a6, ag⟩ := id hX.ta
  have hR := hX.rf
  have hR2 := hM.rf
  have hw := hS.ok.1
  have hN := tN_le hw
  refine ⟨.int (J (if tHas σ.T a = true then tOn σ.T a else -1)), σ, hS, ?_, ?_⟩
  · unfold OX
-- method 70: StraightTax.square.(I)I
    refine k_start ql_70 (Nat.le_of_ble_eq_true rfl) ?_
    simp only [q_en, List.replicate]
    refine k_aload_n i_70_0 rfl ?_
    refine k_gfR i_70_1 f_11_54 (by first | rfl | assumption | (rw [hR]; rfl) | (dsimp only; rw [hR]; rfl)) (by decide) (by decide) (Or.inl ⟨_, rfl⟩) (by first | rfl | assumption | (rw [hR]; rfl) | (dsimp only; rw [hR]; rfl)) ?_
    refine k_iload_n i_70_4 rfl ?_
    refine k_vp1 i_70_5 c_11_106 qp_27 qo_27 (by first | rfl | assumption | (rw [hR]; rfl) | (dsimp only; rw [hR]; rfl)) (Nat.le_of_ble_eq_true rfl) (e_has hX.ta hw _ ha) ?_
    refine k_if_eqB (t := 22) i_70_8 rfl (fun h => ?_) (fun h => ?_)
    · refine k_iconst i_70_22 ?_
      refine k_iret i_70_23 qt_70 ?_
      exact ⟨by rw [if_neg (by rw [h]; decide)], _, _, _, hX⟩
    · refine k_aload_n i_70_11 rfl ?_
      refine k_gfR i_70_12 f_11_54 (by first | rfl | assumption | (rw [hR]; rfl) | (dsimp only; rw [hR]; rfl)) (by decide) (by decide) (Or.inl ⟨_, rfl⟩) (by first | rfl | assumption | (rw [hR]; rfl) | (dsimp only; rw [hR]; rfl)) ?_
      refine k_iload_n i_70_15 rfl ?_
      refine k_vp1 i_70_16 c_11_110 qp_29 qo_29 (by first | rfl | assumption | (rw [hR]; rfl) | (dsimp only; rw [hR]; rfl)) (Nat.le_of_ble_eq_true rfl) (e_thingOn hX.ta _ ha) ?_
      refine k_goto (t := 23) i_70_19 rfl ?_
      refine k_iret i_70_23 qt_70 ?_
      exact ⟨by rw [if_pos h], _, _, _, hX⟩
  · have hR := hR2
    unfold OM
-- method 111: StraightTaxModel.square.(I)I
    refine k_start ql_111 (Nat.le_of_ble_eq_true rfl) ?_
    simp only [q_en, List.replicate]
    refine k_aload_n i_111_0 rfl ?_
    refine k_iload_n i_111_1 rfl ?_
    refine k_vp1 i_111_2 c_12_76 qp_112 qo_112 (by first | rfl | assumption | (rw [hR]; rfl) | (dsimp only; rw [hR]; rfl)) (Nat.le_of_ble_eq_true rfl) (m_isSquare hM.mt hw _ ha) ?_
    refine k_if_neB (t := 12) i_111_5 rfl (fun h => ?_) (fun h => ?_)
    · have hr := tHas_iff.mp h
      rw [if_pos h]
      have hg : tOn σ.T a = 0 ∨ tOn σ.T a = 1 ∨ tOn σ.T a = 2 := by
        unfold tOn
        have := hw.2.2.2.2.2.2.2 a.toNat
        split <;> omega
      refine k_aload_n i_111_12 rfl ?_
      refine k_gfV (a := (tMask σ.T 1 : Int)) i_111_13 f_12_80 (by first | rfl | assumption | (rw [hR]; rfl) | (dsimp only; rw [hR]; rfl)) (by decide) (by decide) (Or.inl rfl) (hM.mt.2.2.1) ?_
      refine k_iload_n i_111_16 rfl ?_
      refine k_sp2 i_111_17 c_12_83 (by decide) qp_109 (Nat.le_of_ble_eq_true rfl) (m_has (by have := tMask_lt σ.T 1; omega) _ (by omega) (by omega)) ?_
      rw [mask_on (by omega)]
      refine k_if_eqB (t := 27) i_111_20 rfl (fun h => ?_) (fun h => ?_)
      · refine k_aload_n i_111_27 rfl ?_
        refine k_gfV (a := (tMask σ.T 2 : Int)) i_111_28 f_12_167 (by first | rfl | assumption | (rw [hR]; rfl) | (dsimp only; rw [hR]; rfl)) (by decide) (by decide) (Or.inl rfl) (hM.mt.2.2.2.1) ?_
        refine k_iload_n i_111_31 rfl ?_
        refine k_sp2 i_111_32 c_12_83 (by decide) qp_109 (Nat.le_of_ble_eq_true rfl) (m_has (by have := tMask_lt σ.T 2; omega) _ (by omega) (by omega)) ?_
        rw [mask_on (by omega)]
        have h1 : ¬ tOn σ.T a = 1 := by simpa using h
        refine k_if_eqB (t := 42) i_111_35 rfl (fun h => ?_) (fun h => ?_)
        · have h2 : ¬ tOn σ.T a = 2 := by simpa using h
          refine k_iconst i_111_42 ?_
          refine k_iret i_111_43 qt_111 ?_
          exact ⟨by rw [show tOn σ.T a = 0 by omega], hM⟩
        · have h2 : tOn σ.T a = 2 := by simpa using h
          refine k_iconst i_111_38 ?_
          refine k_goto (t := 43) i_111_39 rfl ?_
          refine k_iret i_111_43 qt_111 ?_
          exact ⟨by rw [h2], hM⟩
      · have h1 : tOn σ.T a = 1 := by simpa using h
        refine k_iconst i_111_23 ?_
        refine k_goto (t := 43) i_111_24 rfl ?_
        refine k_iret i_111_43 qt_111 ?_
        exact ⟨by rw [h1], hM⟩
    · refine k_iconst i_111_8 ?_
      refine k_goto (t := 43) i_111_9 rfl ?_
      refine k_iret i_111_43 qt_111 ?_
      exact ⟨by rw [if_neg (by rw [h]; decide)], hM⟩
theorem t_law (hX : XI σ h0 s0 w0 I X) (hM : MI σ I2 X2) (hS : SOK σ) (a : Int) (ha : inJ a) : Both σ h0 s0 w0 I X I2 X2 71 113 [.int (J a)] := by
  obtain ⟨s1, s2, s3, q1, q2, a0, a1, a2, a3, a4, a5, a6, ag⟩ := id hX.ta
  obtain ⟨m0, m1, m2, m3, m4, m5, m6, m7, m8⟩ := id hM.mt
  have hR := hX.rf
  have hR2 := hM.rf
  have hw := hS.ok.1
  have hd := hw.2.2.2.2.2.1
  have hnt := hS.wk.nt01
  have h6 : a = 0 ∨ a = 1 ∨ a = 2 ∨ a = 3 ∨ a = 4 ∨ a = 5 ∨ (a < 0 ∨ 5 < a) := by omega
  rcases h6 with rfl | rfl | rfl | rfl | rfl | rfl | h6
  · refine ⟨.int (J (tF σ.T)), σ, hS, ?_, ?_⟩
    · unfold OX
-- method 71: StraightTax.law.(I)I
      refine k_start ql_71 (Nat.le_of_ble_eq_true rfl) ?_
      simp only [q_en, List.replicate]
      refine k_iload_n i_71_0 rfl ?_
      refine k_tsI (off := 39) (t := 40) i_71_1 (by omega) (by omega) rfl rfl ?_
      refine k_aload_n i_71_40 rfl ?_
      refine k_gfR i_71_41 f_11_54 (by first | rfl | assumption | (rw [hR]; rfl) | (dsimp only; rw [hR]; rfl)) (by decide) (by decide) (Or.inl ⟨_, rfl⟩) (by first | rfl | assumption | (rw [hR]; rfl) | (dsimp only; rw [hR]; rfl)) ?_
      refine k_gfV (a := (tF σ.T)) i_71_44 f_11_114 (by first | rfl | assumption | (rw [hR]; rfl) | (dsimp only; rw [hR]; rfl)) (by decide) (by decide) (Or.inl rfl) (a2) ?_
      refine k_iret i_71_47 qt_71 ?_
      exact ⟨rfl, _, _, _, hX⟩
    · have hR := hR2
      unfold OM
-- method 113: StraightTaxModel.law.(I)I
      refine k_start ql_113 (Nat.le_of_ble_eq_true rfl) ?_
      simp only [q_en, List.replicate]
      refine k_iload_n i_113_0 rfl ?_
      refine k_tsI (off := 39) (t := 40) i_113_1 (by omega) (by omega) rfl rfl ?_
      refine k_aload_n i_113_40 rfl ?_
      refine k_gfV (a := (tF σ.T)) i_113_41 f_12_16 (by first | rfl | assumption | (rw [hR]; rfl) | (dsimp only; rw [hR]; rfl)) (by decide) (by decide) (Or.inl rfl) (m4) ?_
      refine k_iret i_113_44 qt_113 ?_
      exact ⟨rfl, hM⟩
  · refine ⟨.int (J (tR σ.T)), σ, hS, ?_, ?_⟩
    · unfold OX
-- method 71: StraightTax.law.(I)I
      refine k_start ql_71 (Nat.le_of_ble_eq_true rfl) ?_
      simp only [q_en, List.replicate]
      refine k_iload_n i_71_0 rfl ?_
      refine k_tsI (off := 47) (t := 48) i_71_1 (by omega) (by omega) rfl rfl ?_
      refine k_aload_n i_71_48 rfl ?_
      refine k_gfR i_71_49 f_11_54 (by first | rfl | assumption | (rw [hR]; rfl) | (dsimp only; rw [hR]; rfl)) (by decide) (by decide) (Or.inl ⟨_, rfl⟩) (by first | rfl | assumption | (rw [hR]; rfl) | (dsimp only; rw [hR]; rfl)) ?_
      refine k_gfV (a := (tR σ.T)) i_71_52 f_11_117 (by first | rfl | assumption | (rw [hR]; rfl) | (dsimp only; rw [hR]; rfl)) (by decide) (by decide) (Or.inl rfl) (a3) ?_
      refine k_iret i_71_55 qt_71 ?_
      exact ⟨rfl, _, _, _, hX⟩
    · have hR := hR2
      unfold OM
-- method 113: StraightTaxModel.law.(I)I
      refine k_start ql_113 (Nat.le_of_ble_eq_true rfl) ?_
      simp only [q_en, List.replicate]
      refine k_iload_n i_113_0 rfl ?_
      refine k_tsI (off := 44) (t := 45) i_113_1 (by omega) (by omega) rfl rfl ?_
      refine k_aload_n i_113_45 rfl ?_
      refine k_gfV (a := (tR σ.T)) i_113_46 f_12_19 (by first | rfl | assumption | (rw [hR]; rfl) | (dsimp only; rw [hR]; rfl)) (by decide) (by decide) (Or.inl rfl) (m5) ?_
      refine k_iret i_113_49 qt_113 ?_
      exact ⟨rfl, hM⟩
  · refine ⟨.int (J (tM σ.T)), σ, hS, ?_, ?_⟩
    · unfold OX
-- method 71: StraightTax.law.(I)I
      refine k_start ql_71 (Nat.le_of_ble_eq_true rfl) ?_
      simp only [q_en, List.replicate]
      refine k_iload_n i_71_0 rfl ?_
      refine k_tsI (off := 55) (t := 56) i_71_1 (by omega) (by omega) rfl rfl ?_
      refine k_aload_n i_71_56 rfl ?_
      refine k_gfR i_71_57 f_11_54 (by first | rfl | assumption | (rw [hR]; rfl) | (dsimp only; rw [hR]; rfl)) (by decide) (by decide) (Or.inl ⟨_, rfl⟩) (by first | rfl | assumption | (rw [hR]; rfl) | (dsimp only; rw [hR]; rfl)) ?_
      refine k_gfV (a := (tM σ.T)) i_71_60 f_11_120 (by first | rfl | assumption | (rw [hR]; rfl) | (dsimp only; rw [hR]; rfl)) (by decide) (by decide) (Or.inl rfl) (a4) ?_
      refine k_iret i_71_63 qt_71 ?_
      exact ⟨rfl, _, _, _, hX⟩
    · have hR := hR2
      unfold OM
-- method 113: StraightTaxModel.law.(I)I
      refine k_start ql_113 (Nat.le_of_ble_eq_true rfl) ?_
      simp only [q_en, List.replicate]
      refine k_iload_n i_113_0 rfl ?_
      refine k_tsI (off := 49) (t := 50) i_113_1 (by omega) (by omega) rfl rfl ?_
      refine k_aload_n i_113_50 rfl ?_
      refine k_gfV (a := (tM σ.T)) i_113_51 f_12_22 (by first | rfl | assumption | (rw [hR]; rfl) | (dsimp only; rw [hR]; rfl)) (by decide) (by decide) (Or.inl rfl) (m6) ?_
      refine k_iret i_113_54 qt_113 ?_
      exact ⟨rfl, hM⟩
  · refine ⟨.int (J (tD σ.T)), σ, hS, ?_, ?_⟩
    · unfold OX
-- method 71: StraightTax.law.(I)I
      refine k_start ql_71 (Nat.le_of_ble_eq_true rfl) ?_
      simp only [q_en, List.replicate]
      refine k_iload_n i_71_0 rfl ?_
      refine k_tsI (off := 63) (t := 64) i_71_1 (by omega) (by omega) rfl rfl ?_
      refine k_aload_n i_71_64 rfl ?_
      refine k_gfR i_71_65 f_11_54 (by first | rfl | assumption | (rw [hR]; rfl) | (dsimp only; rw [hR]; rfl)) (by decide) (by decide) (Or.inl ⟨_, rfl⟩) (by first | rfl | assumption | (rw [hR]; rfl) | (dsimp only; rw [hR]; rfl)) ?_
      refine k_gfV (a := (tD σ.T)) i_71_68 f_11_123 (by first | rfl | assumption | (rw [hR]; rfl) | (dsimp only; rw [hR]; rfl)) (by decide) (by decide) (Or.inr rfl) (a5) ?_
      refine k_if_eq (t := 78) i_71_71 rfl (by omega) (fun h => ?_) (fun h => ?_)
      · refine k_iconst i_71_78 ?_
        refine k_iret i_71_79 qt_71 ?_
        exact ⟨by rw [show tD σ.T = 0 by omega], _, _, _, hX⟩
      · refine k_iconst i_71_74 ?_
        refine k_goto (t := 79) i_71_75 rfl ?_
        refine k_iret i_71_79 qt_71 ?_
        exact ⟨by rw [show tD σ.T = 1 by omega], _, _, _, hX⟩
    · have hR := hR2
      unfold OM
-- method 113: StraightTaxModel.law.(I)I
      refine k_start ql_113 (Nat.le_of_ble_eq_true rfl) ?_
      simp only [q_en, List.replicate]
      refine k_iload_n i_113_0 rfl ?_
      refine k_tsI (off := 54) (t := 55) i_113_1 (by omega) (by omega) rfl rfl ?_
      refine k_aload_n i_113_55 rfl ?_
      refine k_gfV (a := (tD σ.T)) i_113_56 f_12_170 (by first | rfl | assumption | (rw [hR]; rfl) | (dsimp only; rw [hR]; rfl)) (by decide) (by decide) (Or.inl rfl) (m7) ?_
      refine k_iret i_113_59 qt_113 ?_
      exact ⟨rfl, hM⟩
  · refine ⟨.int (J (tA σ.T)), σ, hS, ?_, ?_⟩
    · unfold OX
-- method 71: StraightTax.law.(I)I
      refine k_start ql_71 (Nat.le_of_ble_eq_true rfl) ?_
      simp only [q_en, List.replicate]
      refine k_iload_n i_71_0 rfl ?_
      refine k_tsI (off := 79) (t := 80) i_71_1 (by omega) (by omega) rfl rfl ?_
      refine k_aload_n i_71_80 rfl ?_
      refine k_gfR i_71_81 f_11_54 (by first | rfl | assumption | (rw [hR]; rfl) | (dsimp only; rw [hR]; rfl)) (by decide) (by decide) (Or.inl ⟨_, rfl⟩) (by first | rfl | assumption | (rw [hR]; rfl) | (dsimp only; rw [hR]; rfl)) ?_
      refine k_gfV (a := (tA σ.T)) i_71_84 f_11_126 (by first | rfl | assumption | (rw [hR]; rfl) | (dsimp only; rw [hR]; rfl)) (by decide) (by decide) (Or.inl rfl) (a6) ?_
      refine k_iret i_71_87 qt_71 ?_
      exact ⟨rfl, _, _, _, hX⟩
    · have hR := hR2
      unfold OM
-- method 113: StraightTaxModel.law.(I)I
      refine k_start ql_113 (Nat.le_of_ble_eq_true rfl) ?_
      simp only [q_en, List.replicate]
      refine k_iload_n i_113_0 rfl ?_
      refine k_tsI (off := 59) (t := 60) i_113_1 (by omega) (by omega) rfl rfl ?_
      refine k_aload_n i_113_60 rfl ?_
      refine k_gfV (a := (tA σ.T)) i_113_61 f_12_173 (by first | rfl | assumption | (rw [hR]; rfl) | (dsimp only; rw [hR]; rfl)) (by decide) (by decide) (Or.inl rfl) (m8) ?_
      refine k_iret i_113_64 qt_113 ?_
      exact ⟨rfl, hM⟩
  · refine ⟨.int (J σ.w.nt), σ, hS, ?_, ?_⟩
    · unfold OX
-- method 71: StraightTax.law.(I)I
      refine k_start ql_71 (Nat.le_of_ble_eq_true rfl) ?_
      simp only [q_en, List.replicate]
      refine k_iload_n i_71_0 rfl ?_
      refine k_tsI (off := 87) (t := 88) i_71_1 (by omega) (by omega) rfl rfl ?_
      refine k_aload_n i_71_88 rfl ?_
      refine k_gfR i_71_89 f_11_19 (by first | rfl | assumption | (rw [hR]; rfl) | (dsimp only; rw [hR]; rfl)) (by decide) (by decide) (Or.inl ⟨_, rfl⟩) (by first | rfl | assumption | (rw [hR]; rfl) | (dsimp only; rw [hR]; rfl)) ?_
      refine k_gfV (a := σ.w.nt) i_71_92 f_11_99 (by first | rfl | assumption | (rw [hR]; rfl) | (dsimp only; rw [hR]; rfl)) (by decide) (by decide) (Or.inr rfl) (hX.wk.2.2.2.1) ?_
      refine k_if_eq (t := 102) i_71_95 rfl (by omega) (fun h => ?_) (fun h => ?_)
      · refine k_iconst i_71_102 ?_
        refine k_iret i_71_103 qt_71 ?_
        exact ⟨by rw [show σ.w.nt = 0 by omega], _, _, _, hX⟩
      · refine k_iconst i_71_98 ?_
        refine k_goto (t := 103) i_71_99 rfl ?_
        refine k_iret i_71_103 qt_71 ?_
        exact ⟨by rw [show σ.w.nt = 1 by omega], _, _, _, hX⟩
    · have hR := hR2
      unfold OM
-- method 113: StraightTaxModel.law.(I)I
      refine k_start ql_113 (Nat.le_of_ble_eq_true rfl) ?_
      simp only [q_en, List.replicate]
      refine k_iload_n i_113_0 rfl ?_
      refine k_tsI (off := 64) (t := 65) i_113_1 (by omega) (by omega) rfl rfl ?_
      refine k_aload_n i_113_65 rfl ?_
      refine k_gfR i_113_66 f_12_29 (by first | rfl | assumption | (rw [hR]; rfl) | (dsimp only; rw [hR]; rfl)) (by decide) (by decide) (Or.inr ⟨_, rfl⟩) (by first | rfl | assumption | (rw [hR]; rfl) | (dsimp only; rw [hR]; rfl)) ?_
      refine k_iconst i_113_69 ?_
      refine k_ialV (a := σ.w.nt) i_113_70 (by first | rfl | assumption | (rw [hR]; rfl) | (dsimp only; rw [hR]; rfl)) (by decide) (by omega) (by omega) (hM.wk.2.2.1) ?_
      refine k_iret i_113_71 qt_113 ?_
      exact ⟨rfl, hM⟩
  · refine ⟨.int (J (-1)), σ, hS, ?_, ?_⟩
    · unfold OX
-- method 71: StraightTax.law.(I)I
      refine k_start ql_71 (Nat.le_of_ble_eq_true rfl) ?_
      simp only [q_en, List.replicate]
      refine k_iload_n i_71_0 rfl ?_
      refine k_tsO (t := 104) i_71_1 (by omega) (by omega) rfl ?_
      refine k_iconst i_71_104 ?_
      refine k_iret i_71_105 qt_71 ?_
      exact ⟨rfl, _, _, _, hX⟩
    · have hR := hR2
      unfold OM
-- method 113: StraightTaxModel.law.(I)I
      refine k_start ql_113 (Nat.le_of_ble_eq_true rfl) ?_
      simp only [q_en, List.replicate]
      refine k_iload_n i_113_0 rfl ?_
      refine k_tsO (t := 72) i_113_1 (by omega) (by omega) rfl ?_
      refine k_iconst i_113_72 ?_
      refine k_iret i_113_73 qt_113 ?_
      exact ⟨rfl, hM⟩
theorem t_count (hX : XI σ h0 s0 w0 I X) (hM : MI σ I2 X2) (hS : SOK σ) (a : Int) (ha : inJ a) : Both σ h0 s0 w0 I X I2 X2 97 146 [.int (J a)] := by
  obtain ⟨s1, s2, s3, q1, q2, a0, a1, a2, a3, a4, a5, a6, ag⟩ := id hX.ta
  obtain ⟨m0, m1, m2, m3, m4, m5, m6, m7, m8⟩ := id hM.mt
  have hR := hX.rf
  have hR2 := hM.rf
  have hw := hS.ok.1
  have h6 : a = 0 ∨ a = 1 ∨ a = 2 ∨ a = 3 ∨ a = 4 ∨ a = 5 ∨ (a < 0 ∨ 5 < a) := by omega
  rcases h6 with rfl | rfl | rfl | rfl | rfl | rfl | h6
  · refine ⟨.int (J (tW σ.T)), σ, hS, ?_, ?_⟩
    · unfold OX
-- method 97: StraightTax.count.(I)I
      refine k_start ql_97 (Nat.le_of_ble_eq_true rfl) ?_
      simp only [q_en, List.replicate]
      refine k_iload_n i_97_0 rfl ?_
      refine k_tsI (off := 39) (t := 40) i_97_1 (by omega) (by omega) rfl rfl ?_
      refine k_aload_n i_97_40 rfl ?_
      refine k_gfR i_97_41 f_11_54 (by first | rfl | assumption | (rw [hR]; rfl) | (dsimp only; rw [hR]; rfl)) (by decide) (by decide) (Or.inl ⟨_, rfl⟩) (by first | rfl | assumption | (rw [hR]; rfl) | (dsimp only; rw [hR]; rfl)) ?_
      refine k_gfV (a := (tW σ.T)) i_97_44 f_11_256 (by first | rfl | assumption | (rw [hR]; rfl) | (dsimp only; rw [hR]; rfl)) (by decide) (by decide) (Or.inl rfl) (a0) ?_
      refine k_iret i_97_47 qt_97 ?_
      exact ⟨rfl, _, _, _, hX⟩
    · have hR := hR2
      unfold OM
-- method 146: StraightTaxModel.count.(I)I
      refine k_start ql_146 (Nat.le_of_ble_eq_true rfl) ?_
      simp only [q_en, List.replicate]
      refine k_iload_n i_146_0 rfl ?_
      refine k_tsI (off := 39) (t := 40) i_146_1 (by omega) (by omega) rfl rfl ?_
      refine k_aload_n i_146_40 rfl ?_
      refine k_gfV (a := (tW σ.T)) i_146_41 f_12_7 (by first | rfl | assumption | (rw [hR]; rfl) | (dsimp only; rw [hR]; rfl)) (by decide) (by decide) (Or.inl rfl) (m0) ?_
      refine k_iret i_146_44 qt_146 ?_
      exact ⟨rfl, hM⟩
  · refine ⟨.int (J (tH σ.T)), σ, hS, ?_, ?_⟩
    · unfold OX
-- method 97: StraightTax.count.(I)I
      refine k_start ql_97 (Nat.le_of_ble_eq_true rfl) ?_
      simp only [q_en, List.replicate]
      refine k_iload_n i_97_0 rfl ?_
      refine k_tsI (off := 47) (t := 48) i_97_1 (by omega) (by omega) rfl rfl ?_
      refine k_aload_n i_97_48 rfl ?_
      refine k_gfR i_97_49 f_11_54 (by first | rfl | assumption | (rw [hR]; rfl) | (dsimp only; rw [hR]; rfl)) (by decide) (by decide) (Or.inl ⟨_, rfl⟩) (by first | rfl | assumption | (rw [hR]; rfl) | (dsimp only; rw [hR]; rfl)) ?_
      refine k_gfV (a := (tH σ.T)) i_97_52 f_11_259 (by first | rfl | assumption | (rw [hR]; rfl) | (dsimp only; rw [hR]; rfl)) (by decide) (by decide) (Or.inl rfl) (a1) ?_
      refine k_iret i_97_55 qt_97 ?_
      exact ⟨rfl, _, _, _, hX⟩
    · have hR := hR2
      unfold OM
-- method 146: StraightTaxModel.count.(I)I
      refine k_start ql_146 (Nat.le_of_ble_eq_true rfl) ?_
      simp only [q_en, List.replicate]
      refine k_iload_n i_146_0 rfl ?_
      refine k_tsI (off := 44) (t := 45) i_146_1 (by omega) (by omega) rfl rfl ?_
      refine k_aload_n i_146_45 rfl ?_
      refine k_gfV (a := (tH σ.T)) i_146_46 f_12_13 (by first | rfl | assumption | (rw [hR]; rfl) | (dsimp only; rw [hR]; rfl)) (by decide) (by decide) (Or.inl rfl) (m1) ?_
      refine k_iret i_146_49 qt_146 ?_
      exact ⟨rfl, hM⟩
  · refine ⟨.int (J (tCnt σ.T 1 (tN σ.T).toNat)), σ, hS, ?_, ?_⟩
    · unfold OX
-- method 97: StraightTax.count.(I)I
      refine k_start ql_97 (Nat.le_of_ble_eq_true rfl) ?_
      simp only [q_en, List.replicate]
      refine k_iload_n i_97_0 rfl ?_
      refine k_tsI (off := 55) (t := 56) i_97_1 (by omega) (by omega) rfl rfl ?_
      refine k_aload_n i_97_56 rfl ?_
      refine k_gfR i_97_57 f_11_54 (by first | rfl | assumption | (rw [hR]; rfl) | (dsimp only; rw [hR]; rfl)) (by decide) (by decide) (Or.inl ⟨_, rfl⟩) (by first | rfl | assumption | (rw [hR]; rfl) | (dsimp only; rw [hR]; rfl)) ?_
      refine k_iconst i_97_60 ?_
      refine k_vp1 i_97_61 c_11_262 qp_39 qo_39 (by first | rfl | assumption | (rw [hR]; rfl) | (dsimp only; rw [hR]; rfl)) (Nat.le_of_ble_eq_true rfl) (e_countOf hX.ta hw _ (by omega)) ?_
      refine k_iret i_97_64 qt_97 ?_
      exact ⟨rfl, _, _, _, hX⟩
    · have hR := hR2
      rw [cnt_ones hS.ok (by decide)]
      unfold OM
-- method 146: StraightTaxModel.count.(I)I
      refine k_start ql_146 (Nat.le_of_ble_eq_true rfl) ?_
      simp only [q_en, List.replicate]
      refine k_iload_n i_146_0 rfl ?_
      refine k_tsI (off := 49) (t := 50) i_146_1 (by omega) (by omega) rfl rfl ?_
      refine k_aload_n i_146_50 rfl ?_
      refine k_gfV (a := (tMask σ.T 1 : Int)) i_146_51 f_12_80 (by first | rfl | assumption | (rw [hR]; rfl) | (dsimp only; rw [hR]; rfl)) (by decide) (by decide) (Or.inl rfl) (m2) ?_
      refine k_sp1 i_146_54 c_12_223 (by decide) qp_136 (Nat.le_of_ble_eq_true rfl) (m_ones (by have := tMask_lt σ.T 1; omega)) ?_
      refine k_iret i_146_57 qt_146 ?_
      exact ⟨rfl, hM⟩
  · refine ⟨.int (J (tCnt σ.T 2 (tN σ.T).toNat)), σ, hS, ?_, ?_⟩
    · unfold OX
-- method 97: StraightTax.count.(I)I
      refine k_start ql_97 (Nat.le_of_ble_eq_true rfl) ?_
      simp only [q_en, List.replicate]
      refine k_iload_n i_97_0 rfl ?_
      refine k_tsI (off := 64) (t := 65) i_97_1 (by omega) (by omega) rfl rfl ?_
      refine k_aload_n i_97_65 rfl ?_
      refine k_gfR i_97_66 f_11_54 (by first | rfl | assumption | (rw [hR]; rfl) | (dsimp only; rw [hR]; rfl)) (by decide) (by decide) (Or.inl ⟨_, rfl⟩) (by first | rfl | assumption | (rw [hR]; rfl) | (dsimp only; rw [hR]; rfl)) ?_
      refine k_iconst i_97_69 ?_
      refine k_vp1 i_97_70 c_11_262 qp_39 qo_39 (by first | rfl | assumption | (rw [hR]; rfl) | (dsimp only; rw [hR]; rfl)) (Nat.le_of_ble_eq_true rfl) (e_countOf hX.ta hw _ (by omega)) ?_
      refine k_iret i_97_73 qt_97 ?_
      exact ⟨rfl, _, _, _, hX⟩
    · have hR := hR2
      rw [cnt_ones hS.ok (by decide)]
      unfold OM
-- method 146: StraightTaxModel.count.(I)I
      refine k_start ql_146 (Nat.le_of_ble_eq_true rfl) ?_
      simp only [q_en, List.replicate]
      refine k_iload_n i_146_0 rfl ?_
      refine k_tsI (off := 57) (t := 58) i_146_1 (by omega) (by omega) rfl rfl ?_
      refine k_aload_n i_146_58 rfl ?_
      refine k_gfV (a := (tMask σ.T 2 : Int)) i_146_59 f_12_167 (by first | rfl | assumption | (rw [hR]; rfl) | (dsimp only; rw [hR]; rfl)) (by decide) (by decide) (Or.inl rfl) (m3) ?_
      refine k_sp1 i_146_62 c_12_223 (by decide) qp_136 (Nat.le_of_ble_eq_true rfl) (m_ones (by have := tMask_lt σ.T 2; omega)) ?_
      refine k_iret i_146_65 qt_146 ?_
      exact ⟨rfl, hM⟩
  · refine ⟨.int (J (σ.en : Int)), σ, hS, ?_, ?_⟩
    · unfold OX
-- method 97: StraightTax.count.(I)I
      refine k_start ql_97 (Nat.le_of_ble_eq_true rfl) ?_
      simp only [q_en, List.replicate]
      refine k_iload_n i_97_0 rfl ?_
      refine k_tsI (off := 73) (t := 74) i_97_1 (by omega) (by omega) rfl rfl ?_
      refine k_aload_n i_97_74 rfl ?_
      refine k_gfR i_97_75 f_11_34 (by first | rfl | assumption | (rw [hR]; rfl) | (dsimp only; rw [hR]; rfl)) (by decide) (by decide) (Or.inl ⟨_, rfl⟩) (by first | rfl | assumption | (rw [hR]; rfl) | (dsimp only; rw [hR]; rfl)) ?_
      refine k_gfV (a := (σ.en : Int)) i_97_78 f_11_103 (by first | rfl | assumption | (rw [hR]; rfl) | (dsimp only; rw [hR]; rfl)) (by decide) (by decide) (Or.inl rfl) (hX.er.1) ?_
      refine k_iret i_97_81 qt_97 ?_
      exact ⟨rfl, _, _, _, hX⟩
    · have hR := hR2
      unfold OM
-- method 146: StraightTaxModel.count.(I)I
      refine k_start ql_146 (Nat.le_of_ble_eq_true rfl) ?_
      simp only [q_en, List.replicate]
      refine k_iload_n i_146_0 rfl ?_
      refine k_tsI (off := 65) (t := 66) i_146_1 (by omega) (by omega) rfl rfl ?_
      refine k_aload_n i_146_66 rfl ?_
      refine k_gfV (a := (σ.en : Int)) i_146_67 f_12_176 (by first | rfl | assumption | (rw [hR]; rfl) | (dsimp only; rw [hR]; rfl)) (by decide) (by decide) (Or.inl rfl) (hM.er.1) ?_
      refine k_iret i_146_70 qt_146 ?_
      exact ⟨rfl, hM⟩
  · refine ⟨.int (J (σ.tl : Int)), σ, hS, ?_, ?_⟩
    · unfold OX
-- method 97: StraightTax.count.(I)I
      refine k_start ql_97 (Nat.le_of_ble_eq_true rfl) ?_
      simp only [q_en, List.replicate]
      refine k_iload_n i_97_0 rfl ?_
      refine k_tsI (off := 81) (t := 82) i_97_1 (by omega) (by omega) rfl rfl ?_
      refine k_aload_n i_97_82 rfl ?_
      refine k_gfR i_97_83 f_11_12 (by first | rfl | assumption | (rw [hR]; rfl) | (dsimp only; rw [hR]; rfl)) (by decide) (by decide) (Or.inl ⟨_, rfl⟩) (by first | rfl | assumption | (rw [hR]; rfl) | (dsimp only; rw [hR]; rfl)) ?_
      refine k_gfV (a := (σ.tl : Int)) i_97_86 f_11_85 (by first | rfl | assumption | (rw [hR]; rfl) | (dsimp only; rw [hR]; rfl)) (by decide) (by decide) (Or.inl rfl) (hX.tl) ?_
      refine k_iret i_97_89 qt_97 ?_
      exact ⟨rfl, _, _, _, hX⟩
    · have hR := hR2
      unfold OM
-- method 146: StraightTaxModel.count.(I)I
      refine k_start ql_146 (Nat.le_of_ble_eq_true rfl) ?_
      simp only [q_en, List.replicate]
      refine k_iload_n i_146_0 rfl ?_
      refine k_tsI (off := 70) (t := 71) i_146_1 (by omega) (by omega) rfl rfl ?_
      refine k_aload_n i_146_71 rfl ?_
      refine k_gfV (a := (σ.tl : Int)) i_146_72 f_12_89 (by first | rfl | assumption | (rw [hR]; rfl) | (dsimp only; rw [hR]; rfl)) (by decide) (by decide) (Or.inl rfl) (hM.tl) ?_
      refine k_iret i_146_75 qt_146 ?_
      exact ⟨rfl, hM⟩
  · refine ⟨.int (J (-1)), σ, hS, ?_, ?_⟩
    · unfold OX
-- method 97: StraightTax.count.(I)I
      refine k_start ql_97 (Nat.le_of_ble_eq_true rfl) ?_
      simp only [q_en, List.replicate]
      refine k_iload_n i_97_0 rfl ?_
      refine k_tsO (t := 90) i_97_1 (by omega) (by omega) rfl ?_
      refine k_iconst i_97_90 ?_
      refine k_iret i_97_91 qt_97 ?_
      exact ⟨rfl, _, _, _, hX⟩
    · have hR := hR2
      unfold OM
-- method 146: StraightTaxModel.count.(I)I
      refine k_start ql_146 (Nat.le_of_ble_eq_true rfl) ?_
      simp only [q_en, List.replicate]
      refine k_iload_n i_146_0 rfl ?_
      refine k_tsO (t := 76) i_146_1 (by omega) (by omega) rfl ?_
      refine k_iconst i_146_76 ?_
      refine k_iret i_146_77 qt_146 ?_
      exact ⟨rfl, hM⟩
theorem t_trace (hX : XI σ h0 s0 w0 I X) (hM : MI σ I2 X2) (hS : SOK σ) : Both σ h0 s0 w0 I X I2 X2 98 147 [] := by
  refine ⟨.long σ.mk, σ, hS, ?_, ?_⟩
  · unfold OX
-- method 98: StraightTax.trace.()J
    refine k_start ql_98 (Nat.le_of_ble_eq_true rfl) ?_
    simp only [q_en, List.replicate]
    refine k_aload_n i_98_0 rfl ?_
    refine k_gfL i_98_1 f_11_61 (by first | rfl | assumption | (rw [hR]; rfl) | (dsimp only; rw [hR]; rfl)) (by decide) (by decide) rfl ?_
    refine k_lret i_98_4 qt_98 ?_
    exact ⟨by rw [← hX.mk], _, _, _, hX⟩
  · unfold OM
-- method 147: StraightTaxModel.trace.()J
    refine k_start ql_147 (Nat.le_of_ble_eq_true rfl) ?_
    simp only [q_en, List.replicate]
    refine k_aload_n i_147_0 rfl ?_
    refine k_gfL i_147_1 f_12_229 (by first | rfl | assumption | (rw [hR]; rfl) | (dsimp only; rw [hR]; rfl)) (by decide) (by decide) rfl ?_
    refine k_lret i_147_4 qt_147 ?_
    exact ⟨by rw [← hM.mk], hM⟩
/-! errands -/
abbrev Sg.setE (s : Sg) (n : Nat) (fr to : Nat → Int) : Sg := (s.T, s.tl, s.tb, s.w, s.kp, s.im, n, fr, to, s.mk)
theorem XI.setE {h s w : Nat} {I' : Nat → Nat → Int} {n : Nat} {fr to : Nat → Int} (hX : XI σ h s w I X) (hc : ∀ c, (c < 20 ∨ 24 < c) → I' c = I c) (he : XEr I' n fr to) : XI (σ.setE n fr to) h s w I' X :=
  hX.upd (L := X.1) rfl (fun c hc' => hc c (by omega)) (by rw [hc 1 (by omega)]; exact hX.tl) (by rw [hc 2 (by omega)]; exact hX.tb) (hX.wk.same (fun k hk => hc _ (by omega))) (fun i hi => ⟨by rw [hc 19 (by omega)]; exact (hX.kp i hi).1, fun hk => ((hX.kp i hi).2 hk).same (fun k hk => hc _ (by omega))⟩) he hX.mk
theorem MI.setE {I2' : Nat → Nat → Int} {n : Nat} {fr to : Nat → Int} (hM : MI σ I2 X2) (hc : ∀ c, c = 1 ∨ c = 2 ∨ c = 3 → I2' c = I2 c) (h0 : ∀ k, k ≠ 13 → I2' 0 k = I2 0 k) (he : MEr I2' n fr to) : MI (σ.setE n fr to) I2' X2 :=
  hM.upd (L := X2.1) rfl (fun k hk => h0 k (by omega)) (by rw [h0 10 (by omega)]; exact hM.tl) (by rw [hc 1 (by omega)]; exact hM.tb) (hM.wk.same (hc 2 (by omega))) (fun i hi => ⟨by rw [hc 3 (by omega)]; exact (hM.kp i hi).1, fun hk => ((hM.kp i hi).2 hk).same (hc 2 (by omega))⟩) he hM.mk
theorem t_home (hX : XI σ h0 s0 w0 I X) (hM : MI σ I2 X2) (hS : SOK σ) : Both σ h0 s0 w0 I X I2 X2 90 139 [] := by
  refine ⟨.int (J (σ.en : Int)), σ.setE 0 (fun _ => 0) (fun _ => 0), ⟨hS.ok, hS.tl, hS.tb, hS.wk, hS.im, Nat.zero_le _, fun e he => absurd he (Nat.not_lt_zero e)⟩, ?_, ?_⟩
  · have hR := hX.rf
    unfold OX
-- method 90: StraightTax.home.()I
    refine k_start ql_90 (Nat.le_of_ble_eq_true rfl) ?_
    simp only [q_en, List.replicate]
    refine k_aload_n i_90_0 rfl ?_
    refine k_gfR i_90_1 f_11_34 (by first | rfl | assumption | (rw [hR]; rfl) | (dsimp only; rw [hR]; rfl)) (by decide) (by decide) (Or.inl ⟨_, rfl⟩) (by first | rfl | assumption | (rw [hR]; rfl) | (dsimp only; rw [hR]; rfl)) ?_
    refine k_gfV (a := (σ.en : Int)) i_90_4 f_11_103 (by first | rfl | assumption | (rw [hR]; rfl) | (dsimp only; rw [hR]; rfl)) (by decide) (by decide) (Or.inl rfl) (hX.er.1) ?_
    refine k_istore_n i_90_7 (Nat.le_of_ble_eq_true rfl) ?_
    dsimp only [q_st1, q_st2, q_unl]
    refine k_aload_n i_90_8 rfl ?_
    refine k_gfR i_90_9 f_11_34 (by first | rfl | assumption | (rw [hR]; rfl) | (dsimp only; rw [hR]; rfl)) (by decide) (by decide) (Or.inl ⟨_, rfl⟩) (by first | rfl | assumption | (rw [hR]; rfl) | (dsimp only; rw [hR]; rfl)) ?_
    refine k_iconst i_90_12 ?_
    refine k_pfI i_90_13 f_11_103 (by first | rfl | assumption | (rw [hR]; rfl) | (dsimp only; rw [hR]; rfl)) (by decide) rfl ?_
    refine k_iload_n i_90_16 rfl ?_
    refine k_iret i_90_17 qt_90 ?_
    exact ⟨rfl, _, _, _, hX.setE (fun c hc => q_up_o (by omega)) ⟨rfl, fun e he => absurd he (Nat.not_lt_zero e)⟩⟩
  · have hR := hM.rf
    unfold OM
-- method 139: StraightTaxModel.home.()I
    refine k_start ql_139 (Nat.le_of_ble_eq_true rfl) ?_
    simp only [q_en, List.replicate]
    refine k_aload_n i_139_0 rfl ?_
    refine k_gfV (a := (σ.en : Int)) i_139_1 f_12_176 (by first | rfl | assumption | (rw [hR]; rfl) | (dsimp only; rw [hR]; rfl)) (by decide) (by decide) (Or.inl rfl) (hM.er.1) ?_
    refine k_istore_n i_139_4 (Nat.le_of_ble_eq_true rfl) ?_
    dsimp only [q_st1, q_st2, q_unl]
    refine k_aload_n i_139_5 rfl ?_
    refine k_iconst i_139_6 ?_
    refine k_pfI i_139_7 f_12_176 (by first | rfl | assumption | (rw [hR]; rfl) | (dsimp only; rw [hR]; rfl)) (by decide) rfl ?_
    refine k_iload_n i_139_10 rfl ?_
    refine k_iret i_139_11 qt_139 ?_
    exact ⟨rfl, hM.setE (fun c hc => q_up_o (by omega)) (fun k hk => q_up_n (by omega)) ⟨rfl, fun e he => absurd he (Nat.not_lt_zero e)⟩⟩
-- method 4: StraightTax$Errands.add.(II)Z
theorem e_add {h s w : Nat} (hR : X.2 = rX h s w) {n : Nat} (hE : I 20 0 = (n : Int)) (h6 : n < 6) (a b : Int) : KC shX d 4 [.ref 20, .int (J a), .int (J b)] (I, X) (fun r S2 => r = some (.int (J 1)) ∧ S2 = (q_up (q_up (q_up I 21 n a) 22 n b) 20 0 (n + 1), X)) := by
  refine k_start ql_4 (Nat.le_of_ble_eq_true rfl) ?_
  simp only [q_en, List.replicate]
  refine k_aload_n i_4_0 rfl ?_
  refine k_gfV (a := (n : Int)) i_4_1 f_4_9 (by first | rfl | assumption | (rw [hR]; rfl) | (dsimp only; rw [hR]; rfl)) (by decide) (by decide) (Or.inl rfl) (hE) ?_
  refine k_if_lt (t := 16) i_4_4 rfl (by omega) (fun h => ?_) (fun h => ?_)
  · omega
  · refine k_aload_n i_4_7 rfl ?_
    refine k_gfV (a := (n : Int)) i_4_8 f_4_9 (by first | rfl | assumption | (rw [hR]; rfl) | (dsimp only; rw [hR]; rfl)) (by decide) (by decide) (Or.inl rfl) (hE) ?_
    refine k_bipush i_4_11 (by decide) ?_
    refine k_ic_lt (t := 18) i_4_13 rfl (by omega) (by omega) (fun g => ?_) (fun g => ?_)
    · refine k_aload_n i_4_18 rfl ?_
      refine k_gfR i_4_19 f_4_15 (by first | rfl | assumption | (rw [hR]; rfl) | (dsimp only; rw [hR]; rfl)) (by decide) (by decide) (Or.inr ⟨_, rfl⟩) (by first | rfl | assumption | (rw [hR]; rfl) | (dsimp only; rw [hR]; rfl)) ?_
      refine k_aload_n i_4_22 rfl ?_
      refine k_gfV (a := (n : Int)) i_4_23 f_4_9 (by first | rfl | assumption | (rw [hR]; rfl) | (dsimp only; rw [hR]; rfl)) (by decide) (by decide) (Or.inl rfl) (hE) ?_
      refine k_iload_n i_4_26 rfl ?_
      refine k_iast i_4_27 (by first | rfl | assumption | (rw [hR]; rfl) | (dsimp only; rw [hR]; rfl)) (by decide) (by omega) (by omega) ?_
      refine k_aload_n i_4_28 rfl ?_
      refine k_gfR i_4_29 f_4_19 (by first | rfl | assumption | (rw [hR]; rfl) | (dsimp only; rw [hR]; rfl)) (by decide) (by decide) (Or.inr ⟨_, rfl⟩) (by first | rfl | assumption | (rw [hR]; rfl) | (dsimp only; rw [hR]; rfl)) ?_
      refine k_aload_n i_4_32 rfl ?_
      refine k_gfV (a := (n : Int)) i_4_33 f_4_9 (by first | rfl | assumption | (rw [hR]; rfl) | (dsimp only; rw [hR]; rfl)) (by decide) (by decide) (Or.inl rfl) (hE) ?_
      refine k_iload_n i_4_36 rfl ?_
      refine k_iast i_4_37 (by first | rfl | assumption | (rw [hR]; rfl) | (dsimp only; rw [hR]; rfl)) (by decide) (by omega) (by omega) ?_
      refine k_aload_n i_4_38 rfl ?_
      first | refine k_dupA i_4_39 ?_ | refine k_dupI i_4_39 ?_
      refine k_gfV (a := (n : Int)) i_4_40 f_4_9 (by first | rfl | assumption | (rw [hR]; rfl) | (dsimp only; rw [hR]; rfl)) (by decide) (by decide) (Or.inl rfl) (hE) ?_
      refine k_iconst i_4_43 ?_
      refine k_iadd i_4_44 ?_
      refine k_pfI i_4_45 f_4_9 (by first | rfl | assumption | (rw [hR]; rfl) | (dsimp only; rw [hR]; rfl)) (by decide) rfl ?_
      refine k_iconst i_4_48 ?_
      refine k_nret i_4_49 qt_4 (by first | exact bi_nar _ | rfl) ?_
      exact ⟨rfl, rfl⟩
    · omega
theorem e_addF {h s w : Nat} (hR : X.2 = rX h s w) (hE : I 20 0 = 6) (a b : Int) : KC shX d 4 [.ref 20, .int (J a), .int (J b)] (I, X) (fun r S2 => r = some (.int (J 0)) ∧ S2 = (I, X)) := by
  refine k_start ql_4 (Nat.le_of_ble_eq_true rfl) ?_
  simp only [q_en, List.replicate]
  refine k_aload_n i_4_0 rfl ?_
  refine k_gfV (a := 6) i_4_1 f_4_9 (by first | rfl | assumption | (rw [hR]; rfl) | (dsimp only; rw [hR]; rfl)) (by decide) (by decide) (Or.inl rfl) (hE) ?_
  refine k_if_lt (t := 16) i_4_4 rfl (by omega) (fun h => ?_) (fun h => ?_)
  · omega
  · refine k_aload_n i_4_7 rfl ?_
    refine k_gfV (a := 6) i_4_8 f_4_9 (by first | rfl | assumption | (rw [hR]; rfl) | (dsimp only; rw [hR]; rfl)) (by decide) (by decide) (Or.inl rfl) (hE) ?_
    refine k_bipush i_4_11 (by decide) ?_
    refine k_ic_lt (t := 18) i_4_13 rfl (by omega) (by omega) (fun g => ?_) (fun g => ?_)
    · omega
    · refine k_iconst i_4_16 ?_
      refine k_nret i_4_17 qt_4 (by first | exact bi_nar _ | rfl) ?_
      exact ⟨rfl, rfl⟩
theorem t_errand (hX : XI σ h0 s0 w0 I X) (hM : MI σ I2 X2) (hS : SOK σ) (a b : Int) (ha : inJ a) (hb : inJ b) : Both σ h0 s0 w0 I X I2 X2 89 138 [.int (J a), .int (J b)] := by
  have hR := hX.rf
  have hR2 := hM.rf
  have hw := hS.ok.1
  have h6 := hS.er.1
  by_cases ho : (tOpen σ.T a && tOpen σ.T b) = true
  · by_cases z : σ.en = 6
    · have hE : I 20 0 = 6 := by rw [hX.er.1, z]; rfl
      have hE2 : I2 0 13 = 6 := by rw [hM.er.1, z]; rfl
      refine ⟨.int (J (-3)), σ, hS, ?_, ?_⟩
      · unfold OX
-- method 89: StraightTax.errand.(II)I
        refine k_start ql_89 (Nat.le_of_ble_eq_true rfl) ?_
        simp only [q_en, List.replicate]
        refine k_aload_n i_89_0 rfl ?_
        refine k_iload_n i_89_1 rfl ?_
        refine k_iload_n i_89_2 rfl ?_
        refine k_vp2 i_89_3 c_11_183 qp_82 qo_82 (by first | rfl | assumption | (rw [hR]; rfl) | (dsimp only; rw [hR]; rfl)) (Nat.le_of_ble_eq_true rfl) (e_areEnds hR hX.ta hw a b ha hb) ?_
        refine k_if_neB (t := 11) i_89_6 rfl (fun h => ?_) (fun h => ?_)
        · refine k_aload_n i_89_11 rfl ?_
          refine k_gfR i_89_12 f_11_34 (by first | rfl | assumption | (rw [hR]; rfl) | (dsimp only; rw [hR]; rfl)) (by decide) (by decide) (Or.inl ⟨_, rfl⟩) (by first | rfl | assumption | (rw [hR]; rfl) | (dsimp only; rw [hR]; rfl)) ?_
          refine k_iload_n i_89_15 rfl ?_
          refine k_iload_n i_89_16 rfl ?_
          refine k_cv2 i_89_17 c_11_229 qp_4 qo_4 (by first | rfl | assumption | (rw [hR]; rfl) | (dsimp only; rw [hR]; rfl)) (Nat.le_of_ble_eq_true rfl) (e_addF hR hE a b) (fun v S2 h => ?_)
          obtain ⟨rfl, rfl⟩ := h
          show K shX 21 89 20 _ [.int (J 0)] _ _
          refine k_if_eq (t := 33) i_89_20 rfl (by omega) (fun h => ?_) (fun h => ?_)
          · refine k_bipush i_89_33 (by decide) ?_
            refine k_iret i_89_35 qt_89 ?_
            exact ⟨rfl, _, _, _, hX⟩
          · omega
        · rw [ho] at h; cases h
      · have hR := hR2
        unfold OM
-- method 138: StraightTaxModel.errand.(II)I
        refine k_start ql_138 (Nat.le_of_ble_eq_true rfl) ?_
        simp only [q_en, List.replicate]
        refine k_aload_n i_138_0 rfl ?_
        refine k_iload_n i_138_1 rfl ?_
        refine k_iload_n i_138_2 rfl ?_
        refine k_vp2 i_138_3 c_12_210 qp_126 qo_126 (by first | rfl | assumption | (rw [hR]; rfl) | (dsimp only; rw [hR]; rfl)) (Nat.le_of_ble_eq_true rfl) (m_areOpen hM.mt hw a b ha hb) ?_
        refine k_if_neB (t := 11) i_138_6 rfl (fun h => ?_) (fun h => ?_)
        · refine k_aload_n i_138_11 rfl ?_
          refine k_gfV (a := 6) i_138_12 f_12_176 (by first | rfl | assumption | (rw [hR]; rfl) | (dsimp only; rw [hR]; rfl)) (by decide) (by decide) (Or.inl rfl) (hE2) ?_
          refine k_bipush i_138_15 (by decide) ?_
          refine k_ic_ne (t := 23) i_138_17 rfl (by omega) (by omega) (fun h => ?_) (fun h => ?_)
          · omega
          · refine k_bipush i_138_20 (by decide) ?_
            refine k_iret i_138_22 qt_138 ?_
            exact ⟨rfl, hM⟩
        · rw [ho] at h; cases h
    · have hE2 : I2 0 13 = (σ.en : Int) := hM.er.1
      refine ⟨.int (J ((σ.en : Int) + 1)), σ.setE (σ.en + 1) (fu σ.fr σ.en a) (fu σ.to σ.en b), ⟨hS.ok, hS.tl, hS.tb, hS.wk, hS.im, by show σ.en + 1 ≤ 6; omega, fun e he => ?_⟩, ?_, ?_⟩
      · change e < σ.en + 1 at he
        show tOpen σ.T (fu σ.fr σ.en a e) = true ∧ tOpen σ.T (fu σ.to σ.en b e) = true
        unfold fu
        by_cases y : e = σ.en
        · rw [if_pos y, if_pos y]
          simpa using ho
        · rw [if_neg y, if_neg y]
          exact hS.er.2 e (by omega)
      · unfold OX
-- method 89: StraightTax.errand.(II)I
        refine k_start ql_89 (Nat.le_of_ble_eq_true rfl) ?_
        simp only [q_en, List.replicate]
        refine k_aload_n i_89_0 rfl ?_
        refine k_iload_n i_89_1 rfl ?_
        refine k_iload_n i_89_2 rfl ?_
        refine k_vp2 i_89_3 c_11_183 qp_82 qo_82 (by first | rfl | assumption | (rw [hR]; rfl) | (dsimp only; rw [hR]; rfl)) (Nat.le_of_ble_eq_true rfl) (e_areEnds hR hX.ta hw a b ha hb) ?_
        refine k_if_neB (t := 11) i_89_6 rfl (fun h => ?_) (fun h => ?_)
        · refine k_aload_n i_89_11 rfl ?_
          refine k_gfR i_89_12 f_11_34 (by first | rfl | assumption | (rw [hR]; rfl) | (dsimp only; rw [hR]; rfl)) (by decide) (by decide) (Or.inl ⟨_, rfl⟩) (by first | rfl | assumption | (rw [hR]; rfl) | (dsimp only; rw [hR]; rfl)) ?_
          refine k_iload_n i_89_15 rfl ?_
          refine k_iload_n i_89_16 rfl ?_
          refine k_cv2 i_89_17 c_11_229 qp_4 qo_4 (by first | rfl | assumption | (rw [hR]; rfl) | (dsimp only; rw [hR]; rfl)) (Nat.le_of_ble_eq_true rfl) (e_add hR hX.er.1 (by omega) a b) (fun v S2 h => ?_)
          obtain ⟨rfl, rfl⟩ := h
          show K shX 21 89 20 _ [.int (J 1)] _ _
          refine k_if_eq (t := 33) i_89_20 rfl (by omega) (fun h => ?_) (fun h => ?_)
          · omega
          · refine k_aload_n i_89_23 rfl ?_
            refine k_gfR i_89_24 f_11_34 (by first | rfl | assumption | (rw [hR]; rfl) | (dsimp only; rw [hR]; rfl)) (by decide) (by decide) (Or.inl ⟨_, rfl⟩) (by first | rfl | assumption | (rw [hR]; rfl) | (dsimp only; rw [hR]; rfl)) ?_
            refine k_gfV (a := ((σ.en : Int) + 1)) i_89_27 f_11_103 (by first | rfl | assumption | (rw [hR]; rfl) | (dsimp only; rw [hR]; rfl)) (by decide) (by decide) (Or.inl rfl) (rfl) ?_
            refine k_goto (t := 35) i_89_30 rfl ?_
            refine k_iret i_89_35 qt_89 ?_
            refine ⟨rfl, _, _, _, hX.setE (fun c hc => (q_up_o (by omega)).trans ((q_up_o (by omega)).trans (q_up_o (by omega)))) ⟨rfl, fun e he => ?_⟩⟩
            show q_up I 21 σ.en a 21 e = fu σ.fr σ.en a e ∧ q_up I 22 σ.en b 22 e = fu σ.to σ.en b e
            unfold fu
            by_cases y : e = σ.en
            · subst y
              rw [if_pos rfl, if_pos rfl, q_up_s, q_up_s]
              exact ⟨rfl, rfl⟩
            · rw [if_neg y, if_neg y, q_up_n (by omega), q_up_n (by omega)]
              exact hX.er.2 e (by omega)
        · rw [ho] at h; cases h
      · have hR := hR2
        unfold OM
-- method 138: StraightTaxModel.errand.(II)I
        refine k_start ql_138 (Nat.le_of_ble_eq_true rfl) ?_
        simp only [q_en, List.replicate]
        refine k_aload_n i_138_0 rfl ?_
        refine k_iload_n i_138_1 rfl ?_
        refine k_iload_n i_138_2 rfl ?_
        refine k_vp2 i_138_3 c_12_210 qp_126 qo_126 (by first | rfl | assumption | (rw [hR]; rfl) | (dsimp only; rw [hR]; rfl)) (Nat.le_of_ble_eq_true rfl) (m_areOpen hM.mt hw a b ha hb) ?_
        refine k_if_neB (t := 11) i_138_6 rfl (fun h => ?_) (fun h => ?_)
        · refine k_aload_n i_138_11 rfl ?_
          refine k_gfV (a := (σ.en : Int)) i_138_12 f_12_176 (by first | rfl | assumption | (rw [hR]; rfl) | (dsimp only; rw [hR]; rfl)) (by decide) (by decide) (Or.inl rfl) (hE2) ?_
          refine k_bipush i_138_15 (by decide) ?_
          refine k_ic_ne (t := 23) i_138_17 rfl (by omega) (by omega) (fun h => ?_) (fun h => ?_)
          · refine k_aload_n i_138_23 rfl ?_
            refine k_gfR i_138_24 f_12_36 (by first | rfl | assumption | (rw [hR]; rfl) | (dsimp only; rw [hR]; rfl)) (by decide) (by decide) (Or.inr ⟨_, rfl⟩) (by first | rfl | assumption | (rw [hR]; rfl) | (dsimp only; rw [hR]; rfl)) ?_
            refine k_aload_n i_138_27 rfl ?_
            refine k_gfV (a := (σ.en : Int)) i_138_28 f_12_176 (by first | rfl | assumption | (rw [hR]; rfl) | (dsimp only; rw [hR]; rfl)) (by decide) (by decide) (Or.inl rfl) (hE2) ?_
            refine k_iload_n i_138_31 rfl ?_
            refine k_iast i_138_32 (by first | rfl | assumption | (rw [hR]; rfl) | (dsimp only; rw [hR]; rfl)) (by decide) (by omega) (by omega) ?_
            refine k_aload_n i_138_33 rfl ?_
            refine k_gfR i_138_34 f_12_39 (by first | rfl | assumption | (rw [hR]; rfl) | (dsimp only; rw [hR]; rfl)) (by decide) (by decide) (Or.inr ⟨_, rfl⟩) (by first | rfl | assumption | (rw [hR]; rfl) | (dsimp only; rw [hR]; rfl)) ?_
            refine k_aload_n i_138_37 rfl ?_
            refine k_gfV (a := (σ.en : Int)) i_138_38 f_12_176 (by first | rfl | assumption | (rw [hR]; rfl) | (dsimp only; rw [hR]; rfl)) (by decide) (by decide) (Or.inl rfl) (hE2) ?_
            refine k_iload_n i_138_41 rfl ?_
            refine k_iast i_138_42 (by first | rfl | assumption | (rw [hR]; rfl) | (dsimp only; rw [hR]; rfl)) (by decide) (by omega) (by omega) ?_
            refine k_aload_n i_138_43 rfl ?_
            first | refine k_dupA i_138_44 ?_ | refine k_dupI i_138_44 ?_
            refine k_gfV (a := (σ.en : Int)) i_138_45 f_12_176 (by first | rfl | assumption | (rw [hR]; rfl) | (dsimp only; rw [hR]; rfl)) (by decide) (by decide) (Or.inl rfl) (hE2) ?_
            refine k_iconst i_138_48 ?_
            refine k_iadd i_138_49 ?_
            refine k_pfI i_138_50 f_12_176 (by first | rfl | assumption | (rw [hR]; rfl) | (dsimp only; rw [hR]; rfl)) (by decide) rfl ?_
            refine k_aload_n i_138_53 rfl ?_
            refine k_gfV (a := ((σ.en : Int) + 1)) i_138_54 f_12_176 (by first | rfl | assumption | (rw [hR]; rfl) | (dsimp only; rw [hR]; rfl)) (by decide) (by decide) (Or.inl rfl) (rfl) ?_
            refine k_iret i_138_57 qt_138 ?_
            refine ⟨rfl, hM.setE (fun c hc => (q_up_o (by omega)).trans ((q_up_o (by omega)).trans (q_up_o (by omega)))) (fun k hk => (q_up_n (by omega)).trans rfl) ⟨rfl, fun e he => ?_⟩⟩
            show q_up I2 4 σ.en a 4 e = fu σ.fr σ.en a e ∧ q_up I2 5 σ.en b 5 e = fu σ.to σ.en b e
            unfold fu
            by_cases y : e = σ.en
            · subst y
              rw [if_pos rfl, if_pos rfl, q_up_s, q_up_s]
              exact ⟨rfl, rfl⟩
            · rw [if_neg y, if_neg y, q_up_n (by omega), q_up_n (by omega)]
              exact hM.er.2 e (by omega)
          · omega
        · rw [ho] at h; cases h
  · refine ⟨.int (J (-1)), σ, hS, ?_, ?_⟩
    · unfold OX
-- method 89: StraightTax.errand.(II)I
      refine k_start ql_89 (Nat.le_of_ble_eq_true rfl) ?_
      simp only [q_en, List.replicate]
      refine k_aload_n i_89_0 rfl ?_
      refine k_iload_n i_89_1 rfl ?_
      refine k_iload_n i_89_2 rfl ?_
      refine k_vp2 i_89_3 c_11_183 qp_82 qo_82 (by first | rfl | assumption | (rw [hR]; rfl) | (dsimp only; rw [hR]; rfl)) (Nat.le_of_ble_eq_true rfl) (e_areEnds hR hX.ta hw a b ha hb) ?_
      refine k_if_neB (t := 11) i_89_6 rfl (fun h => ?_) (fun h => ?_)
      · exact absurd h ho
      · refine k_iconst i_89_9 ?_
        refine k_iret i_89_10 qt_89 ?_
        exact ⟨rfl, _, _, _, hX⟩
    · have hR := hR2
      unfold OM
-- method 138: StraightTaxModel.errand.(II)I
      refine k_start ql_138 (Nat.le_of_ble_eq_true rfl) ?_
      simp only [q_en, List.replicate]
      refine k_aload_n i_138_0 rfl ?_
      refine k_iload_n i_138_1 rfl ?_
      refine k_iload_n i_138_2 rfl ?_
      refine k_vp2 i_138_3 c_12_210 qp_126 qo_126 (by first | rfl | assumption | (rw [hR]; rfl) | (dsimp only; rw [hR]; rfl)) (Nat.le_of_ble_eq_true rfl) (m_areOpen hM.mt hw a b ha hb) ?_
      refine k_if_neB (t := 11) i_138_6 rfl (fun h => ?_) (fun h => ?_)
      · exact absurd h ho
      · refine k_iconst i_138_9 ?_
        refine k_iret i_138_10 qt_138 ?_
        exact ⟨rfl, hM⟩
end TE
