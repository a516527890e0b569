/-! CALLS: step, one, square, law, count, trace, errand, home -/
section TD
variable {σ : Sg} {h0 s0 w0 d n : Nat} {I : Nat → Nat → Int} {X : XX} {I2 : Nat → Nat → Int} {X2 : XX}
theorem t_step (hX : XI σ h0 s0 w0 I X) (hM : MI σ I2 X2) (hS : SOK σ) (q : Int) (hq : inJ q) : Both σ h0 s0 w0 I X I2 X2 73 116 [.int (J q)] := by
  obtain ⟨s1, s2, s3, q1, q2, a0, a1, a2, a3, a4, a5, a6, ag⟩ := id hX.ta
  have hw := hS.ok.1
  have hN := tN_le hw
  have hk := hS.wk
  have hwk := hX.wk
  have h60 := hk.n60
  have hmk := hM.wk
  have m5 := hmk.2.2.2.2
  have hpr := hk.pr hw
  have hlr := hk.lr
  have hld := hk.ld
  have hpos : I 3 0 = σ.w.pos := hwk.1
  have hn : I 3 2 = (σ.w.n : Int) := hwk.2.2.1
  have hnt : I 3 3 = σ.w.nt := hwk.2.2.2.1
  have hn2 : I2 2 3 = (σ.w.n : Int) := hmk.2.2.2.1
  have hR := hX.rf
  have hR2 := hM.rf
  by_cases zq : 0 ≤ q ∧ q < 4
  · have hah := tAh_pos hw hk zq
    have hnr := nx_range hw σ.w.pos q
    by_cases zt : σ.w.pos = -1 ∨ nx σ.T σ.w.pos q < 0
    · refine ⟨.int (J (-2)), σ, hS, ?_, ?_⟩
      · have hah2 : tAh σ.T σ.w.pos q = -1 := by
          rw [hah]
          split
          · rfl
          · omega
        unfold OX
-- method 73: StraightTax.step.(I)I
        refine k_start ql_73 (Nat.le_of_ble_eq_true rfl) ?_
        simp only [q_en, List.replicate]
        refine k_iload_n i_73_0 rfl ?_
        refine k_sp1 i_73_1 c_11_135 (by decide) qp_74 (Nat.le_of_ble_eq_true rfl) (e_isDir _ hq) ?_
        refine k_if_neB (t := 9) i_73_4 rfl (fun h => ?_) (fun h => ?_)
        · refine k_aload_n i_73_9 rfl ?_
          refine k_gfR i_73_10 f_11_54 (by first | rfl | assumption | (rw [hR]; rfl) | (dsimp only; rw [hR]; rfl)) (by decide) (by decide) (Or.inl ⟨_, rfl⟩) (by first | rfl | assumption | (rw [hR]; rfl) | (dsimp only; rw [hR]; rfl)) ?_
          refine k_aload_n i_73_13 rfl ?_
          refine k_gfR i_73_14 f_11_19 (by first | rfl | assumption | (rw [hR]; rfl) | (dsimp only; rw [hR]; rfl)) (by decide) (by decide) (Or.inl ⟨_, rfl⟩) (by first | rfl | assumption | (rw [hR]; rfl) | (dsimp only; rw [hR]; rfl)) ?_
          refine k_gfV (a := σ.w.pos) i_73_17 f_11_132 (by first | rfl | assumption | (rw [hR]; rfl) | (dsimp only; rw [hR]; rfl)) (by decide) (by decide) (Or.inl rfl) (hpos) ?_
          refine k_iload_n i_73_20 rfl ?_
          refine k_vp2 i_73_21 c_11_138 qp_32 qo_32 (by first | rfl | assumption | (rw [hR]; rfl) | (dsimp only; rw [hR]; rfl)) (Nat.le_of_ble_eq_true rfl) (e_ahead hX.ta hX.tn _ _ (by omega) hq) ?_
          rw [hah2]
          refine k_istore_n i_73_24 (Nat.le_of_ble_eq_true rfl) ?_
          dsimp only [q_st1, q_st2, q_unl]
          refine k_iload_n i_73_25 rfl ?_
          refine k_iconst i_73_26 ?_
          refine k_ic_ne (t := 33) i_73_27 rfl (by omega) (by omega) (fun h => ?_) (fun h => ?_)
          · omega
          · refine k_bipush i_73_30 (by decide) ?_
            refine k_iret i_73_32 qt_73 ?_
            exact ⟨rfl, _, _, _, hX⟩
        · rw [isDir, decide_eq_true zq] at h; cases h
      · have hR := hR2
        unfold OM
-- method 116: StraightTaxModel.step.(I)I
        refine k_start ql_116 (Nat.le_of_ble_eq_true rfl) ?_
        simp only [q_en, List.replicate]
        refine k_iload_n i_116_0 rfl ?_
        refine k_i2lJ i_116_1 (by omega) ?_
        refine k_lconstJ (a := 0) i_116_2 rfl ?_
        refine k_ldc2J (a := 3) i_116_3 l_12_185 (by decide) ?_
        refine k_sp3 i_116_6 c_12_72 (by decide) qp_100 (Nat.le_of_ble_eq_true rfl) (m_in _ _ _ (by omega) (by omega) (by omega)) ?_
        refine k_if_neB (t := 14) i_116_9 rfl (fun h => ?_) (fun h => ?_)
        · refine k_aload_n i_116_14 rfl ?_
          refine k_gfR i_116_15 f_12_29 (by first | rfl | assumption | (rw [hR]; rfl) | (dsimp only; rw [hR]; rfl)) (by decide) (by decide) (Or.inr ⟨_, rfl⟩) (by first | rfl | assumption | (rw [hR]; rfl) | (dsimp only; rw [hR]; rfl)) ?_
          refine k_iconst i_116_18 ?_
          refine k_ialV (a := (if σ.w.pos = -1 then -9 else σ.w.pos)) i_116_19 (by first | rfl | assumption | (rw [hR]; rfl) | (dsimp only; rw [hR]; rfl)) (by decide) (by omega) (by omega) (hmk.1) ?_
          refine k_bipush i_116_20 (by decide) ?_
          refine k_ic_ne (t := 29) i_116_22 rfl (by split <;> omega) (by omega) (fun h => ?_) (fun h => ?_)
          · have y : ¬ σ.w.pos = -1 := fun y => h (by rw [if_pos y])
            rw [if_neg y] at h
            refine k_aload_n i_116_29 rfl ?_
            refine k_aload_n i_116_30 rfl ?_
            refine k_gfR i_116_31 f_12_29 (by first | rfl | assumption | (rw [hR]; rfl) | (dsimp only; rw [hR]; rfl)) (by decide) (by decide) (Or.inr ⟨_, rfl⟩) (by first | rfl | assumption | (rw [hR]; rfl) | (dsimp only; rw [hR]; rfl)) ?_
            refine k_iconst i_116_34 ?_
            refine k_ialV (a := σ.w.pos) i_116_35 (by first | rfl | assumption | (rw [hR]; rfl) | (dsimp only; rw [hR]; rfl)) (by decide) (by omega) (by omega) (by refine hmk.1.trans (if_neg y)) ?_
            refine k_iload_n i_116_36 rfl ?_
            refine k_vp2 i_116_37 c_12_187 qp_117 qo_117 (by first | rfl | assumption | (rw [hR]; rfl) | (dsimp only; rw [hR]; rfl)) (Nat.le_of_ble_eq_true rfl) (m_to hM.mt hw _ _ (by rcases hk.pos with y' | y'; exact absurd y'.1 y; exact open_lt y') hq) ?_
            refine k_istore_n i_116_40 (Nat.le_of_ble_eq_true rfl) ?_
            dsimp only [q_st1, q_st2, q_unl]
            refine k_iload_n i_116_41 rfl ?_
            refine k_if_ge (t := 48) i_116_42 rfl (by omega) (fun g => ?_) (fun g => ?_)
            · omega
            · refine k_bipush i_116_45 (by decide) ?_
              refine k_iret i_116_47 qt_116 ?_
              exact ⟨rfl, hM⟩
          · refine k_iconst i_116_25 ?_
            refine k_goto (t := 40) i_116_26 rfl ?_
            refine k_istore_n i_116_40 (Nat.le_of_ble_eq_true rfl) ?_
            dsimp only [q_st1, q_st2, q_unl]
            refine k_iload_n i_116_41 rfl ?_
            refine k_if_ge (t := 48) i_116_42 rfl (by omega) (fun g => ?_) (fun g => ?_)
            · omega
            · refine k_bipush i_116_45 (by decide) ?_
              refine k_iret i_116_47 qt_116 ?_
              exact ⟨rfl, hM⟩
        · rw [decide_eq_true (by omega)] at h; cases h
    · have y : ¬ σ.w.pos = -1 := fun y => zt (Or.inl y)
      have zt2 : 0 ≤ nx σ.T σ.w.pos q := by omega
      have ho : tOpen σ.T σ.w.pos = true := by
        rcases hk.pos with y' | y'
        · exact absurd y'.1 y
        · exact y'
      have hah2 : tAh σ.T σ.w.pos q = nx σ.T σ.w.pos q := by rw [hah, if_neg y]
      have hp2 : I2 2 0 = σ.w.pos := hmk.1.trans (if_neg y)
      by_cases z60 : σ.w.n = 60
      · refine ⟨.int (J (-3)), σ, hS, ?_, ?_⟩
        · unfold OX
-- method 73: StraightTax.step.(I)I
          refine k_start ql_73 (Nat.le_of_ble_eq_true rfl) ?_
          simp only [q_en, List.replicate]
          refine k_iload_n i_73_0 rfl ?_
          refine k_sp1 i_73_1 c_11_135 (by decide) qp_74 (Nat.le_of_ble_eq_true rfl) (e_isDir _ hq) ?_
          refine k_if_neB (t := 9) i_73_4 rfl (fun h => ?_) (fun h => ?_)
          · refine k_aload_n i_73_9 rfl ?_
            refine k_gfR i_73_10 f_11_54 (by first | rfl | assumption | (rw [hR]; rfl) | (dsimp only; rw [hR]; rfl)) (by decide) (by decide) (Or.inl ⟨_, rfl⟩) (by first | rfl | assumption | (rw [hR]; rfl) | (dsimp only; rw [hR]; rfl)) ?_
            refine k_aload_n i_73_13 rfl ?_
            refine k_gfR i_73_14 f_11_19 (by first | rfl | assumption | (rw [hR]; rfl) | (dsimp only; rw [hR]; rfl)) (by decide) (by decide) (Or.inl ⟨_, rfl⟩) (by first | rfl | assumption | (rw [hR]; rfl) | (dsimp only; rw [hR]; rfl)) ?_
            refine k_gfV (a := σ.w.pos) i_73_17 f_11_132 (by first | rfl | assumption | (rw [hR]; rfl) | (dsimp only; rw [hR]; rfl)) (by decide) (by decide) (Or.inl rfl) (hpos) ?_
            refine k_iload_n i_73_20 rfl ?_
            refine k_vp2 i_73_21 c_11_138 qp_32 qo_32 (by first | rfl | assumption | (rw [hR]; rfl) | (dsimp only; rw [hR]; rfl)) (Nat.le_of_ble_eq_true rfl) (e_ahead hX.ta hX.tn _ _ (by omega) hq) ?_
            rw [hah2]
            refine k_istore_n i_73_24 (Nat.le_of_ble_eq_true rfl) ?_
            dsimp only [q_st1, q_st2, q_unl]
            refine k_iload_n i_73_25 rfl ?_
            refine k_iconst i_73_26 ?_
            refine k_ic_ne (t := 33) i_73_27 rfl (by omega) (by omega) (fun h => ?_) (fun h => ?_)
            · refine k_aload_n i_73_33 rfl ?_
              refine k_gfR i_73_34 f_11_19 (by first | rfl | assumption | (rw [hR]; rfl) | (dsimp only; rw [hR]; rfl)) (by decide) (by decide) (Or.inl ⟨_, rfl⟩) (by first | rfl | assumption | (rw [hR]; rfl) | (dsimp only; rw [hR]; rfl)) ?_
              refine k_gfV (a := (σ.w.n : Int)) i_73_37 f_11_142 (by first | rfl | assumption | (rw [hR]; rfl) | (dsimp only; rw [hR]; rfl)) (by decide) (by decide) (Or.inl rfl) (hn) ?_
              refine k_bipush i_73_40 (by decide) ?_
              refine k_ic_lt (t := 48) i_73_42 rfl (by omega) (by omega) (fun g => ?_) (fun g => ?_)
              · omega
              · refine k_bipush i_73_45 (by decide) ?_
                refine k_iret i_73_47 qt_73 ?_
                exact ⟨rfl, _, _, _, hX⟩
            · omega
          · rw [isDir, decide_eq_true zq] at h; cases h
        · have hR := hR2
          unfold OM
-- method 116: StraightTaxModel.step.(I)I
          refine k_start ql_116 (Nat.le_of_ble_eq_true rfl) ?_
          simp only [q_en, List.replicate]
          refine k_iload_n i_116_0 rfl ?_
          refine k_i2lJ i_116_1 (by omega) ?_
          refine k_lconstJ (a := 0) i_116_2 rfl ?_
          refine k_ldc2J (a := 3) i_116_3 l_12_185 (by decide) ?_
          refine k_sp3 i_116_6 c_12_72 (by decide) qp_100 (Nat.le_of_ble_eq_true rfl) (m_in _ _ _ (by omega) (by omega) (by omega)) ?_
          refine k_if_neB (t := 14) i_116_9 rfl (fun h => ?_) (fun h => ?_)
          · refine k_aload_n i_116_14 rfl ?_
            refine k_gfR i_116_15 f_12_29 (by first | rfl | assumption | (rw [hR]; rfl) | (dsimp only; rw [hR]; rfl)) (by decide) (by decide) (Or.inr ⟨_, rfl⟩) (by first | rfl | assumption | (rw [hR]; rfl) | (dsimp only; rw [hR]; rfl)) ?_
            refine k_iconst i_116_18 ?_
            refine k_ialV (a := σ.w.pos) i_116_19 (by first | rfl | assumption | (rw [hR]; rfl) | (dsimp only; rw [hR]; rfl)) (by decide) (by omega) (by omega) (hp2) ?_
            refine k_bipush i_116_20 (by decide) ?_
            refine k_ic_ne (t := 29) i_116_22 rfl (by omega) (by omega) (fun h => ?_) (fun h => ?_)
            · refine k_aload_n i_116_29 rfl ?_
              refine k_aload_n i_116_30 rfl ?_
              refine k_gfR i_116_31 f_12_29 (by first | rfl | assumption | (rw [hR]; rfl) | (dsimp only; rw [hR]; rfl)) (by decide) (by decide) (Or.inr ⟨_, rfl⟩) (by first | rfl | assumption | (rw [hR]; rfl) | (dsimp only; rw [hR]; rfl)) ?_
              refine k_iconst i_116_34 ?_
              refine k_ialV (a := σ.w.pos) i_116_35 (by first | rfl | assumption | (rw [hR]; rfl) | (dsimp only; rw [hR]; rfl)) (by decide) (by omega) (by omega) (hp2) ?_
              refine k_iload_n i_116_36 rfl ?_
              refine k_vp2 i_116_37 c_12_187 qp_117 qo_117 (by first | rfl | assumption | (rw [hR]; rfl) | (dsimp only; rw [hR]; rfl)) (Nat.le_of_ble_eq_true rfl) (m_to hM.mt hw _ _ (open_lt ho) hq) ?_
              refine k_istore_n i_116_40 (Nat.le_of_ble_eq_true rfl) ?_
              dsimp only [q_st1, q_st2, q_unl]
              refine k_iload_n i_116_41 rfl ?_
              refine k_if_ge (t := 48) i_116_42 rfl (by omega) (fun g => ?_) (fun g => ?_)
              · refine k_aload_n i_116_48 rfl ?_
                refine k_gfR i_116_49 f_12_29 (by first | rfl | assumption | (rw [hR]; rfl) | (dsimp only; rw [hR]; rfl)) (by decide) (by decide) (Or.inr ⟨_, rfl⟩) (by first | rfl | assumption | (rw [hR]; rfl) | (dsimp only; rw [hR]; rfl)) ?_
                refine k_iconst i_116_52 ?_
                refine k_ialV (a := (σ.w.n : Int)) i_116_53 (by first | rfl | assumption | (rw [hR]; rfl) | (dsimp only; rw [hR]; rfl)) (by decide) (by omega) (by omega) (hn2) ?_
                refine k_istore_n i_116_54 (Nat.le_of_ble_eq_true rfl) ?_
                dsimp only [q_st1, q_st2, q_unl]
                refine k_iload_n i_116_55 rfl ?_
                refine k_bipush i_116_56 (by decide) ?_
                refine k_ic_ne (t := 64) i_116_58 rfl (by omega) (by omega) (fun g2 => ?_) (fun g2 => ?_)
                · omega
                · refine k_bipush i_116_61 (by decide) ?_
                  refine k_iret i_116_63 qt_116 ?_
                  exact ⟨rfl, hM⟩
              · omega
            · have := open_lt ho
              omega
          · rw [decide_eq_true (by omega)] at h; cases h
      · have hrb := tRun_rb (T := σ.T) (c := σ.w.pos) (l := wLd σ.w) (r := wLr σ.w) (q := q) hlr.1
        have hpr2 := open_lt ho
        refine ⟨.int (J (tPrice σ.T σ.w.nt (tRun σ.T σ.w.pos (wLd σ.w) (wLr σ.w) q))), σ.setW (wGo σ.T σ.w q), hS.setW (wGo_ok hk zq ho (by omega) zt2), ?_, ?_⟩
        · unfold OX
-- method 73: StraightTax.step.(I)I
          refine k_start ql_73 (Nat.le_of_ble_eq_true rfl) ?_
          simp only [q_en, List.replicate]
          refine k_iload_n i_73_0 rfl ?_
          refine k_sp1 i_73_1 c_11_135 (by decide) qp_74 (Nat.le_of_ble_eq_true rfl) (e_isDir _ hq) ?_
          refine k_if_neB (t := 9) i_73_4 rfl (fun h => ?_) (fun h => ?_)
          · refine k_aload_n i_73_9 rfl ?_
            refine k_gfR i_73_10 f_11_54 (by first | rfl | assumption | (rw [hR]; rfl) | (dsimp only; rw [hR]; rfl)) (by decide) (by decide) (Or.inl ⟨_, rfl⟩) (by first | rfl | assumption | (rw [hR]; rfl) | (dsimp only; rw [hR]; rfl)) ?_
            refine k_aload_n i_73_13 rfl ?_
            refine k_gfR i_73_14 f_11_19 (by first | rfl | assumption | (rw [hR]; rfl) | (dsimp only; rw [hR]; rfl)) (by decide) (by decide) (Or.inl ⟨_, rfl⟩) (by first | rfl | assumption | (rw [hR]; rfl) | (dsimp only; rw [hR]; rfl)) ?_
            refine k_gfV (a := σ.w.pos) i_73_17 f_11_132 (by first | rfl | assumption | (rw [hR]; rfl) | (dsimp only; rw [hR]; rfl)) (by decide) (by decide) (Or.inl rfl) (hpos) ?_
            refine k_iload_n i_73_20 rfl ?_
            refine k_vp2 i_73_21 c_11_138 qp_32 qo_32 (by first | rfl | assumption | (rw [hR]; rfl) | (dsimp only; rw [hR]; rfl)) (Nat.le_of_ble_eq_true rfl) (e_ahead hX.ta hX.tn _ _ (by omega) hq) ?_
            rw [hah2]
            refine k_istore_n i_73_24 (Nat.le_of_ble_eq_true rfl) ?_
            dsimp only [q_st1, q_st2, q_unl]
            refine k_iload_n i_73_25 rfl ?_
            refine k_iconst i_73_26 ?_
            refine k_ic_ne (t := 33) i_73_27 rfl (by omega) (by omega) (fun h => ?_) (fun h => ?_)
            · refine k_aload_n i_73_33 rfl ?_
              refine k_gfR i_73_34 f_11_19 (by first | rfl | assumption | (rw [hR]; rfl) | (dsimp only; rw [hR]; rfl)) (by decide) (by decide) (Or.inl ⟨_, rfl⟩) (by first | rfl | assumption | (rw [hR]; rfl) | (dsimp only; rw [hR]; rfl)) ?_
              refine k_gfV (a := (σ.w.n : Int)) i_73_37 f_11_142 (by first | rfl | assumption | (rw [hR]; rfl) | (dsimp only; rw [hR]; rfl)) (by decide) (by decide) (Or.inl rfl) (hn) ?_
              refine k_bipush i_73_40 (by decide) ?_
              refine k_ic_lt (t := 48) i_73_42 rfl (by omega) (by omega) (fun g => ?_) (fun g => ?_)
              · refine k_aload_n i_73_48 rfl ?_
                refine k_gfR i_73_49 f_11_54 (by first | rfl | assumption | (rw [hR]; rfl) | (dsimp only; rw [hR]; rfl)) (by decide) (by decide) (Or.inl ⟨_, rfl⟩) (by first | rfl | assumption | (rw [hR]; rfl) | (dsimp only; rw [hR]; rfl)) ?_
                refine k_aload_n i_73_52 rfl ?_
                refine k_gfR i_73_53 f_11_19 (by first | rfl | assumption | (rw [hR]; rfl) | (dsimp only; rw [hR]; rfl)) (by decide) (by decide) (Or.inl ⟨_, rfl⟩) (by first | rfl | assumption | (rw [hR]; rfl) | (dsimp only; rw [hR]; rfl)) ?_
                refine k_gfV (a := σ.w.pos) i_73_56 f_11_132 (by first | rfl | assumption | (rw [hR]; rfl) | (dsimp only; rw [hR]; rfl)) (by decide) (by decide) (Or.inl rfl) (hpos) ?_
                refine k_aload_n i_73_59 rfl ?_
                refine k_gfR i_73_60 f_11_19 (by first | rfl | assumption | (rw [hR]; rfl) | (dsimp only; rw [hR]; rfl)) (by decide) (by decide) (Or.inl ⟨_, rfl⟩) (by first | rfl | assumption | (rw [hR]; rfl) | (dsimp only; rw [hR]; rfl)) ?_
                refine k_vp0 i_73_63 c_11_145 qp_41 qo_41 (by first | rfl | assumption | (rw [hR]; rfl) | (dsimp only; rw [hR]; rfl)) (Nat.le_of_ble_eq_true rfl) (e_lastDir hR hwk h60) ?_
                refine k_aload_n i_73_66 rfl ?_
                refine k_gfR i_73_67 f_11_19 (by first | rfl | assumption | (rw [hR]; rfl) | (dsimp only; rw [hR]; rfl)) (by decide) (by decide) (Or.inl ⟨_, rfl⟩) (by first | rfl | assumption | (rw [hR]; rfl) | (dsimp only; rw [hR]; rfl)) ?_
                refine k_vp0 i_73_70 c_11_149 qp_42 qo_42 (by first | rfl | assumption | (rw [hR]; rfl) | (dsimp only; rw [hR]; rfl)) (Nat.le_of_ble_eq_true rfl) (e_lastRun hR hwk h60) ?_
                refine k_iload_n i_73_73 rfl ?_
                refine k_vp4 i_73_74 c_11_152 qp_33 qo_33 (by first | rfl | assumption | (rw [hR]; rfl) | (dsimp only; rw [hR]; rfl)) (Nat.le_of_ble_eq_true rfl) (e_runOf hX.ta hw _ _ _ _ (by omega) (by omega) hq) ?_
                refine k_istore_n i_73_77 (Nat.le_of_ble_eq_true rfl) ?_
                dsimp only [q_st1, q_st2, q_unl]
                refine k_aload_n i_73_78 rfl ?_
                refine k_gfR i_73_79 f_11_54 (by first | rfl | assumption | (rw [hR]; rfl) | (dsimp only; rw [hR]; rfl)) (by decide) (by decide) (Or.inl ⟨_, rfl⟩) (by first | rfl | assumption | (rw [hR]; rfl) | (dsimp only; rw [hR]; rfl)) ?_
                refine k_iload_n i_73_82 rfl ?_
                refine k_aload_n i_73_83 rfl ?_
                refine k_gfR i_73_84 f_11_19 (by first | rfl | assumption | (rw [hR]; rfl) | (dsimp only; rw [hR]; rfl)) (by decide) (by decide) (Or.inl ⟨_, rfl⟩) (by first | rfl | assumption | (rw [hR]; rfl) | (dsimp only; rw [hR]; rfl)) ?_
                refine k_gfV (a := σ.w.nt) i_73_87 f_11_99 (by first | rfl | assumption | (rw [hR]; rfl) | (dsimp only; rw [hR]; rfl)) (by decide) (by decide) (Or.inr rfl) (hnt) ?_
                refine k_vp2 i_73_90 c_11_156 qp_35 qo_35 (by first | rfl | assumption | (rw [hR]; rfl) | (dsimp only; rw [hR]; rfl)) (Nat.le_of_ble_eq_true rfl) (e_price hX.ta hw _ _ (by omega) hk.nt01) ?_
                refine k_istore i_73_93 (Nat.le_of_ble_eq_true rfl) ?_
                dsimp only [q_st1, q_st2, q_unl]
                refine k_aload_n i_73_95 rfl ?_
                refine k_gfR i_73_96 f_11_19 (by first | rfl | assumption | (rw [hR]; rfl) | (dsimp only; rw [hR]; rfl)) (by decide) (by decide) (Or.inl ⟨_, rfl⟩) (by first | rfl | assumption | (rw [hR]; rfl) | (dsimp only; rw [hR]; rfl)) ?_
                refine k_iload_n i_73_99 rfl ?_
                refine k_iload_n i_73_100 rfl ?_
                refine k_iload i_73_101 rfl ?_
                refine k_iload_n i_73_103 rfl ?_
                refine k_cv4 i_73_104 c_11_160 qp_43 qo_43 (by first | rfl | assumption | (rw [hR]; rfl) | (dsimp only; rw [hR]; rfl)) (Nat.le_of_ble_eq_true rfl) (e_go hR hwk (by omega) _ _ _ _) (fun v S2 h => ?_)
                obtain ⟨rfl, rfl⟩ := h
                show K shX 21 73 107 _ [] _ _
                refine k_iload i_73_107 rfl ?_
                refine k_iret i_73_109 qt_73 ?_
                refine ⟨rfl, _, _, _, hX.setW (fun c' hc' => (q_up_o (by omega)).trans ((q_up_o (by omega)).trans ((q_up_o (by omega)).trans ((q_up_o (by omega)).trans ((q_up_o (by omega)).trans ((q_up_o (by omega)).trans (q_up_o (by omega)))))))) ⟨rfl, rfl, rfl, hwk.2.2.2.1, fun i hi => ?_⟩⟩
                change i < σ.w.n + 1 at hi
                show q_up I 4 σ.w.n σ.w.pos 4 i = fu σ.w.p (σ.w.n + 1) _ i ∧ q_up I 5 σ.w.n q 5 i = fu σ.w.d σ.w.n q i ∧ q_up I 6 σ.w.n _ 6 i = fu σ.w.r σ.w.n _ i ∧ q_up I 7 σ.w.n _ 7 i = fu σ.w.f σ.w.n _ i
                by_cases e : i = σ.w.n
                · subst e
                  unfold fu
                  rw [if_neg (by omega), if_pos rfl, if_pos rfl, if_pos rfl, q_up_s, q_up_s, q_up_s, q_up_s, hk.end_]
                  exact ⟨rfl, rfl, rfl, rfl⟩
                · obtain ⟨e1, e2, e3, e4⟩ := hwk.2.2.2.2 i (by omega)
                  unfold fu
                  rw [if_neg (by omega), if_neg e, if_neg e, if_neg e, q_up_n (by omega), q_up_n (by omega), q_up_n (by omega), q_up_n (by omega)]
                  exact ⟨e1, e2, e3, e4⟩
              · omega
            · omega
          · rw [isDir, decide_eq_true zq] at h; cases h
        · have hR := hR2
          have fin : ∀ x : Int, x = tRun σ.T σ.w.pos (wLd σ.w) (wLr σ.w) q → ∀ x4 : Option Value, K shM 21 116 121 [some (.ref 0), some (.int (J q)), some (.int (J (nx σ.T σ.w.pos q))), some (.int (J (σ.w.n : Int))), x4, none] [.int (J x), .ref 0] (I2, X2) (fun r S2 => r = some (.int (J (tPrice σ.T σ.w.nt (tRun σ.T σ.w.pos (wLd σ.w) (wLr σ.w) q)))) ∧ MI (σ.setW (wGo σ.T σ.w q)) S2.1 S2.2) := by
            intro x hx x4
            subst hx
-- method 116: StraightTaxModel.step.(I)I
            refine k_vp1 i_116_121 c_12_194 qp_120 qo_120 (by first | rfl | assumption | (rw [hR]; rfl) | (dsimp only; rw [hR]; rfl)) (Nat.le_of_ble_eq_true rfl) (m_priceOf hM.mt hR hw _ _ hmk.2.2.1 (by omega) hk.nt01) ?_
            refine k_istore i_116_124 (Nat.le_of_ble_eq_true rfl) ?_
            dsimp only [q_st1, q_st2, q_unl]
            refine k_aload_n i_116_126 rfl ?_
            refine k_gfR i_116_127 f_12_29 (by first | rfl | assumption | (rw [hR]; rfl) | (dsimp only; rw [hR]; rfl)) (by decide) (by decide) (Or.inr ⟨_, rfl⟩) (by first | rfl | assumption | (rw [hR]; rfl) | (dsimp only; rw [hR]; rfl)) ?_
            refine k_iconst i_116_130 ?_
            refine k_iload_n i_116_131 rfl ?_
            refine k_iadd i_116_132 ?_
            refine k_iload_n i_116_133 rfl ?_
            refine k_iast i_116_134 (by first | rfl | assumption | (rw [hR]; rfl) | (dsimp only; rw [hR]; rfl)) (by decide) (by omega) (by omega) ?_
            refine k_aload_n i_116_135 rfl ?_
            refine k_gfR i_116_136 f_12_29 (by first | rfl | assumption | (rw [hR]; rfl) | (dsimp only; rw [hR]; rfl)) (by decide) (by decide) (Or.inr ⟨_, rfl⟩) (by first | rfl | assumption | (rw [hR]; rfl) | (dsimp only; rw [hR]; rfl)) ?_
            refine k_bipush i_116_139 (by decide) ?_
            refine k_iload_n i_116_141 rfl ?_
            refine k_iadd i_116_142 ?_
            refine k_iload i_116_143 rfl ?_
            refine k_iast i_116_145 (by first | rfl | assumption | (rw [hR]; rfl) | (dsimp only; rw [hR]; rfl)) (by decide) (by omega) (by omega) ?_
            refine k_aload_n i_116_146 rfl ?_
            refine k_gfR i_116_147 f_12_29 (by first | rfl | assumption | (rw [hR]; rfl) | (dsimp only; rw [hR]; rfl)) (by decide) (by decide) (Or.inr ⟨_, rfl⟩) (by first | rfl | assumption | (rw [hR]; rfl) | (dsimp only; rw [hR]; rfl)) ?_
            refine k_iconst i_116_150 ?_
            refine k_dup2 i_116_151 ?_
            refine k_ialV (a := (σ.w.n : Int)) i_116_152 (by first | rfl | assumption | (rw [hR]; rfl) | (dsimp only; rw [hR]; rfl)) (by decide) (by omega) (by omega) ((q_up_n (by omega)).trans ((q_up_n (by omega)).trans hn2)) ?_
            refine k_iconst i_116_153 ?_
            refine k_iadd i_116_154 ?_
            refine k_iast i_116_155 (by first | rfl | assumption | (rw [hR]; rfl) | (dsimp only; rw [hR]; rfl)) (by decide) (by omega) (by omega) ?_
            refine k_aload_n i_116_156 rfl ?_
            refine k_gfR i_116_157 f_12_29 (by first | rfl | assumption | (rw [hR]; rfl) | (dsimp only; rw [hR]; rfl)) (by decide) (by decide) (Or.inr ⟨_, rfl⟩) (by first | rfl | assumption | (rw [hR]; rfl) | (dsimp only; rw [hR]; rfl)) ?_
            refine k_iconst i_116_160 ?_
            refine k_iload_n i_116_161 rfl ?_
            refine k_iast i_116_162 (by first | rfl | assumption | (rw [hR]; rfl) | (dsimp only; rw [hR]; rfl)) (by decide) (by omega) (by omega) ?_
            refine k_aload_n i_116_163 rfl ?_
            refine k_gfR i_116_164 f_12_29 (by first | rfl | assumption | (rw [hR]; rfl) | (dsimp only; rw [hR]; rfl)) (by decide) (by decide) (Or.inr ⟨_, rfl⟩) (by first | rfl | assumption | (rw [hR]; rfl) | (dsimp only; rw [hR]; rfl)) ?_
            refine k_iconst i_116_167 ?_
            refine k_dup2 i_116_168 ?_
            refine k_ialV (a := σ.w.paid) i_116_169 (by first | rfl | assumption | (rw [hR]; rfl) | (dsimp only; rw [hR]; rfl)) (by decide) (by omega) (by omega) (by dsimp only; rw [q_up_n (by omega), q_up_n (by omega), q_up_n (by omega), q_up_n (by omega)]; exact hmk.2.1) ?_
            refine k_iload i_116_170 rfl ?_
            refine k_iadd i_116_172 ?_
            refine k_iast i_116_173 (by first | rfl | assumption | (rw [hR]; rfl) | (dsimp only; rw [hR]; rfl)) (by decide) (by omega) (by omega) ?_
            refine k_iload i_116_174 rfl ?_
            refine k_iret i_116_176 qt_116 ?_
            refine ⟨rfl, hM.setW hS (fun c' hc' => (q_up_o hc').trans ((q_up_o hc').trans ((q_up_o hc').trans ((q_up_o hc').trans (q_up_o hc'))))) (fun k hk => (q_up_n (by omega)).trans ((q_up_n (by omega)).trans ((q_up_n (by omega)).trans ((q_up_n (by omega)).trans (q_up_n (by omega)))))) ⟨?_, rfl, ?_, ?_, fun i hi => ?_⟩⟩
            · rw [if_neg (show ¬ (wGo σ.T σ.w q).pos = -1 by show ¬ nx σ.T σ.w.pos q = -1; omega)]
              dsimp only
              rw [q_up_n (by omega)]
              exact q_up_s
            · dsimp only
              rw [q_up_n (by omega), q_up_n (by omega), q_up_n (by omega), q_up_n (by omega), q_up_n (by omega)]
              exact hmk.2.2.1
            · dsimp only
              rw [q_up_n (by omega), q_up_n (by omega)]
              exact q_up_s
            · change i < σ.w.n + 1 at hi
              by_cases e : i = σ.w.n
              · subst e
                refine ⟨?_, ?_⟩
                · refine (q_up_n (by omega)).trans ((q_up_n (by omega)).trans ((q_up_n (by omega)).trans ((q_up_n (by omega)).trans ?_)))
                  show q_up _ 2 _ q 2 _ = fu σ.w.d σ.w.n q σ.w.n
                  rw [show ((4 : Int) + (σ.w.n : Int)).toNat = 0 + 4 + σ.w.n by omega, q_up_s]
                  exact (if_pos rfl).symm
                · refine (q_up_n (by omega)).trans ((q_up_n (by omega)).trans ((q_up_n (by omega)).trans ?_))
                  show q_up _ 2 _ _ 2 _ = fu σ.w.f σ.w.n _ σ.w.n
                  rw [show ((66 : Int) + (σ.w.n : Int)).toNat = 0 + 66 + σ.w.n by omega, q_up_s]
                  exact (if_pos rfl).symm
              · obtain ⟨e1, e2⟩ := m5 i (by omega)
                refine ⟨?_, ?_⟩
                · refine (q_up_n (by omega)).trans ((q_up_n (by omega)).trans ((q_up_n (by omega)).trans ((q_up_n (by omega)).trans ((q_up_n (by omega)).trans (e1.trans ?_)))))
                  exact (if_neg e).symm
                · refine (q_up_n (by omega)).trans ((q_up_n (by omega)).trans ((q_up_n (by omega)).trans ((q_up_n (by omega)).trans ((q_up_n (by omega)).trans (e2.trans ?_)))))
                  exact (if_neg e).symm
          unfold OM
-- method 116: StraightTaxModel.step.(I)I
          refine k_start ql_116 (Nat.le_of_ble_eq_true rfl) ?_
          simp only [q_en, List.replicate]
          refine k_iload_n i_116_0 rfl ?_
          refine k_i2lJ i_116_1 (by omega) ?_
          refine k_lconstJ (a := 0) i_116_2 rfl ?_
          refine k_ldc2J (a := 3) i_116_3 l_12_185 (by decide) ?_
          refine k_sp3 i_116_6 c_12_72 (by decide) qp_100 (Nat.le_of_ble_eq_true rfl) (m_in _ _ _ (by omega) (by omega) (by omega)) ?_
          refine k_if_neB (t := 14) i_116_9 rfl (fun h => ?_) (fun h => ?_)
          · refine k_aload_n i_116_14 rfl ?_
            refine k_gfR i_116_15 f_12_29 (by first | rfl | assumption | (rw [hR]; rfl) | (dsimp only; rw [hR]; rfl)) (by decide) (by decide) (Or.inr ⟨_, rfl⟩) (by first | rfl | assumption | (rw [hR]; rfl) | (dsimp only; rw [hR]; rfl)) ?_
            refine k_iconst i_116_18 ?_
            refine k_ialV (a := σ.w.pos) i_116_19 (by first | rfl | assumption | (rw [hR]; rfl) | (dsimp only; rw [hR]; rfl)) (by decide) (by omega) (by omega) (hp2) ?_
            refine k_bipush i_116_20 (by decide) ?_
            refine k_ic_ne (t := 29) i_116_22 rfl (by omega) (by omega) (fun h => ?_) (fun h => ?_)
            · refine k_aload_n i_116_29 rfl ?_
              refine k_aload_n i_116_30 rfl ?_
              refine k_gfR i_116_31 f_12_29 (by first | rfl | assumption | (rw [hR]; rfl) | (dsimp only; rw [hR]; rfl)) (by decide) (by decide) (Or.inr ⟨_, rfl⟩) (by first | rfl | assumption | (rw [hR]; rfl) | (dsimp only; rw [hR]; rfl)) ?_
              refine k_iconst i_116_34 ?_
              refine k_ialV (a := σ.w.pos) i_116_35 (by first | rfl | assumption | (rw [hR]; rfl) | (dsimp only; rw [hR]; rfl)) (by decide) (by omega) (by omega) (hp2) ?_
              refine k_iload_n i_116_36 rfl ?_
              refine k_vp2 i_116_37 c_12_187 qp_117 qo_117 (by first | rfl | assumption | (rw [hR]; rfl) | (dsimp only; rw [hR]; rfl)) (Nat.le_of_ble_eq_true rfl) (m_to hM.mt hw _ _ (open_lt ho) hq) ?_
              refine k_istore_n i_116_40 (Nat.le_of_ble_eq_true rfl) ?_
              dsimp only [q_st1, q_st2, q_unl]
              refine k_iload_n i_116_41 rfl ?_
              refine k_if_ge (t := 48) i_116_42 rfl (by omega) (fun g => ?_) (fun g => ?_)
              · refine k_aload_n i_116_48 rfl ?_
                refine k_gfR i_116_49 f_12_29 (by first | rfl | assumption | (rw [hR]; rfl) | (dsimp only; rw [hR]; rfl)) (by decide) (by decide) (Or.inr ⟨_, rfl⟩) (by first | rfl | assumption | (rw [hR]; rfl) | (dsimp only; rw [hR]; rfl)) ?_
                refine k_iconst i_116_52 ?_
                refine k_ialV (a := (σ.w.n : Int)) i_116_53 (by first | rfl | assumption | (rw [hR]; rfl) | (dsimp only; rw [hR]; rfl)) (by decide) (by omega) (by omega) (hn2) ?_
                refine k_istore_n i_116_54 (Nat.le_of_ble_eq_true rfl) ?_
                dsimp only [q_st1, q_st2, q_unl]
                refine k_iload_n i_116_55 rfl ?_
                refine k_bipush i_116_56 (by decide) ?_
                refine k_ic_ne (t := 64) i_116_58 rfl (by omega) (by omega) (fun g2 => ?_) (fun g2 => ?_)
                · refine k_iload_n i_116_64 rfl ?_
                  have no : ¬ (q = wLd σ.w ∧ tElb σ.T σ.w.pos = false) → K shM 21 116 102 [some (.ref 0), some (.int (J q)), some (.int (J (nx σ.T σ.w.pos q))), some (.int (J (σ.w.n : Int))), none, none] [] (I2, X2) (fun r S2 => r = some (.int (J (tPrice σ.T σ.w.nt (tRun σ.T σ.w.pos (wLd σ.w) (wLr σ.w) q)))) ∧ MI (σ.setW (wGo σ.T σ.w q)) S2.1 S2.2) := by
                    intro hno
                    refine k_iconst i_116_102 ?_
                    refine k_istore i_116_103 (Nat.le_of_ble_eq_true rfl) ?_
                    dsimp only [q_st1, q_st2, q_unl]
                    refine k_aload_n i_116_105 rfl ?_
                    refine k_iload i_116_106 rfl ?_
                    refine k_if_eq (t := 120) i_116_108 rfl (by omega) (fun g5 => ?_) (fun g5 => ?_)
                    · refine k_iconst i_116_120 ?_
                      exact fin 1 (by unfold tRun; rw [if_neg hno]) _
                    · omega
                  refine k_if_le (t := 102) i_116_65 rfl (by omega) (fun g3 => ?_) (fun g3 => ?_)
                  · refine no (fun y => ?_)
                    have : wLd σ.w = -1 := by unfold wLd; rw [if_pos (by omega)]
                    omega
                  · have hl : wLd σ.w = σ.w.d (σ.w.n - 1) := by unfold wLd; rw [if_neg (by omega)]
                    refine k_aload_n i_116_68 rfl ?_
                    refine k_gfR i_116_69 f_12_29 (by first | rfl | assumption | (rw [hR]; rfl) | (dsimp only; rw [hR]; rfl)) (by decide) (by decide) (Or.inr ⟨_, rfl⟩) (by first | rfl | assumption | (rw [hR]; rfl) | (dsimp only; rw [hR]; rfl)) ?_
                    refine k_iconst i_116_72 ?_
                    refine k_iload_n i_116_73 rfl ?_
                    refine k_iadd i_116_74 ?_
                    refine k_iconst i_116_75 ?_
                    refine k_isub i_116_76 ?_
                    refine k_ialV (a := (wLd σ.w)) i_116_77 (by first | rfl | assumption | (rw [hR]; rfl) | (dsimp only; rw [hR]; rfl)) (by decide) (by omega) (by omega) (by rw [hl, show ((4 : Int) + (σ.w.n : Int) - 1).toNat = 0 + 4 + (σ.w.n - 1) by omega]; exact (m5 (σ.w.n - 1) (by omega)).1) ?_
                    refine k_iload_n i_116_78 rfl ?_
                    refine k_ic_ne (t := 102) i_116_79 rfl (by omega) (by omega) (fun g4 => ?_) (fun g4 => ?_)
                    · exact no (fun y => g4 y.1.symm)
                    · refine k_aload_n i_116_82 rfl ?_
                      refine k_gfV (a := (tMask σ.T 2 : Int)) i_116_83 f_12_167 (by first | rfl | assumption | (rw [hR]; rfl) | (dsimp only; rw [hR]; rfl)) (by decide) (by decide) (Or.inl rfl) (hM.mt.2.2.2.1) ?_
                      refine k_aload_n i_116_86 rfl ?_
                      refine k_gfR i_116_87 f_12_29 (by first | rfl | assumption | (rw [hR]; rfl) | (dsimp only; rw [hR]; rfl)) (by decide) (by decide) (Or.inr ⟨_, rfl⟩) (by first | rfl | assumption | (rw [hR]; rfl) | (dsimp only; rw [hR]; rfl)) ?_
                      refine k_iconst i_116_90 ?_
                      refine k_ialV (a := σ.w.pos) i_116_91 (by first | rfl | assumption | (rw [hR]; rfl) | (dsimp only; rw [hR]; rfl)) (by decide) (by omega) (by omega) (hp2) ?_
                      refine k_sp2 i_116_92 c_12_83 (by decide) qp_109 (Nat.le_of_ble_eq_true rfl) (m_has (by have := tMask_lt σ.T 2; omega) _ (by omega) (by omega)) ?_
                      rw [tElb_mask (by omega)]
                      refine k_if_neB (t := 102) i_116_95 rfl (fun h => ?_) (fun h => ?_)
                      · exact no (fun y => by rw [h] at y; exact absurd y.2 (by decide))
                      · refine k_iconst i_116_98 ?_
                        refine k_goto (t := 103) i_116_99 rfl ?_
                        refine k_istore i_116_103 (Nat.le_of_ble_eq_true rfl) ?_
                        dsimp only [q_st1, q_st2, q_unl]
                        refine k_aload_n i_116_105 rfl ?_
                        refine k_iload i_116_106 rfl ?_
                        refine k_if_eq (t := 120) i_116_108 rfl (by omega) (fun g5 => ?_) (fun g5 => ?_)
                        · omega
                        · refine k_aload_n i_116_111 rfl ?_
                          refine k_vp0 i_116_112 c_12_190 qp_118 qo_118 (by first | rfl | assumption | (rw [hR]; rfl) | (dsimp only; rw [hR]; rfl)) (Nat.le_of_ble_eq_true rfl) (m_runNow hM.mt hR hS.ok hmk hk) ?_
                          refine k_iconst i_116_115 ?_
                          refine k_iadd i_116_116 ?_
                          refine k_goto (t := 121) i_116_117 rfl ?_
                          refine fin _ ?_ _
                          unfold tRun
                          rw [if_pos ⟨by omega, h⟩]
                · omega
              · omega
            · omega
          · rw [decide_eq_true (by omega)] at h; cases h
  · refine ⟨.int (J (-1)), σ, hS, ?_, ?_⟩
    · unfold OX
-- method 73: StraightTax.step.(I)I
      refine k_start ql_73 (Nat.le_of_ble_eq_true rfl) ?_
      simp only [q_en, List.replicate]
      refine k_iload_n i_73_0 rfl ?_
      refine k_sp1 i_73_1 c_11_135 (by decide) qp_74 (Nat.le_of_ble_eq_true rfl) (e_isDir _ hq) ?_
      refine k_if_neB (t := 9) i_73_4 rfl (fun h => ?_) (fun h => ?_)
      · rw [isDir, decide_eq_false zq] at h; cases h
      · refine k_iconst i_73_7 ?_
        refine k_iret i_73_8 qt_73 ?_
        exact ⟨rfl, _, _, _, hX⟩
    · have hR := hR2
      unfold OM
-- method 116: StraightTaxModel.step.(I)I
      refine k_start ql_116 (Nat.le_of_ble_eq_true rfl) ?_
      simp only [q_en, List.replicate]
      refine k_iload_n i_116_0 rfl ?_
      refine k_i2lJ i_116_1 (by omega) ?_
      refine k_lconstJ (a := 0) i_116_2 rfl ?_
      refine k_ldc2J (a := 3) i_116_3 l_12_185 (by decide) ?_
      refine k_sp3 i_116_6 c_12_72 (by decide) qp_100 (Nat.le_of_ble_eq_true rfl) (m_in _ _ _ (by omega) (by omega) (by omega)) ?_
      refine k_if_neB (t := 14) i_116_9 rfl (fun h => ?_) (fun h => ?_)
      · rw [decide_eq_false (by omega)] at h; cases h
      · refine k_iconst i_116_12 ?_
        refine k_iret i_116_13 qt_116 ?_
        exact ⟨rfl, hM⟩
end TD
