/-! CALLS: of one who goes -/
section TC
variable {σ : Sg} {h0 s0 w0 d n : Nat} {I : Nat → Nat → Int} {X : XX} {I2 : Nat → Nat → Int} {X2 : XX}
theorem tAh_pos {T : Tn} (hw : tWF T) {k : Wk} (hk : WkOK T k) {q : Int} (hq : 0 ≤ q ∧ q < 4) : tAh T k.pos q = if k.pos = -1 then -1 else nx T k.pos q := by
  have hN := tN_le hw
  unfold tAh
  rcases hk.pos with z | z
  · rw [if_neg (by omega), if_pos z.1]
  · have := open_lt z
    rw [if_pos (by omega), if_pos (by omega), if_neg (by omega)]
theorem t_stand (hX : XI σ h0 s0 w0 I X) (hM : MI σ I2 X2) (hS : SOK σ) (c : Int) (hc : inJ c) : Both σ h0 s0 w0 I X I2 X2 72 114 [.int (J c)] := by
  obtain ⟨s1, s2, s3, q1, q2, a0, a1, a2, a3, a4, a5, a6, ag⟩ := id hX.ta
  by_cases ho : tOpen σ.T c = true
  · have hc2 := open_lt ho
    refine ⟨.int (J 1), σ.setW (c, 0, 0, σ.w.nt, fun _ => c, fun _ => 0, fun _ => 0, fun _ => 0), hS.setW ⟨Nat.zero_le _, hS.wk.nt01, Or.inr ho, rfl, fun i hi => absurd hi (Nat.not_lt_zero i)⟩, ?_, ?_⟩
    · have hR := hX.rf
      unfold OX
-- method 72: StraightTax.stand.(I)I
      refine k_start ql_72 (Nat.le_of_ble_eq_true rfl) ?_
      simp only [q_en, List.replicate]
      refine k_aload_n i_72_0 rfl ?_
      refine k_gfR i_72_1 f_11_54 (by first | rfl | assumption | (rw [hR]; rfl) | (dsimp only; rw [hR]; rfl)) (by decide) (by decide) (Or.inl ⟨_, rfl⟩) (by first | rfl | assumption | (rw [hR]; rfl) | (dsimp only; rw [hR]; rfl)) ?_
      refine k_iload_n i_72_4 rfl ?_
      refine k_vp1 i_72_5 c_11_129 qp_26 qo_26 (by first | rfl | assumption | (rw [hR]; rfl) | (dsimp only; rw [hR]; rfl)) (Nat.le_of_ble_eq_true rfl) (e_isOpen hX.ta hS.ok.1 _ hc) ?_
      refine k_if_neB (t := 13) i_72_8 rfl (fun h => ?_) (fun h => ?_)
      · refine k_aload_n i_72_13 rfl ?_
        refine k_gfR i_72_14 f_11_19 (by first | rfl | assumption | (rw [hR]; rfl) | (dsimp only; rw [hR]; rfl)) (by decide) (by decide) (Or.inl ⟨_, rfl⟩) (by first | rfl | assumption | (rw [hR]; rfl) | (dsimp only; rw [hR]; rfl)) ?_
        refine k_cv0 i_72_17 c_11_96 qp_40 qo_40 (by first | rfl | assumption | (rw [hR]; rfl) | (dsimp only; rw [hR]; rfl)) (Nat.le_of_ble_eq_true rfl) e_leave (fun v S2 h => ?_)
        obtain ⟨rfl, rfl⟩ := h
        show K shX 21 72 20 _ [] _ _
        refine k_aload_n i_72_20 rfl ?_
        refine k_gfR i_72_21 f_11_19 (by first | rfl | assumption | (rw [hR]; rfl) | (dsimp only; rw [hR]; rfl)) (by decide) (by decide) (Or.inl ⟨_, rfl⟩) (by first | rfl | assumption | (rw [hR]; rfl) | (dsimp only; rw [hR]; rfl)) ?_
        refine k_iload_n i_72_24 rfl ?_
        refine k_pfI i_72_25 f_11_132 (by first | rfl | assumption | (rw [hR]; rfl) | (dsimp only; rw [hR]; rfl)) (by decide) rfl ?_
        refine k_iconst i_72_28 ?_
        refine k_iret i_72_29 qt_72 ?_
        refine ⟨rfl, _, _, _, hX.setW (fun c' hc' => (q_up_o (by omega)).trans ((q_up_o (by omega)).trans ((q_up_o (by omega)).trans (q_up_o (by omega))))) ⟨rfl, rfl, rfl, hX.wk.2.2.2.1, fun i hi => absurd hi (Nat.not_lt_zero i)⟩⟩
      · rw [ho] at h; cases h
    · have hR := hM.rf
      unfold OM
-- method 114: StraightTaxModel.stand.(I)I
      refine k_start ql_114 (Nat.le_of_ble_eq_true rfl) ?_
      simp only [q_en, List.replicate]
      refine k_aload_n i_114_0 rfl ?_
      refine k_iload_n i_114_1 rfl ?_
      refine k_vp1 i_114_2 c_12_182 qp_115 qo_115 (by first | rfl | assumption | (rw [hR]; rfl) | (dsimp only; rw [hR]; rfl)) (Nat.le_of_ble_eq_true rfl) (m_isOpen hM.mt hS.ok.1 _ hc) ?_
      refine k_if_neB (t := 10) i_114_5 rfl (fun h => ?_) (fun h => ?_)
      · refine k_aload_n i_114_10 rfl ?_
        refine k_gfR i_114_11 f_12_29 (by first | rfl | assumption | (rw [hR]; rfl) | (dsimp only; rw [hR]; rfl)) (by decide) (by decide) (Or.inr ⟨_, rfl⟩) (by first | rfl | assumption | (rw [hR]; rfl) | (dsimp only; rw [hR]; rfl)) ?_
        refine k_iconst i_114_14 ?_
        refine k_iload_n i_114_15 rfl ?_
        refine k_iast i_114_16 (by first | rfl | assumption | (rw [hR]; rfl) | (dsimp only; rw [hR]; rfl)) (by decide) (by omega) (by omega) ?_
        refine k_aload_n i_114_17 rfl ?_
        refine k_gfR i_114_18 f_12_29 (by first | rfl | assumption | (rw [hR]; rfl) | (dsimp only; rw [hR]; rfl)) (by decide) (by decide) (Or.inr ⟨_, rfl⟩) (by first | rfl | assumption | (rw [hR]; rfl) | (dsimp only; rw [hR]; rfl)) ?_
        refine k_iconst i_114_21 ?_
        refine k_iconst i_114_22 ?_
        refine k_iast i_114_23 (by first | rfl | assumption | (rw [hR]; rfl) | (dsimp only; rw [hR]; rfl)) (by decide) (by omega) (by omega) ?_
        refine k_aload_n i_114_24 rfl ?_
        refine k_gfR i_114_25 f_12_29 (by first | rfl | assumption | (rw [hR]; rfl) | (dsimp only; rw [hR]; rfl)) (by decide) (by decide) (Or.inr ⟨_, rfl⟩) (by first | rfl | assumption | (rw [hR]; rfl) | (dsimp only; rw [hR]; rfl)) ?_
        refine k_iconst i_114_28 ?_
        refine k_iconst i_114_29 ?_
        refine k_iast i_114_30 (by first | rfl | assumption | (rw [hR]; rfl) | (dsimp only; rw [hR]; rfl)) (by decide) (by omega) (by omega) ?_
        refine k_iconst i_114_31 ?_
        refine k_iret i_114_32 qt_114 ?_
        refine ⟨rfl, hM.setW hS (fun c' hc' => (q_up_o hc').trans ((q_up_o hc').trans (q_up_o hc'))) (fun k hk => (q_up_n (by omega)).trans ((q_up_n (by omega)).trans (q_up_n (by omega)))) ⟨?_, rfl, hM.wk.2.2.1, rfl, fun i hi => absurd hi (Nat.not_lt_zero i)⟩⟩
        rw [if_neg (show ¬ c = -1 by omega)]
        rfl
      · rw [ho] at h; cases h
  · refine ⟨.int (J (-1)), σ, hS, ?_, ?_⟩
    · have hR := hX.rf
      unfold OX
-- method 72: StraightTax.stand.(I)I
      refine k_start ql_72 (Nat.le_of_ble_eq_true rfl) ?_
      simp only [q_en, List.replicate]
      refine k_aload_n i_72_0 rfl ?_
      refine k_gfR i_72_1 f_11_54 (by first | rfl | assumption | (rw [hR]; rfl) | (dsimp only; rw [hR]; rfl)) (by decide) (by decide) (Or.inl ⟨_, rfl⟩) (by first | rfl | assumption | (rw [hR]; rfl) | (dsimp only; rw [hR]; rfl)) ?_
      refine k_iload_n i_72_4 rfl ?_
      refine k_vp1 i_72_5 c_11_129 qp_26 qo_26 (by first | rfl | assumption | (rw [hR]; rfl) | (dsimp only; rw [hR]; rfl)) (Nat.le_of_ble_eq_true rfl) (e_isOpen hX.ta hS.ok.1 _ hc) ?_
      refine k_if_neB (t := 13) i_72_8 rfl (fun h => ?_) (fun h => ?_)
      · exact absurd h ho
      · refine k_iconst i_72_11 ?_
        refine k_iret i_72_12 qt_72 ?_
        exact ⟨rfl, _, _, _, hX⟩
    · have hR := hM.rf
      unfold OM
-- method 114: StraightTaxModel.stand.(I)I
      refine k_start ql_114 (Nat.le_of_ble_eq_true rfl) ?_
      simp only [q_en, List.replicate]
      refine k_aload_n i_114_0 rfl ?_
      refine k_iload_n i_114_1 rfl ?_
      refine k_vp1 i_114_2 c_12_182 qp_115 qo_115 (by first | rfl | assumption | (rw [hR]; rfl) | (dsimp only; rw [hR]; rfl)) (Nat.le_of_ble_eq_true rfl) (m_isOpen hM.mt hS.ok.1 _ hc) ?_
      refine k_if_neB (t := 10) i_114_5 rfl (fun h => ?_) (fun h => ?_)
      · exact absurd h ho
      · refine k_iconst i_114_8 ?_
        refine k_iret i_114_9 qt_114 ?_
        exact ⟨rfl, hM⟩
theorem t_undo (hX : XI σ h0 s0 w0 I X) (hM : MI σ I2 X2) (hS : SOK σ) : Both σ h0 s0 w0 I X I2 X2 75 121 [] := by
  have hwk := hX.wk
  have h60 := hS.wk.n60
  have hmk := hM.wk
  have m5 := hmk.2.2.2.2
  have hn : I 3 2 = (σ.w.n : Int) := hwk.2.2.1
  have hn2 : I2 2 3 = (σ.w.n : Int) := hmk.2.2.2.1
  by_cases z : σ.w.n = 0
  · refine ⟨.int (J (-2)), σ, hS, ?_, ?_⟩
    · have hR := hX.rf
      unfold OX
-- method 75: StraightTax.undo.()I
      refine k_start ql_75 (Nat.le_of_ble_eq_true rfl) ?_
      simp only [q_en, List.replicate]
      refine k_aload_n i_75_0 rfl ?_
      refine k_gfR i_75_1 f_11_19 (by first | rfl | assumption | (rw [hR]; rfl) | (dsimp only; rw [hR]; rfl)) (by decide) (by decide) (Or.inl ⟨_, rfl⟩) (by first | rfl | assumption | (rw [hR]; rfl) | (dsimp only; rw [hR]; rfl)) ?_
      refine k_gfV (a := (σ.w.n : Int)) i_75_4 f_11_142 (by first | rfl | assumption | (rw [hR]; rfl) | (dsimp only; rw [hR]; rfl)) (by decide) (by decide) (Or.inl rfl) (hn) ?_
      refine k_if_le (t := 20) i_75_7 rfl (by omega) (fun h => ?_) (fun h => ?_)
      · refine k_bipush i_75_20 (by decide) ?_
        refine k_iret i_75_22 qt_75 ?_
        exact ⟨rfl, _, _, _, hX⟩
      · omega
    · have hR := hM.rf
      unfold OM
-- method 121: StraightTaxModel.undo.()I
      refine k_start ql_121 (Nat.le_of_ble_eq_true rfl) ?_
      simp only [q_en, List.replicate]
      refine k_aload_n i_121_0 rfl ?_
      refine k_gfR i_121_1 f_12_29 (by first | rfl | assumption | (rw [hR]; rfl) | (dsimp only; rw [hR]; rfl)) (by decide) (by decide) (Or.inr ⟨_, rfl⟩) (by first | rfl | assumption | (rw [hR]; rfl) | (dsimp only; rw [hR]; rfl)) ?_
      refine k_iconst i_121_4 ?_
      refine k_ialV (a := (σ.w.n : Int)) i_121_5 (by first | rfl | assumption | (rw [hR]; rfl) | (dsimp only; rw [hR]; rfl)) (by decide) (by omega) (by omega) (hn2) ?_
      refine k_if_ne (t := 12) i_121_6 rfl (by omega) (fun h => ?_) (fun h => ?_)
      · omega
      · refine k_bipush i_121_9 (by decide) ?_
        refine k_iret i_121_11 qt_121 ?_
        exact ⟨rfl, hM⟩
  · refine ⟨.int (J (σ.w.f (σ.w.n - 1))), σ.setW (wUn σ.w), hS.setW (wUn_ok hS.wk (by omega)), ?_, ?_⟩
    · have hR := hX.rf
      unfold OX
-- method 75: StraightTax.undo.()I
      refine k_start ql_75 (Nat.le_of_ble_eq_true rfl) ?_
      simp only [q_en, List.replicate]
      refine k_aload_n i_75_0 rfl ?_
      refine k_gfR i_75_1 f_11_19 (by first | rfl | assumption | (rw [hR]; rfl) | (dsimp only; rw [hR]; rfl)) (by decide) (by decide) (Or.inl ⟨_, rfl⟩) (by first | rfl | assumption | (rw [hR]; rfl) | (dsimp only; rw [hR]; rfl)) ?_
      refine k_gfV (a := (σ.w.n : Int)) i_75_4 f_11_142 (by first | rfl | assumption | (rw [hR]; rfl) | (dsimp only; rw [hR]; rfl)) (by decide) (by decide) (Or.inl rfl) (hn) ?_
      refine k_if_le (t := 20) i_75_7 rfl (by omega) (fun h => ?_) (fun h => ?_)
      · omega
      · refine k_aload_n i_75_10 rfl ?_
        refine k_gfR i_75_11 f_11_19 (by first | rfl | assumption | (rw [hR]; rfl) | (dsimp only; rw [hR]; rfl)) (by decide) (by decide) (Or.inl ⟨_, rfl⟩) (by first | rfl | assumption | (rw [hR]; rfl) | (dsimp only; rw [hR]; rfl)) ?_
        refine k_cv0 i_75_14 c_11_164 qp_44 qo_44 (by first | rfl | assumption | (rw [hR]; rfl) | (dsimp only; rw [hR]; rfl)) (Nat.le_of_ble_eq_true rfl) (e_takeBack hR hwk h60 (by omega)) (fun v S2 h => ?_)
        obtain ⟨rfl, rfl⟩ := h
        show K shX 21 75 17 _ [.int (J (σ.w.f (σ.w.n - 1)))] _ _
        refine k_goto (t := 22) i_75_17 rfl ?_
        refine k_iret i_75_22 qt_75 ?_
        refine ⟨rfl, _, _, _, hX.setW (fun c' hc' => (q_up_o (by omega)).trans ((q_up_o (by omega)).trans (q_up_o (by omega)))) ⟨rfl, rfl, ?_, hwk.2.2.2.1, fun i hi => ?_⟩⟩
        · show (σ.w.n : Int) - 1 = ((σ.w.n - 1 : Nat) : Int)
          omega
        · change i < σ.w.n - 1 at hi
          obtain ⟨e1, e2, e3, e4⟩ := hwk.2.2.2.2 i (by omega)
          exact ⟨e1, e2, e3, e4⟩
    · have hR := hM.rf
      have hp : I2 2 0 = σ.w.pos := by
        refine hmk.1.trans (if_neg ?_)
        rcases hS.wk.pos with y | y
        · omega
        · have := open_lt y; omega
      obtain ⟨t1, t2, t3, t4, t5⟩ := hS.wk.way (σ.w.n - 1) (by omega)
      have hb := behind_nx hS.ok.1 (open_lt t2) t1 (by rw [t3]; exact t4)
      rw [t3, show σ.w.n - 1 + 1 = σ.w.n by omega, hS.wk.end_] at hb
      have hpr := open_lt t2
      unfold OM
-- method 121: StraightTaxModel.undo.()I
      refine k_start ql_121 (Nat.le_of_ble_eq_true rfl) ?_
      simp only [q_en, List.replicate]
      refine k_aload_n i_121_0 rfl ?_
      refine k_gfR i_121_1 f_12_29 (by first | rfl | assumption | (rw [hR]; rfl) | (dsimp only; rw [hR]; rfl)) (by decide) (by decide) (Or.inr ⟨_, rfl⟩) (by first | rfl | assumption | (rw [hR]; rfl) | (dsimp only; rw [hR]; rfl)) ?_
      refine k_iconst i_121_4 ?_
      refine k_ialV (a := (σ.w.n : Int)) i_121_5 (by first | rfl | assumption | (rw [hR]; rfl) | (dsimp only; rw [hR]; rfl)) (by decide) (by omega) (by omega) (hn2) ?_
      refine k_if_ne (t := 12) i_121_6 rfl (by omega) (fun h => ?_) (fun h => ?_)
      · refine k_aload_n i_121_12 rfl ?_
        refine k_gfR i_121_13 f_12_29 (by first | rfl | assumption | (rw [hR]; rfl) | (dsimp only; rw [hR]; rfl)) (by decide) (by decide) (Or.inr ⟨_, rfl⟩) (by first | rfl | assumption | (rw [hR]; rfl) | (dsimp only; rw [hR]; rfl)) ?_
        refine k_iconst i_121_16 ?_
        refine k_dup2 i_121_17 ?_
        refine k_ialV (a := (σ.w.n : Int)) i_121_18 (by first | rfl | assumption | (rw [hR]; rfl) | (dsimp only; rw [hR]; rfl)) (by decide) (by omega) (by omega) (hn2) ?_
        refine k_iconst i_121_19 ?_
        refine k_isub i_121_20 ?_
        refine k_iast i_121_21 (by first | rfl | assumption | (rw [hR]; rfl) | (dsimp only; rw [hR]; rfl)) (by decide) (by omega) (by omega) ?_
        refine k_aload_n i_121_22 rfl ?_
        refine k_gfR i_121_23 f_12_29 (by first | rfl | assumption | (rw [hR]; rfl) | (dsimp only; rw [hR]; rfl)) (by decide) (by decide) (Or.inr ⟨_, rfl⟩) (by first | rfl | assumption | (rw [hR]; rfl) | (dsimp only; rw [hR]; rfl)) ?_
        refine k_iconst i_121_26 ?_
        refine k_ialV (a := ((σ.w.n : Int) - 1)) i_121_27 (by first | rfl | assumption | (rw [hR]; rfl) | (dsimp only; rw [hR]; rfl)) (by decide) (by omega) (by omega) (rfl) ?_
        refine k_istore_n i_121_28 (Nat.le_of_ble_eq_true rfl) ?_
        dsimp only [q_st1, q_st2, q_unl]
        refine k_aload_n i_121_29 rfl ?_
        refine k_gfR i_121_30 f_12_29 (by first | rfl | assumption | (rw [hR]; rfl) | (dsimp only; rw [hR]; rfl)) (by decide) (by decide) (Or.inr ⟨_, rfl⟩) (by first | rfl | assumption | (rw [hR]; rfl) | (dsimp only; rw [hR]; rfl)) ?_
        refine k_iconst i_121_33 ?_
        refine k_aload_n i_121_34 rfl ?_
        refine k_aload_n i_121_35 rfl ?_
        refine k_gfR i_121_36 f_12_29 (by first | rfl | assumption | (rw [hR]; rfl) | (dsimp only; rw [hR]; rfl)) (by decide) (by decide) (Or.inr ⟨_, rfl⟩) (by first | rfl | assumption | (rw [hR]; rfl) | (dsimp only; rw [hR]; rfl)) ?_
        refine k_iconst i_121_39 ?_
        refine k_ialV (a := σ.w.pos) i_121_40 (by first | rfl | assumption | (rw [hR]; rfl) | (dsimp only; rw [hR]; rfl)) (by decide) (by omega) (by omega) (hp) ?_
        refine k_aload_n i_121_41 rfl ?_
        refine k_gfR i_121_42 f_12_29 (by first | rfl | assumption | (rw [hR]; rfl) | (dsimp only; rw [hR]; rfl)) (by decide) (by decide) (Or.inr ⟨_, rfl⟩) (by first | rfl | assumption | (rw [hR]; rfl) | (dsimp only; rw [hR]; rfl)) ?_
        refine k_iconst i_121_45 ?_
        refine k_iload_n i_121_46 rfl ?_
        refine k_iadd i_121_47 ?_
        refine k_ialV (a := (σ.w.d (σ.w.n - 1))) i_121_48 (by first | rfl | assumption | (rw [hR]; rfl) | (dsimp only; rw [hR]; rfl)) (by decide) (by omega) (by omega) (by refine (q_up_n (by omega)).trans ?_; rw [show ((4 : Int) + ((σ.w.n : Int) - 1)).toNat = 0 + 4 + (σ.w.n - 1) by omega]; exact (m5 (σ.w.n - 1) (by omega)).1) ?_
        refine k_vp2 i_121_49 c_12_179 qp_119 qo_119 (by first | rfl | assumption | (rw [hR]; rfl) | (dsimp only; rw [hR]; rfl)) (Nat.le_of_ble_eq_true rfl) (m_behind (T := σ.T) (by exact hM.mt) hS.ok.1 _ _ (by omega)) ?_
        rw [hb]
        refine k_iast i_121_52 (by first | rfl | assumption | (rw [hR]; rfl) | (dsimp only; rw [hR]; rfl)) (by decide) (by omega) (by omega) ?_
        refine k_aload_n i_121_53 rfl ?_
        refine k_gfR i_121_54 f_12_29 (by first | rfl | assumption | (rw [hR]; rfl) | (dsimp only; rw [hR]; rfl)) (by decide) (by decide) (Or.inr ⟨_, rfl⟩) (by first | rfl | assumption | (rw [hR]; rfl) | (dsimp only; rw [hR]; rfl)) ?_
        refine k_iconst i_121_57 ?_
        refine k_dup2 i_121_58 ?_
        refine k_ialV (a := σ.w.paid) i_121_59 (by first | rfl | assumption | (rw [hR]; rfl) | (dsimp only; rw [hR]; rfl)) (by decide) (by omega) (by omega) (hmk.2.1) ?_
        refine k_aload_n i_121_60 rfl ?_
        refine k_gfR i_121_61 f_12_29 (by first | rfl | assumption | (rw [hR]; rfl) | (dsimp only; rw [hR]; rfl)) (by decide) (by decide) (Or.inr ⟨_, rfl⟩) (by first | rfl | assumption | (rw [hR]; rfl) | (dsimp only; rw [hR]; rfl)) ?_
        refine k_bipush i_121_64 (by decide) ?_
        refine k_iload_n i_121_66 rfl ?_
        refine k_iadd i_121_67 ?_
        refine k_ialV (a := (σ.w.f (σ.w.n - 1))) i_121_68 (by first | rfl | assumption | (rw [hR]; rfl) | (dsimp only; rw [hR]; rfl)) (by decide) (by omega) (by omega) (by refine (q_up_n (by omega)).trans ((q_up_n (by omega)).trans ?_); rw [show ((66 : Int) + ((σ.w.n : Int) - 1)).toNat = 0 + 66 + (σ.w.n - 1) by omega]; exact (m5 (σ.w.n - 1) (by omega)).2) ?_
        refine k_isub i_121_69 ?_
        refine k_iast i_121_70 (by first | rfl | assumption | (rw [hR]; rfl) | (dsimp only; rw [hR]; rfl)) (by decide) (by omega) (by omega) ?_
        refine k_aload_n i_121_71 rfl ?_
        refine k_gfR i_121_72 f_12_29 (by first | rfl | assumption | (rw [hR]; rfl) | (dsimp only; rw [hR]; rfl)) (by decide) (by decide) (Or.inr ⟨_, rfl⟩) (by first | rfl | assumption | (rw [hR]; rfl) | (dsimp only; rw [hR]; rfl)) ?_
        refine k_bipush i_121_75 (by decide) ?_
        refine k_iload_n i_121_77 rfl ?_
        refine k_iadd i_121_78 ?_
        refine k_ialV (a := (σ.w.f (σ.w.n - 1))) i_121_79 (by first | rfl | assumption | (rw [hR]; rfl) | (dsimp only; rw [hR]; rfl)) (by decide) (by omega) (by omega) (by refine (q_up_n (by omega)).trans ((q_up_n (by omega)).trans ((q_up_n (by omega)).trans ?_)); rw [show ((66 : Int) + ((σ.w.n : Int) - 1)).toNat = 0 + 66 + (σ.w.n - 1) by omega]; exact (m5 (σ.w.n - 1) (by omega)).2) ?_
        refine k_iret i_121_80 qt_121 ?_
        refine ⟨rfl, hM.setW hS (fun c' hc' => (q_up_o hc').trans ((q_up_o hc').trans (q_up_o hc'))) (fun k hk => (q_up_n (by omega)).trans ((q_up_n (by omega)).trans (q_up_n (by omega)))) ⟨?_, rfl, hM.wk.2.2.1, ?_, fun i hi => ?_⟩⟩
        · rw [if_neg (show ¬ (wUn σ.w).pos = -1 by show ¬ σ.w.p (σ.w.n - 1) = -1; omega)]
          rfl
        · show (σ.w.n : Int) - 1 = ((σ.w.n - 1 : Nat) : Int)
          omega
        · change i < σ.w.n - 1 at hi
          obtain ⟨e1, e2⟩ := m5 i (by omega)
          exact ⟨(q_up_n (by omega)).trans ((q_up_n (by omega)).trans ((q_up_n (by omega)).trans e1)), (q_up_n (by omega)).trans ((q_up_n (by omega)).trans ((q_up_n (by omega)).trans e2))⟩
      · omega
theorem t_dusk (hX : XI σ h0 s0 w0 I X) (hM : MI σ I2 X2) (hS : SOK σ) (a : Int) (ha : inJ a) : Both σ h0 s0 w0 I X I2 X2 77 123 [.int (J a)] := by
  have hnt : I 3 3 = σ.w.nt := hX.wk.2.2.2.1
  have h01 := hS.wk.nt01
  by_cases z : 0 ≤ a ∧ a ≤ 1
  · refine ⟨.int (J σ.w.nt), σ.setW (σ.w.pos, σ.w.n, σ.w.paid, a, σ.w.p, σ.w.d, σ.w.r, σ.w.f), hS.setW ⟨hS.wk.n60, by show a = 0 ∨ a = 1; omega, hS.wk.pos, hS.wk.end_, hS.wk.way⟩, ?_, ?_⟩
    · have hR := hX.rf
      unfold OX
-- method 77: StraightTax.dusk.(I)I
      refine k_start ql_77 (Nat.le_of_ble_eq_true rfl) ?_
      simp only [q_en, List.replicate]
      refine k_iload_n i_77_0 rfl ?_
      refine k_sp1 i_77_1 c_11_170 (by decide) qp_78 (Nat.le_of_ble_eq_true rfl) (e_isFlag _ ha) ?_
      refine k_if_neB (t := 9) i_77_4 rfl (fun h => ?_) (fun h => ?_)
      · refine k_aload_n i_77_9 rfl ?_
        refine k_gfR i_77_10 f_11_19 (by first | rfl | assumption | (rw [hR]; rfl) | (dsimp only; rw [hR]; rfl)) (by decide) (by decide) (Or.inl ⟨_, rfl⟩) (by first | rfl | assumption | (rw [hR]; rfl) | (dsimp only; rw [hR]; rfl)) ?_
        refine k_gfV (a := σ.w.nt) i_77_13 f_11_99 (by first | rfl | assumption | (rw [hR]; rfl) | (dsimp only; rw [hR]; rfl)) (by decide) (by decide) (Or.inr rfl) (hnt) ?_
        have fin : ∀ x : Int, x = σ.w.nt → K shX 21 77 24 [some (.ref 0), some (.int (J a)), none] [.int (J x)] (I, X) (fun r S2 => r = some (.int (J σ.w.nt)) ∧ ∃ h s w, XI (σ.setW (σ.w.pos, σ.w.n, σ.w.paid, a, σ.w.p, σ.w.d, σ.w.r, σ.w.f)) h s w S2.1 S2.2) := by
          intro x hx
          subst hx
          have fin2 : K shX 21 77 39 [some (.ref 0), some (.int (J a)), some (.int (J σ.w.nt))] [.int (J a), .ref 3] (I, X) (fun r S2 => r = some (.int (J σ.w.nt)) ∧ ∃ h s w, XI (σ.setW (σ.w.pos, σ.w.n, σ.w.paid, a, σ.w.p, σ.w.d, σ.w.r, σ.w.f)) h s w S2.1 S2.2) := by
            refine k_pfZ i_77_39 f_11_99 (by first | rfl | assumption | (rw [hR]; rfl) | (dsimp only; rw [hR]; rfl)) (by decide) rfl (by first | exact bi_01 _ | omega) ?_
            refine k_iload_n i_77_42 rfl ?_
            refine k_iret i_77_43 qt_77 ?_
            exact ⟨rfl, _, _, _, hX.setW (fun c' hc' => q_up_o (by omega)) ⟨hX.wk.1, hX.wk.2.1, hX.wk.2.2.1, rfl, hX.wk.2.2.2.2⟩⟩
          refine k_istore_n i_77_24 (Nat.le_of_ble_eq_true rfl) ?_
          dsimp only [q_st1, q_st2, q_unl]
          refine k_aload_n i_77_25 rfl ?_
          refine k_gfR i_77_26 f_11_19 (by first | rfl | assumption | (rw [hR]; rfl) | (dsimp only; rw [hR]; rfl)) (by decide) (by decide) (Or.inl ⟨_, rfl⟩) (by first | rfl | assumption | (rw [hR]; rfl) | (dsimp only; rw [hR]; rfl)) ?_
          refine k_iload_n i_77_29 rfl ?_
          refine k_iconst i_77_30 ?_
          refine k_ic_ne (t := 38) i_77_31 rfl (by omega) (by omega) (fun g => ?_) (fun g => ?_)
          · refine k_iconst i_77_38 ?_
            rw [show a = 0 by omega] at fin2 ⊢
            exact fin2
          · refine k_iconst i_77_34 ?_
            refine k_goto (t := 39) i_77_35 rfl ?_
            rw [show a = 1 by omega] at fin2 ⊢
            exact fin2
        refine k_if_eq (t := 23) i_77_16 rfl (by omega) (fun g => ?_) (fun g => ?_)
        · refine k_iconst i_77_23 ?_
          exact fin 0 (by omega)
        · refine k_iconst i_77_19 ?_
          refine k_goto (t := 24) i_77_20 rfl ?_
          exact fin 1 (by omega)
      · rw [decide_eq_true z] at h; cases h
    · have hR := hM.rf
      unfold OM
-- method 123: StraightTaxModel.dusk.(I)I
      refine k_start ql_123 (Nat.le_of_ble_eq_true rfl) ?_
      simp only [q_en, List.replicate]
      refine k_iload_n i_123_0 rfl ?_
      refine k_i2lJ i_123_1 (by omega) ?_
      refine k_lconstJ (a := 0) i_123_2 rfl ?_
      refine k_lconstJ (a := 1) i_123_3 rfl ?_
      refine k_sp3 i_123_4 c_12_72 (by decide) qp_100 (Nat.le_of_ble_eq_true rfl) (m_in _ _ _ (by omega) (by omega) (by omega)) ?_
      refine k_if_neB (t := 12) i_123_7 rfl (fun h => ?_) (fun h => ?_)
      · refine k_aload_n i_123_12 rfl ?_
        refine k_gfR i_123_13 f_12_29 (by first | rfl | assumption | (rw [hR]; rfl) | (dsimp only; rw [hR]; rfl)) (by decide) (by decide) (Or.inr ⟨_, rfl⟩) (by first | rfl | assumption | (rw [hR]; rfl) | (dsimp only; rw [hR]; rfl)) ?_
        refine k_iconst i_123_16 ?_
        refine k_ialV (a := σ.w.nt) i_123_17 (by first | rfl | assumption | (rw [hR]; rfl) | (dsimp only; rw [hR]; rfl)) (by decide) (by omega) (by omega) (hM.wk.2.2.1) ?_
        refine k_istore_n i_123_18 (Nat.le_of_ble_eq_true rfl) ?_
        dsimp only [q_st1, q_st2, q_unl]
        refine k_aload_n i_123_19 rfl ?_
        refine k_gfR i_123_20 f_12_29 (by first | rfl | assumption | (rw [hR]; rfl) | (dsimp only; rw [hR]; rfl)) (by decide) (by decide) (Or.inr ⟨_, rfl⟩) (by first | rfl | assumption | (rw [hR]; rfl) | (dsimp only; rw [hR]; rfl)) ?_
        refine k_iconst i_123_23 ?_
        refine k_iload_n i_123_24 rfl ?_
        refine k_iast i_123_25 (by first | rfl | assumption | (rw [hR]; rfl) | (dsimp only; rw [hR]; rfl)) (by decide) (by omega) (by omega) ?_
        refine k_iload_n i_123_26 rfl ?_
        refine k_iret i_123_27 qt_123 ?_
        refine ⟨rfl, hM.setW hS (fun c' hc' => q_up_o hc') (fun k hk => q_up_n (by omega)) ⟨hM.wk.1, hM.wk.2.1, rfl, hM.wk.2.2.2.1, fun i hi => ?_⟩⟩
        obtain ⟨e1, e2⟩ := hM.wk.2.2.2.2 i hi
        exact ⟨(q_up_n (by omega)).trans e1, (q_up_n (by omega)).trans e2⟩
      · rw [decide_eq_true z] at h; cases h
  · refine ⟨.int (J (-1)), σ, hS, ?_, ?_⟩
    · have hR := hX.rf
      unfold OX
-- method 77: StraightTax.dusk.(I)I
      refine k_start ql_77 (Nat.le_of_ble_eq_true rfl) ?_
      simp only [q_en, List.replicate]
      refine k_iload_n i_77_0 rfl ?_
      refine k_sp1 i_77_1 c_11_170 (by decide) qp_78 (Nat.le_of_ble_eq_true rfl) (e_isFlag _ ha) ?_
      refine k_if_neB (t := 9) i_77_4 rfl (fun h => ?_) (fun h => ?_)
      · rw [decide_eq_false z] at h; cases h
      · refine k_iconst i_77_7 ?_
        refine k_iret i_77_8 qt_77 ?_
        exact ⟨rfl, _, _, _, hX⟩
    · have hR := hM.rf
      unfold OM
-- method 123: StraightTaxModel.dusk.(I)I
      refine k_start ql_123 (Nat.le_of_ble_eq_true rfl) ?_
      simp only [q_en, List.replicate]
      refine k_iload_n i_123_0 rfl ?_
      refine k_i2lJ i_123_1 (by omega) ?_
      refine k_lconstJ (a := 0) i_123_2 rfl ?_
      refine k_lconstJ (a := 1) i_123_3 rfl ?_
      refine k_sp3 i_123_4 c_12_72 (by decide) qp_100 (Nat.le_of_ble_eq_true rfl) (m_in _ _ _ (by omega) (by omega) (by omega)) ?_
      refine k_if_neB (t := 12) i_123_7 rfl (fun h => ?_) (fun h => ?_)
      · rw [decide_eq_false z] at h; cases h
      · refine k_iconst i_123_10 ?_
        refine k_iret i_123_11 qt_123 ?_
        exact ⟨rfl, hM⟩
end TC
