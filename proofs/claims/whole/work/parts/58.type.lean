/-! CALLS: type -/
def byv (v : Int64) (m : Nat) : Int64 := v >>> ((J (8 * (m : Int))).toInt64 &&& 63)
/-- the lowest byte of a long -/
def bx (x : Int64) : Int := (x &&& JL 255).toInt32.toInt
theorem bx_nat (x : Int64) : bx x = ((x.toBitVec.toNat % 256 : Nat) : Int) := by
  have e : ((x &&& JL 255).toInt32.toBitVec).toNat = x.toBitVec.toNat % 256 := by
    rw [Int64.toBitVec_toInt32, Int64.toBitVec_and, BitVec.signExtend_eq_setWidth_of_le _ (by omega), BitVec.toNat_setWidth, BitVec.toNat_and]
    rw [show (JL 255).toBitVec.toNat = 2 ^ 8 - 1 by decide, Nat.and_two_pow_sub_one_eq_mod]
    omega
  unfold bx
  rw [← Int32.toInt_toBitVec, BitVec.toInt_eq_toNat_of_lt (by rw [e]; omega), e]
theorem bx_range (x : Int64) : 0 ≤ bx x ∧ bx x < 256 := by
  rw [bx_nat]
  omega
theorem bx_sb (x : Int64) : (J x.toInt32.toInt).toInt8.toInt32 = J (sb (bx x)) := by
  have hb := bx_range x
  rw [J_of, ← Int32.toInt_inj, Int8.toInt_toInt32, J_toInt (by unfold sb; split <;> omega) (by unfold sb; split <;> omega), ← Int8.toInt_toBitVec, Int32.toBitVec_toInt8, Int64.toBitVec_toInt32, BitVec.signExtend_eq_setWidth_of_le _ (by omega), BitVec.signExtend_eq_setWidth_of_le _ (by omega), BitVec.toInt_eq_toNat_cond, BitVec.toNat_setWidth, BitVec.toNat_setWidth]
  rw [bx_nat]
  unfold sb
  split <;> split <;> omega
theorem sb_sb {b : Int} (h : 0 ≤ b ∧ b < 256) : (J (sb b)).toInt8.toInt32 = J (sb b) := by
  rw [← Int32.toInt_inj, Int8.toInt_toInt32, J_toInt (by unfold sb; split <;> omega) (by unfold sb; split <;> omega), Int32.toInt_toInt8, J_toInt (by unfold sb; split <;> omega) (by unfold sb; split <;> omega)]
  unfold sb
  split
  · rw [Int.bmod_eq_of_le (by omega) (by omega)]
  · rw [Int.bmod_eq_of_le (by omega) (by omega)]
section TH
variable {σ : Sg} {h0 s0 w0 d n : Nat} {I : Nat → Nat → Int} {X : XX} {I2 : Nat → Nat → Int} {X2 : XX}
def axd (I : Nat → Nat → Int) (v : Int64) (tl n j : Nat) : Nat → Nat → Int := fun c i => if c = 2 ∧ tl ≤ i ∧ i < tl + j then sb (bx (byv v (n - 1 - (i - tl)))) else if c = 1 ∧ i = 0 then ((tl + j : Nat) : Int) else I c i
def amd (I : Nat → Nat → Int) (v : Int64) (tl n j : Nat) : Nat → Nat → Int := fun c i => if c = 1 ∧ tl ≤ i ∧ i < tl + j then bx (byv v (n - 1 - (i - tl))) else if c = 0 ∧ i = 10 then ((tl + j : Nat) : Int) else I c i
theorem axd_step {v : Int64} {tl n j : Nat} (hj : j < n) : q_up (q_up (axd I v tl n j) 2 (tl + j) (sb (bx (byv v (n - 1 - j))))) 1 0 (((tl + j : Nat) : Int) + 1) = axd I v tl n (j + 1) := by
  funext c i
  unfold q_up axd
  by_cases z : c = 1 ∧ i = 0
  · rw [if_pos z, if_neg (by omega), if_pos z]
    omega
  · rw [if_neg z, if_neg z, if_neg z]
    by_cases y : c = 2 ∧ i = tl + j
    · rw [if_pos y, if_pos (by omega), show i - tl = j by omega]
    · rw [if_neg y]
      by_cases x : c = 2 ∧ tl ≤ i ∧ i < tl + j
      · rw [if_pos x, if_pos (by omega)]
      · rw [if_neg x, if_neg (by omega)]
theorem amd_step {v : Int64} {tl n j : Nat} (hj : j < n) : q_up (q_up (amd I v tl n j) 1 (tl + j) (bx (byv v (n - 1 - j)))) 0 10 (((tl + j : Nat) : Int) + 1) = amd I v tl n (j + 1) := by
  funext c i
  unfold q_up amd
  by_cases z : c = 0 ∧ i = 10
  · rw [if_pos z, if_neg (by omega), if_pos z]
    omega
  · rw [if_neg z, if_neg z, if_neg z]
    by_cases y : c = 1 ∧ i = tl + j
    · rw [if_pos y, if_pos (by omega), show i - tl = j by omega]
    · rw [if_neg y]
      by_cases x : c = 1 ∧ tl ≤ i ∧ i < tl + j
      · rw [if_pos x, if_pos (by omega)]
      · rw [if_neg x, if_neg (by omega)]
-- method 8: StraightTax$Text.add.(JI)I
theorem l_addT (hR : X.2 = rX h0 s0 w0) {v : Int64} {tl : Nat} (h8 : n ≤ 8) (h200 : tl + n ≤ 200) : ∀ m : Nat, m ≤ n → K shX d 8 20 [some (.ref 1), some (.long v), none, some (.int (J (n : Int))), some (.int (J ((m : Int) - 1)))] [] (axd I v tl n (n - m), X) (fun r S2 => r = some (.int (J ((tl + n : Nat) : Int))) ∧ S2 = (axd I v tl n n, X)) := by
  intro m
  induction m with
  | zero =>
    intro hm
    refine k_iload i_8_20 rfl ?_
    refine k_if_lt (t := 59) i_8_22 rfl (by omega) (fun g => ?_) (fun g => ?_)
    · refine k_aload_n i_8_59 rfl ?_
      refine k_gfV (a := ((tl + n : Nat) : Int)) i_8_60 f_6_9 (by first | rfl | assumption | (rw [hR]; rfl) | (dsimp only; rw [hR]; rfl)) (by decide) (by decide) (Or.inl rfl) (by rw [Nat.sub_zero]; dsimp only; unfold axd; rw [if_neg (by omega), if_pos ⟨rfl, rfl⟩]) ?_
      refine k_iret i_8_63 qt_8 ?_
      exact ⟨rfl, by rw [Nat.sub_zero]⟩
    · omega
  | succ m ih =>
    intro hm
    have e1 : ((m + 1 : Nat) : Int) - 1 = (m : Int) := by omega
    rw [e1]
    have hl : axd I v tl n (n - (m + 1)) 1 0 = ((tl + (n - (m + 1)) : Nat) : Int) := by unfold axd; rw [if_neg (by omega), if_pos ⟨rfl, rfl⟩]
    refine k_iload i_8_20 rfl ?_
    refine k_if_lt (t := 59) i_8_22 rfl (by omega) (fun g => ?_) (fun g => ?_)
    · omega
    · refine k_aload_n i_8_25 rfl ?_
      refine k_gfR i_8_26 f_6_15 (by first | rfl | assumption | (rw [hR]; rfl) | (dsimp only; rw [hR]; rfl)) (by decide) (by decide) (Or.inr ⟨_, rfl⟩) (by first | rfl | assumption | (rw [hR]; rfl) | (dsimp only; rw [hR]; rfl)) ?_
      refine k_aload_n i_8_29 rfl ?_
      refine k_gfV (a := ((tl + (n - (m + 1)) : Nat) : Int)) i_8_30 f_6_9 (by first | rfl | assumption | (rw [hR]; rfl) | (dsimp only; rw [hR]; rfl)) (by decide) (by decide) (Or.inl rfl) (hl) ?_
      refine k_lload_n i_8_33 rfl ?_
      refine k_bipush i_8_34 (by decide) ?_
      refine k_iload i_8_36 rfl ?_
      refine k_imul i_8_38 ?_
      refine k_lshr i_8_39 ?_
      refine k_l2i (c := (byv v m).toInt32.toInt) i_8_40 (J_of _).symm ?_
      refine k_i2b (c := sb (bx (byv v m))) i_8_41 (bx_sb _) ?_
      refine k_bast (b := sb (bx (byv v m))) i_8_42 rfl (by decide) (by omega) (by omega) (sb_sb (bx_range _)) ?_
      refine k_aload_n i_8_43 rfl ?_
      first | refine k_dupA i_8_44 ?_ | refine k_dupI i_8_44 ?_
      refine k_gfV (a := ((tl + (n - (m + 1)) : Nat) : Int)) i_8_45 f_6_9 (by first | rfl | assumption | (rw [hR]; rfl) | (dsimp only; rw [hR]; rfl)) (by decide) (by decide) (Or.inl rfl) (by dsimp only; rw [q_up_o (by omega)]; exact hl) ?_
      refine k_iconst i_8_48 ?_
      refine k_iadd i_8_49 ?_
      refine k_pfI i_8_50 f_6_9 (by first | rfl | assumption | (rw [hR]; rfl) | (dsimp only; rw [hR]; rfl)) (by decide) rfl ?_
      rw [show (((tl + (n - (m + 1)) : Nat) : Int)).toNat = tl + (n - (m + 1)) by omega]
      dsimp only
      have e2 := axd_step (I := I) (v := v) (tl := tl) (n := n) (j := n - (m + 1)) (by omega)
      rw [show n - 1 - (n - (m + 1)) = m by omega] at e2
      rw [e2]
      refine k_iinc i_8_53 rfl (Nat.le_of_ble_eq_true rfl) ?_
      dsimp only [q_st1, q_st2, q_unl]
      refine k_goto (t := 20) i_8_56 rfl ?_
      have h := ih (by omega)
      rw [show n - m = n - (m + 1) + 1 by omega] at h
      exact h
theorem e_addT (hR : X.2 = rX h0 s0 w0) (v : Int64) {tl : Nat} (hl : I 1 0 = (tl : Int)) (h8 : n ≤ 8) (h200 : tl + n ≤ 200) : KC shX d 8 [.ref 1, .long v, .int (J (n : Int))] (I, X) (fun r S2 => r = some (.int (J ((tl + n : Nat) : Int))) ∧ S2 = (axd I v tl n n, X)) := by
  have e : axd I v tl n (n - n) = I := by
    rw [Nat.sub_self]
    funext c i
    unfold axd
    rw [if_neg (by omega)]
    by_cases z : c = 1 ∧ i = 0
    · rw [if_pos z, z.1, z.2, hl]; rfl
    · rw [if_neg z]
  refine k_start ql_8 (Nat.le_of_ble_eq_true rfl) ?_
  simp only [q_en, List.replicate]
  refine k_aload_n i_8_0 rfl ?_
  refine k_gfV (a := (tl : Int)) i_8_1 f_6_9 (by first | rfl | assumption | (rw [hR]; rfl) | (dsimp only; rw [hR]; rfl)) (by decide) (by decide) (Or.inl rfl) (hl) ?_
  refine k_iload_n i_8_4 rfl ?_
  refine k_iadd i_8_5 ?_
  refine k_sipush i_8_6 (by decide) ?_
  refine k_ic_le (t := 15) i_8_9 rfl (by omega) (by omega) (fun g => ?_) (fun g => ?_)
  · refine k_iload_n i_8_15 rfl ?_
    refine k_iconst i_8_16 ?_
    refine k_isub i_8_17 ?_
    refine k_istore i_8_18 (Nat.le_of_ble_eq_true rfl) ?_
    dsimp only [q_st1, q_st2, q_unl]
    have h := l_addT (d := d) (I := I) (v := v) hR h8 h200 n (Nat.le_refl _)
    rw [e] at h
    exact h
  · omega
theorem e_addTF (hR : X.2 = rX h0 s0 w0) (v : Int64) {tl : Nat} (hl : I 1 0 = (tl : Int)) (h8 : n ≤ 8) (htl : tl ≤ 200) (h200 : 200 < tl + n) : KC shX d 8 [.ref 1, .long v, .int (J (n : Int))] (I, X) (fun r S2 => r = some (.int (J (-3))) ∧ S2 = (I, X)) := by
  refine k_start ql_8 (Nat.le_of_ble_eq_true rfl) ?_
  simp only [q_en, List.replicate]
  refine k_aload_n i_8_0 rfl ?_
  refine k_gfV (a := (tl : Int)) i_8_1 f_6_9 (by first | rfl | assumption | (rw [hR]; rfl) | (dsimp only; rw [hR]; rfl)) (by decide) (by decide) (Or.inl rfl) (hl) ?_
  refine k_iload_n i_8_4 rfl ?_
  refine k_iadd i_8_5 ?_
  refine k_sipush i_8_6 (by decide) ?_
  refine k_ic_le (t := 15) i_8_9 rfl (by omega) (by omega) (fun g => ?_) (fun g => ?_)
  · omega
  · refine k_bipush i_8_12 (by decide) ?_
    refine k_iret i_8_14 qt_8 ?_
    exact ⟨rfl, rfl⟩
-- method 99: StraightTaxModel.type.(JI)I
theorem l_mtype (hR : X.2 = rM) {v : Int64} {tl : Nat} (h8 : n ≤ 8) (h200 : tl + n ≤ 200) : ∀ m : Nat, m ≤ n → K shM d 99 34 [some (.ref 0), some (.long v), none, some (.int (J (n : Int))), some (.int (J ((m : Int) - 1)))] [] (amd I v tl n (n - m), X) (fun r S2 => r = some (.int (J ((tl + n : Nat) : Int))) ∧ S2 = (amd I v tl n n, X)) := by
  intro m
  induction m with
  | zero =>
    intro hm
    refine k_iload i_99_34 rfl ?_
    refine k_if_lt (t := 76) i_99_36 rfl (by omega) (fun g => ?_) (fun g => ?_)
    · refine k_aload_n i_99_76 rfl ?_
      refine k_gfV (a := ((tl + n : Nat) : Int)) i_99_77 f_12_89 (by first | rfl | assumption | (rw [hR]; rfl) | (dsimp only; rw [hR]; rfl)) (by decide) (by decide) (Or.inl rfl) (by rw [Nat.sub_zero]; dsimp only; unfold amd; rw [if_neg (by omega), if_pos ⟨rfl, rfl⟩]) ?_
      refine k_iret i_99_80 qt_99 ?_
      exact ⟨rfl, by rw [Nat.sub_zero]⟩
    · omega
  | succ m ih =>
    intro hm
    have e1 : ((m + 1 : Nat) : Int) - 1 = (m : Int) := by omega
    rw [e1]
    have hl : amd I v tl n (n - (m + 1)) 0 10 = ((tl + (n - (m + 1)) : Nat) : Int) := by unfold amd; rw [if_neg (by omega), if_pos ⟨rfl, rfl⟩]
    refine k_iload i_99_34 rfl ?_
    refine k_if_lt (t := 76) i_99_36 rfl (by omega) (fun g => ?_) (fun g => ?_)
    · omega
    · refine k_aload_n i_99_39 rfl ?_
      refine k_gfR i_99_40 f_12_25 (by first | rfl | assumption | (rw [hR]; rfl) | (dsimp only; rw [hR]; rfl)) (by decide) (by decide) (Or.inr ⟨_, rfl⟩) (by first | rfl | assumption | (rw [hR]; rfl) | (dsimp only; rw [hR]; rfl)) ?_
      refine k_aload_n i_99_43 rfl ?_
      refine k_gfV (a := ((tl + (n - (m + 1)) : Nat) : Int)) i_99_44 f_12_89 (by first | rfl | assumption | (rw [hR]; rfl) | (dsimp only; rw [hR]; rfl)) (by decide) (by decide) (Or.inl rfl) (hl) ?_
      refine k_lload_n i_99_47 rfl ?_
      refine k_bipush i_99_48 (by decide) ?_
      refine k_iload i_99_50 rfl ?_
      refine k_imul i_99_52 ?_
      refine k_lshr i_99_53 ?_
      refine k_ldc2J (a := 255) i_99_54 l_12_92 (by decide) ?_
      refine k_land i_99_57 ?_
      refine k_l2i (c := bx (byv v m)) i_99_58 (J_of _).symm ?_
      refine k_iast i_99_59 (by first | rfl | assumption | (rw [hR]; rfl) | (dsimp only; rw [hR]; rfl)) (by decide) (by omega) (by omega) ?_
      refine k_aload_n i_99_60 rfl ?_
      first | refine k_dupA i_99_61 ?_ | refine k_dupI i_99_61 ?_
      refine k_gfV (a := ((tl + (n - (m + 1)) : Nat) : Int)) i_99_62 f_12_89 (by first | rfl | assumption | (rw [hR]; rfl) | (dsimp only; rw [hR]; rfl)) (by decide) (by decide) (Or.inl rfl) (by dsimp only; rw [q_up_o (by omega)]; exact hl) ?_
      refine k_iconst i_99_65 ?_
      refine k_iadd i_99_66 ?_
      refine k_pfI i_99_67 f_12_89 (by first | rfl | assumption | (rw [hR]; rfl) | (dsimp only; rw [hR]; rfl)) (by decide) rfl ?_
      rw [show (((tl + (n - (m + 1)) : Nat) : Int)).toNat = tl + (n - (m + 1)) by omega]
      dsimp only
      have e2 := amd_step (I := I) (v := v) (tl := tl) (n := n) (j := n - (m + 1)) (by omega)
      rw [show n - 1 - (n - (m + 1)) = m by omega] at e2
      rw [e2]
      refine k_iinc i_99_70 rfl (Nat.le_of_ble_eq_true rfl) ?_
      dsimp only [q_st1, q_st2, q_unl]
      refine k_goto (t := 34) i_99_73 rfl ?_
      have h := ih (by omega)
      rw [show n - m = n - (m + 1) + 1 by omega] at h
      exact h
theorem t_type (hX : XI σ h0 s0 w0 I X) (hM : MI σ I2 X2) (hS : SOK σ) (v : Int64) (a : Int) (ha : inJ a) : Both σ h0 s0 w0 I X I2 X2 67 99 [.long v, .int (J a)] := by
  have hR := hX.rf
  have hR2 := hM.rf
  have htl := hS.tl
  have hl2 : I2 0 10 = (σ.tl : Int) := hM.tl
  by_cases z : 1 ≤ a ∧ a ≤ 8
  · obtain ⟨k, hk, rfl⟩ : ∃ k : Nat, k ≤ 8 ∧ a = (k : Int) := ⟨a.toNat, by omega, by omega⟩
    by_cases y : σ.tl + k ≤ 200
    · refine ⟨.int (J ((σ.tl + k : Nat) : Int)), σ.setL (σ.tl + k) (fun i => if σ.tl ≤ i then bx (byv v (k - 1 - (i - σ.tl))) else σ.tb i), ⟨hS.ok, y, fun i hi => ?_, hS.wk, hS.im, hS.er⟩, ?_, ?_⟩
      · show 0 ≤ (if σ.tl ≤ i then bx (byv v (k - 1 - (i - σ.tl))) else σ.tb i) ∧ (if σ.tl ≤ i then bx (byv v (k - 1 - (i - σ.tl))) else σ.tb i) < 256
        split
        · exact bx_range _
        · exact hS.tb i (by omega)
      · unfold OX
-- method 67: StraightTax.type.(JI)I
        refine k_start ql_67 (Nat.le_of_ble_eq_true rfl) ?_
        simp only [q_en, List.replicate]
        refine k_iload_n i_67_0 rfl ?_
        refine k_iconst i_67_1 ?_
        refine k_ic_lt (t := 11) i_67_2 rfl (by omega) (by omega) (fun h => ?_) (fun h => ?_)
        · omega
        · refine k_iload_n i_67_5 rfl ?_
          refine k_bipush i_67_6 (by decide) ?_
          refine k_ic_le (t := 13) i_67_8 rfl (by omega) (by omega) (fun g => ?_) (fun g => ?_)
          · refine k_aload_n i_67_13 rfl ?_
            refine k_gfR i_67_14 f_11_12 (by first | rfl | assumption | (rw [hR]; rfl) | (dsimp only; rw [hR]; rfl)) (by decide) (by decide) (Or.inl ⟨_, rfl⟩) (by first | rfl | assumption | (rw [hR]; rfl) | (dsimp only; rw [hR]; rfl)) ?_
            refine k_lload_n i_67_17 rfl ?_
            refine k_iload_n i_67_18 rfl ?_
            refine k_cv2 i_67_19 c_11_81 qp_8 qo_8 (by first | rfl | assumption | (rw [hR]; rfl) | (dsimp only; rw [hR]; rfl)) (Nat.le_of_ble_eq_true rfl) (e_addT hR v hX.tl hk y) (fun v S2 h => ?_)
            obtain ⟨rfl, rfl⟩ := h
            show K shX 21 67 22 _ [.int (J ((σ.tl + k : Nat) : Int))] _ _
            refine k_iret i_67_22 qt_67 ?_
            have ec : ∀ c, c ≠ 1 → c ≠ 2 → axd I v σ.tl k k c = I c := by
              intro c h1 h2
              funext i
              unfold axd
              rw [if_neg (fun y => h2 y.1), if_neg (fun y => h1 y.1)]
            refine ⟨rfl, _, _, _, hX.upd (L := X.1) rfl (fun c hc => ec c (by omega) (by omega)) ?_ (fun i hi => ?_) (hX.wk.same (fun k hk => ec _ (by omega) (by omega))) (fun j hj => ⟨?_, fun hk => ((hX.kp j hj).2 hk).same (fun k hk => ec _ (by omega) (by omega))⟩) (hX.er.sc (fun c hc' => ec c (by omega) (by omega))) hX.mk⟩
            · dsimp only
              unfold axd
              rw [if_neg (by omega), if_pos ⟨rfl, rfl⟩]
            · change i < σ.tl + k at hi
              show axd I v σ.tl k k 2 i = sb (if σ.tl ≤ i then bx (byv v (k - 1 - (i - σ.tl))) else σ.tb i)
              unfold axd
              by_cases x : σ.tl ≤ i
              · rw [if_pos ⟨rfl, x, hi⟩, if_pos x]
              · rw [if_neg (by omega), if_neg (by omega), if_neg x]
                exact hX.tb i (by omega)
            · dsimp only
              rw [ec 19 (by omega) (by omega)]
              exact (hX.kp j hj).1
          · omega
      · have hR := hR2
        unfold OM
-- method 99: StraightTaxModel.type.(JI)I
        refine k_start ql_99 (Nat.le_of_ble_eq_true rfl) ?_
        simp only [q_en, List.replicate]
        refine k_iload_n i_99_0 rfl ?_
        refine k_i2lJ i_99_1 (by omega) ?_
        refine k_lconstJ (a := 1) i_99_2 rfl ?_
        refine k_ldc2J (a := 8) i_99_3 l_12_87 (by decide) ?_
        refine k_sp3 i_99_6 c_12_72 (by decide) qp_100 (Nat.le_of_ble_eq_true rfl) (m_in _ _ _ (by omega) (by omega) (by omega)) ?_
        refine k_if_neB (t := 14) i_99_9 rfl (fun h => ?_) (fun h => ?_)
        · refine k_aload_n i_99_14 rfl ?_
          refine k_gfV (a := (σ.tl : Int)) i_99_15 f_12_89 (by first | rfl | assumption | (rw [hR]; rfl) | (dsimp only; rw [hR]; rfl)) (by decide) (by decide) (Or.inl rfl) (hl2) ?_
          refine k_iload_n i_99_18 rfl ?_
          refine k_iadd i_99_19 ?_
          refine k_sipush i_99_20 (by decide) ?_
          refine k_ic_le (t := 29) i_99_23 rfl (by omega) (by omega) (fun g => ?_) (fun g => ?_)
          · refine k_iload_n i_99_29 rfl ?_
            refine k_iconst i_99_30 ?_
            refine k_isub i_99_31 ?_
            refine k_istore i_99_32 (Nat.le_of_ble_eq_true rfl) ?_
            dsimp only [q_st1, q_st2, q_unl]
            have e : amd I2 v σ.tl k (k - k) = I2 := by
              rw [Nat.sub_self]
              funext c i
              unfold amd
              rw [if_neg (by omega)]
              by_cases z : c = 0 ∧ i = 10
              · rw [if_pos z, z.1, z.2, hl2]; rfl
              · rw [if_neg z]
            have h1 := l_mtype (d := 21) (I := I2) (v := v) hR hk y k (Nat.le_refl _)
            rw [e] at h1
            refine h1.mono (fun r S2 hh => ?_)
            obtain ⟨rfl, rfl⟩ := hh
            have ec : ∀ c, c ≠ 0 → c ≠ 1 → amd I2 v σ.tl k k c = I2 c := by
              intro c h1 h2
              funext i
              unfold amd
              rw [if_neg (fun y => h2 y.1), if_neg (fun y => h1 y.1)]
            have e0 : ∀ i, i ≠ 10 → amd I2 v σ.tl k k 0 i = I2 0 i := by
              intro i h1
              unfold amd
              rw [if_neg (by omega), if_neg (by omega)]
            refine ⟨rfl, hM.upd (L := X2.1) rfl (fun k hk => e0 _ (by omega)) ?_ (fun i hi => ?_) (hM.wk.same (ec 2 (by omega) (by omega))) (fun j hj => ⟨?_, fun hk => ((hM.kp j hj).2 hk).same (ec 2 (by omega) (by omega))⟩) ?_ hM.mk⟩
            · dsimp only
              unfold amd
              rw [if_neg (by omega), if_pos ⟨rfl, rfl⟩]
            · change i < σ.tl + k at hi
              show amd I2 v σ.tl k k 1 i = (if σ.tl ≤ i then bx (byv v (k - 1 - (i - σ.tl))) else σ.tb i)
              unfold amd
              by_cases x : σ.tl ≤ i
              · rw [if_pos ⟨rfl, x, hi⟩, if_pos x]
              · rw [if_neg (by omega), if_neg (by omega), if_neg x]
                exact hM.tb i (by omega)
            · dsimp only
              rw [ec 3 (by omega) (by omega)]
              exact (hM.kp j hj).1
            · have h1 := hM.er
              unfold MEr at h1 ⊢
              dsimp only
              rw [e0 13 (by omega), ec 4 (by omega) (by omega), ec 5 (by omega) (by omega)]
              exact h1
          · omega
        · rw [decide_eq_true z] at h; cases h
    · refine ⟨.int (J (-3)), σ, hS, ?_, ?_⟩
      · unfold OX
-- method 67: StraightTax.type.(JI)I
        refine k_start ql_67 (Nat.le_of_ble_eq_true rfl) ?_
        simp only [q_en, List.replicate]
        refine k_iload_n i_67_0 rfl ?_
        refine k_iconst i_67_1 ?_
        refine k_ic_lt (t := 11) i_67_2 rfl (by omega) (by omega) (fun h => ?_) (fun h => ?_)
        · omega
        · refine k_iload_n i_67_5 rfl ?_
          refine k_bipush i_67_6 (by decide) ?_
          refine k_ic_le (t := 13) i_67_8 rfl (by omega) (by omega) (fun g => ?_) (fun g => ?_)
          · refine k_aload_n i_67_13 rfl ?_
            refine k_gfR i_67_14 f_11_12 (by first | rfl | assumption | (rw [hR]; rfl) | (dsimp only; rw [hR]; rfl)) (by decide) (by decide) (Or.inl ⟨_, rfl⟩) (by first | rfl | assumption | (rw [hR]; rfl) | (dsimp only; rw [hR]; rfl)) ?_
            refine k_lload_n i_67_17 rfl ?_
            refine k_iload_n i_67_18 rfl ?_
            refine k_cv2 i_67_19 c_11_81 qp_8 qo_8 (by first | rfl | assumption | (rw [hR]; rfl) | (dsimp only; rw [hR]; rfl)) (Nat.le_of_ble_eq_true rfl) (e_addTF hR v hX.tl hk htl (by omega)) (fun v S2 h => ?_)
            obtain ⟨rfl, rfl⟩ := h
            show K shX 21 67 22 _ [.int (J (-3))] _ _
            refine k_iret i_67_22 qt_67 ?_
            exact ⟨rfl, _, _, _, hX⟩
          · omega
      · have hR := hR2
        unfold OM
-- method 99: StraightTaxModel.type.(JI)I
        refine k_start ql_99 (Nat.le_of_ble_eq_true rfl) ?_
        simp only [q_en, List.replicate]
        refine k_iload_n i_99_0 rfl ?_
        refine k_i2lJ i_99_1 (by omega) ?_
        refine k_lconstJ (a := 1) i_99_2 rfl ?_
        refine k_ldc2J (a := 8) i_99_3 l_12_87 (by decide) ?_
        refine k_sp3 i_99_6 c_12_72 (by decide) qp_100 (Nat.le_of_ble_eq_true rfl) (m_in _ _ _ (by omega) (by omega) (by omega)) ?_
        refine k_if_neB (t := 14) i_99_9 rfl (fun h => ?_) (fun h => ?_)
        · refine k_aload_n i_99_14 rfl ?_
          refine k_gfV (a := (σ.tl : Int)) i_99_15 f_12_89 (by first | rfl | assumption | (rw [hR]; rfl) | (dsimp only; rw [hR]; rfl)) (by decide) (by decide) (Or.inl rfl) (hl2) ?_
          refine k_iload_n i_99_18 rfl ?_
          refine k_iadd i_99_19 ?_
          refine k_sipush i_99_20 (by decide) ?_
          refine k_ic_le (t := 29) i_99_23 rfl (by omega) (by omega) (fun g => ?_) (fun g => ?_)
          · omega
          · refine k_bipush i_99_26 (by decide) ?_
            refine k_iret i_99_28 qt_99 ?_
            exact ⟨rfl, hM⟩
        · rw [decide_eq_true z] at h; cases h
  · refine ⟨.int (J (-1)), σ, hS, ?_, ?_⟩
    · unfold OX
-- method 67: StraightTax.type.(JI)I
      refine k_start ql_67 (Nat.le_of_ble_eq_true rfl) ?_
      simp only [q_en, List.replicate]
      refine k_iload_n i_67_0 rfl ?_
      refine k_iconst i_67_1 ?_
      refine k_ic_lt (t := 11) i_67_2 rfl (by omega) (by omega) (fun h => ?_) (fun h => ?_)
      · refine k_iconst i_67_11 ?_
        refine k_iret i_67_12 qt_67 ?_
        exact ⟨rfl, _, _, _, hX⟩
      · refine k_iload_n i_67_5 rfl ?_
        refine k_bipush i_67_6 (by decide) ?_
        refine k_ic_le (t := 13) i_67_8 rfl (by omega) (by omega) (fun g => ?_) (fun g => ?_)
        · omega
        · refine k_iconst i_67_11 ?_
          refine k_iret i_67_12 qt_67 ?_
          exact ⟨rfl, _, _, _, hX⟩
    · have hR := hR2
      unfold OM
-- method 99: StraightTaxModel.type.(JI)I
      refine k_start ql_99 (Nat.le_of_ble_eq_true rfl) ?_
      simp only [q_en, List.replicate]
      refine k_iload_n i_99_0 rfl ?_
      refine k_i2lJ i_99_1 (by omega) ?_
      refine k_lconstJ (a := 1) i_99_2 rfl ?_
      refine k_ldc2J (a := 8) i_99_3 l_12_87 (by decide) ?_
      refine k_sp3 i_99_6 c_12_72 (by decide) qp_100 (Nat.le_of_ble_eq_true rfl) (m_in _ _ _ (by omega) (by omega) (by omega)) ?_
      refine k_if_neB (t := 14) i_99_9 rfl (fun h => ?_) (fun h => ?_)
      · rw [decide_eq_false z] at h; cases h
      · refine k_iconst i_99_12 ?_
        refine k_iret i_99_13 qt_99 ?_
        exact ⟨rfl, hM⟩
end TH
