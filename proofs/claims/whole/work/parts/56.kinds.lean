/-! CALLS: rating, keep, back -/
section TF
variable {σ : Sg} {h0 s0 w0 d n : Nat} {I : Nat → Nat → Int} {X : XX} {I2 : Nat → Nat → Int} {X2 : XX}
-- method 156: java/lang/Math.max.(II)I
theorem e_max {sh : QH} {S : QS} (a b : Int) (ha : inJ a) (hb : inJ b) : KP sh d 156 [.int (J a), .int (J b)] S (.int (J (max a b))) := by
  refine k_start ql_156 (Nat.le_of_ble_eq_true rfl) ?_
  simp only [q_en, List.replicate]
  refine k_iload_n i_156_0 rfl ?_
  refine k_iload_n i_156_1 rfl ?_
  refine k_ic_lt (t := 9) i_156_2 rfl (by omega) (by omega) (fun h2 => ?_) (fun h2 => ?_)
  · refine k_iload_n i_156_9 rfl ?_
    refine k_iret i_156_10 qt_156 ?_
    exact ⟨by congr 3; omega, rfl⟩
  · refine k_iload_n i_156_5 rfl ?_
    refine k_goto (t := 10) i_156_6 rfl ?_
    refine k_iret i_156_10 qt_156 ?_
    exact ⟨by congr 3; omega, rfl⟩
theorem L_a (x : Int64) (a b c : Int) (h : JL a + JL b = JL c) : x + JL a + JL b = x + JL c := by rw [Int64.add_assoc, h]
-- method 46: StraightTax$Walker.rate.(LStraightTax;)I
theorem e_walker (hR : X.2 = rX h0 s0 w0) {k : Wk} (hW : XWk I 3 k) (c : Nat) : KC shX d 46 [.ref c, .ref 0] (I, X) (fun r S2 => r = some (.int (J k.paid)) ∧ ∃ L, S2 = (I, L, X.2) ∧ L 0 9 = X.1 0 9 + JL 1) := by
  refine k_start ql_46 (Nat.le_of_ble_eq_true rfl) ?_
  simp only [q_en, List.replicate]
  refine k_aload_n i_46_0 rfl ?_
  first | refine k_dupA i_46_1 ?_ | refine k_dupI i_46_1 ?_
  refine k_gfL i_46_2 f_9_7 (by first | rfl | assumption | (rw [hR]; rfl) | (dsimp only; rw [hR]; rfl)) (by decide) (by decide) rfl ?_
  refine k_lconstJ (a := 1) i_46_5 rfl ?_
  refine k_ladd i_46_6 ?_
  refine k_pfL i_46_7 f_9_7 (by first | rfl | assumption | (rw [hR]; rfl) | (dsimp only; rw [hR]; rfl)) (by decide) rfl ?_
  refine k_aload_n i_46_10 rfl ?_
  refine k_gfR i_46_11 f_9_13 (by first | rfl | assumption | (rw [hR]; rfl) | (dsimp only; rw [hR]; rfl)) (by decide) (by decide) (Or.inl ⟨_, rfl⟩) (by first | rfl | assumption | (rw [hR]; rfl) | (dsimp only; rw [hR]; rfl)) ?_
  refine k_gfV (a := k.paid) i_46_14 f_9_17 (by first | rfl | assumption | (rw [hR]; rfl) | (dsimp only; rw [hR]; rfl)) (by decide) (by decide) (Or.inl rfl) (hW.2.1) ?_
  refine k_iret i_46_17 qt_46 ?_
  exact ⟨rfl, _, rfl, q_up_s⟩
-- method 3: StraightTax$Drover.rate.(LStraightTax;)I
theorem e_drover (hR : X.2 = rX h0 s0 w0) {k : Wk} (hW : XWk I 3 k) {c ci z : Nat} (hc : shX[c]? = some (ci, z)) (hci : ci < 13) : KC shX (d + 1) 3 [.ref c, .ref 0] (I, X) (fun r S2 => r = some (.int (J (k.paid + k.n))) ∧ ∃ L, S2 = (I, L, X.2) ∧ L 0 9 = X.1 0 9 + JL 11) := by
  refine k_start ql_3 (Nat.le_of_ble_eq_true rfl) ?_
  simp only [q_en, List.replicate]
  refine k_aload_n i_3_0 rfl ?_
  first | refine k_dupA i_3_1 ?_ | refine k_dupI i_3_1 ?_
  refine k_gfL i_3_2 f_3_7 (by first | rfl | assumption | (rw [hR]; rfl) | (dsimp only; rw [hR]; rfl)) (by decide) (by decide) rfl ?_
  refine k_ldc2J (a := 10) i_3_5 l_3_13 (by decide) ?_
  refine k_ladd i_3_8 ?_
  refine k_pfL i_3_9 f_3_7 (by first | rfl | assumption | (rw [hR]; rfl) | (dsimp only; rw [hR]; rfl)) (by decide) rfl ?_
  refine k_aload_n i_3_12 rfl ?_
  refine k_aload_n i_3_13 rfl ?_
  refine k_su1 i_3_14 c_3_15 qp_46 hc hci (Nat.le_of_ble_eq_true rfl) (e_walker (X := (q_up X.1 0 9 (X.1 0 9 + JL 10), X.2)) hR hW c) (fun v S2 h => ?_)
  obtain ⟨rfl, L, rfl, hL⟩ := h
  show K shX (d + 1) 3 17 _ [.int (J k.paid)] _ _
  refine k_aload_n i_3_17 rfl ?_
  refine k_gfR i_3_18 f_3_19 (by first | rfl | assumption | (rw [hR]; rfl) | (dsimp only; rw [hR]; rfl)) (by decide) (by decide) (Or.inl ⟨_, rfl⟩) (by first | rfl | assumption | (rw [hR]; rfl) | (dsimp only; rw [hR]; rfl)) ?_
  refine k_gfV (a := (k.n : Int)) i_3_21 f_3_23 (by first | rfl | assumption | (rw [hR]; rfl) | (dsimp only; rw [hR]; rfl)) (by decide) (by decide) (Or.inl rfl) (hW.2.2.1) ?_
  refine k_iadd i_3_24 ?_
  refine k_iret i_3_25 qt_3 ?_
  refine ⟨rfl, L, rfl, ?_⟩
  rw [hL]
  show q_up X.1 0 9 (X.1 0 9 + JL 10) 0 9 + JL 1 = _
  rw [q_up_s]
  exact L_a _ _ _ _ (by decide)
-- method 1: StraightTax$Courtier.rate.(LStraightTax;)I
theorem e_courtier (hR : X.2 = rX h0 s0 w0) {k : Wk} (hW : XWk I 3 k) (h60 : k.n ≤ 60) {c ci z : Nat} (hc : shX[c]? = some (ci, z)) (hci : ci < 13) : KC shX (d + 1) 1 [.ref c, .ref 0] (I, X) (fun r S2 => r = some (.int (J (k.paid - wLr k))) ∧ ∃ L, S2 = (I, L, X.2) ∧ L 0 9 = X.1 0 9 + JL 101) := by
  refine k_start ql_1 (Nat.le_of_ble_eq_true rfl) ?_
  simp only [q_en, List.replicate]
  refine k_aload_n i_1_0 rfl ?_
  first | refine k_dupA i_1_1 ?_ | refine k_dupI i_1_1 ?_
  refine k_gfL i_1_2 f_1_7 (by first | rfl | assumption | (rw [hR]; rfl) | (dsimp only; rw [hR]; rfl)) (by decide) (by decide) rfl ?_
  refine k_ldc2J (a := 100) i_1_5 l_1_13 (by decide) ?_
  refine k_ladd i_1_8 ?_
  refine k_pfL i_1_9 f_1_7 (by first | rfl | assumption | (rw [hR]; rfl) | (dsimp only; rw [hR]; rfl)) (by decide) rfl ?_
  refine k_aload_n i_1_12 rfl ?_
  refine k_aload_n i_1_13 rfl ?_
  refine k_su1 i_1_14 c_1_15 qp_46 hc hci (Nat.le_of_ble_eq_true rfl) (e_walker (X := (q_up X.1 0 9 (X.1 0 9 + JL 100), X.2)) hR hW c) (fun v S2 h => ?_)
  obtain ⟨rfl, L, rfl, hL⟩ := h
  show K shX (d + 1) 1 17 _ [.int (J k.paid)] _ _
  refine k_aload_n i_1_17 rfl ?_
  refine k_gfR i_1_18 f_1_19 (by first | rfl | assumption | (rw [hR]; rfl) | (dsimp only; rw [hR]; rfl)) (by decide) (by decide) (Or.inl ⟨_, rfl⟩) (by first | rfl | assumption | (rw [hR]; rfl) | (dsimp only; rw [hR]; rfl)) ?_
  refine k_vp0 i_1_21 c_1_23 qp_42 qo_42 (by first | rfl | assumption | (rw [hR]; rfl) | (dsimp only; rw [hR]; rfl)) (Nat.le_of_ble_eq_true rfl) (e_lastRun (X := (L, X.2)) hR hW h60) ?_
  refine k_isub i_1_24 ?_
  refine k_iret i_1_25 qt_1 ?_
  refine ⟨rfl, L, rfl, ?_⟩
  rw [hL]
  show q_up X.1 0 9 (X.1 0 9 + JL 100) 0 9 + JL 1 = _
  rw [q_up_s]
  exact L_a _ _ _ _ (by decide)
-- method 0: StraightTax$Beggar.rate.(LStraightTax;)I
theorem e_beggar (hR : X.2 = rX h0 s0 w0) {k : Wk} (hW : XWk I 3 k) {e : Nat} (hE : I 20 0 = (e : Int)) {c ci z : Nat} (hc : shX[c]? = some (ci, z)) (hci : ci < 13) : KC shX (d + 1) 0 [.ref c, .ref 0] (I, X) (fun r S2 => r = some (.int (J (k.paid + e))) ∧ ∃ L, S2 = (I, L, X.2) ∧ L 0 9 = X.1 0 9 + JL 100001) := by
  refine k_start ql_0 (Nat.le_of_ble_eq_true rfl) ?_
  simp only [q_en, List.replicate]
  refine k_aload_n i_0_0 rfl ?_
  first | refine k_dupA i_0_1 ?_ | refine k_dupI i_0_1 ?_
  refine k_gfL i_0_2 f_0_7 (by first | rfl | assumption | (rw [hR]; rfl) | (dsimp only; rw [hR]; rfl)) (by decide) (by decide) rfl ?_
  refine k_ldc2J (a := 100000) i_0_5 l_0_13 (by decide) ?_
  refine k_ladd i_0_8 ?_
  refine k_pfL i_0_9 f_0_7 (by first | rfl | assumption | (rw [hR]; rfl) | (dsimp only; rw [hR]; rfl)) (by decide) rfl ?_
  refine k_aload_n i_0_12 rfl ?_
  refine k_aload_n i_0_13 rfl ?_
  refine k_su1 i_0_14 c_0_15 qp_46 hc hci (Nat.le_of_ble_eq_true rfl) (e_walker (X := (q_up X.1 0 9 (X.1 0 9 + JL 100000), X.2)) hR hW c) (fun v S2 h => ?_)
  obtain ⟨rfl, L, rfl, hL⟩ := h
  show K shX (d + 1) 0 17 _ [.int (J k.paid)] _ _
  refine k_aload_n i_0_17 rfl ?_
  refine k_gfR i_0_18 f_0_19 (by first | rfl | assumption | (rw [hR]; rfl) | (dsimp only; rw [hR]; rfl)) (by decide) (by decide) (Or.inl ⟨_, rfl⟩) (by first | rfl | assumption | (rw [hR]; rfl) | (dsimp only; rw [hR]; rfl)) ?_
  refine k_gfV (a := (e : Int)) i_0_21 f_0_23 (by first | rfl | assumption | (rw [hR]; rfl) | (dsimp only; rw [hR]; rfl)) (by decide) (by decide) (Or.inl rfl) (hE) ?_
  refine k_iadd i_0_24 ?_
  refine k_iret i_0_25 qt_0 ?_
  refine ⟨rfl, L, rfl, ?_⟩
  rw [hL]
  show q_up X.1 0 9 (X.1 0 9 + JL 100000) 0 9 + JL 1 = _
  rw [q_up_s]
  exact L_a _ _ _ _ (by decide)
-- method 2: StraightTax$Dancer.rate.(LStraightTax;)I
theorem e_dancer (hR : X.2 = rX h0 s0 w0) {k : Wk} (hW : XWk I 3 k) {c ci z : Nat} (hc : shX[c]? = some (ci, z)) (hci : ci < 13) : KC shX (d + 2) 2 [.ref c, .ref 0] (I, X) (fun r S2 => r = some (.int (J (2 * (k.paid + k.n)))) ∧ ∃ L, S2 = (I, L, X.2) ∧ L 0 9 = X.1 0 9 + JL 1011) := by
  refine k_start ql_2 (Nat.le_of_ble_eq_true rfl) ?_
  simp only [q_en, List.replicate]
  refine k_aload_n i_2_0 rfl ?_
  first | refine k_dupA i_2_1 ?_ | refine k_dupI i_2_1 ?_
  refine k_gfL i_2_2 f_2_7 (by first | rfl | assumption | (rw [hR]; rfl) | (dsimp only; rw [hR]; rfl)) (by decide) (by decide) rfl ?_
  refine k_ldc2J (a := 1000) i_2_5 l_2_13 (by decide) ?_
  refine k_ladd i_2_8 ?_
  refine k_pfL i_2_9 f_2_7 (by first | rfl | assumption | (rw [hR]; rfl) | (dsimp only; rw [hR]; rfl)) (by decide) rfl ?_
  refine k_iconst i_2_12 ?_
  refine k_aload_n i_2_13 rfl ?_
  refine k_aload_n i_2_14 rfl ?_
  refine k_su1 i_2_15 c_2_15 qp_3 hc hci (Nat.le_of_ble_eq_true rfl) (e_drover (X := (q_up X.1 0 9 (X.1 0 9 + JL 1000), X.2)) hR hW hc hci) (fun v S2 h => ?_)
  obtain ⟨rfl, L, rfl, hL⟩ := h
  show K shX (d + 2) 2 18 _ [.int (J (k.paid + k.n)), .int (J 2)] _ _
  refine k_imul i_2_18 ?_
  refine k_iret i_2_19 qt_2 ?_
  refine ⟨rfl, L, rfl, ?_⟩
  rw [hL]
  show q_up X.1 0 9 (X.1 0 9 + JL 1000) 0 9 + JL 11 = _
  rw [q_up_s]
  exact L_a _ _ _ _ (by decide)
-- method 7: StraightTax$Lawyer.rate.(LStraightTax;)I
theorem e_lawyer (hR : X.2 = rX h0 s0 w0) {k : Wk} (hW : XWk I 3 k) (h60 : k.n ≤ 60) (hp : -1 ≤ k.pos ∧ k.pos < 20) {c ci z : Nat} (hc : shX[c]? = some (ci, z)) (hci : ci < 13) : KC shX (d + 2) 7 [.ref c, .ref 0] (I, X) (fun r S2 => r = some (.int (J (k.paid - wLr k + max k.pos 0))) ∧ ∃ L, S2 = (I, L, X.2) ∧ L 0 9 = X.1 0 9 + JL 10101) := by
  refine k_start ql_7 (Nat.le_of_ble_eq_true rfl) ?_
  simp only [q_en, List.replicate]
  refine k_aload_n i_7_0 rfl ?_
  first | refine k_dupA i_7_1 ?_ | refine k_dupI i_7_1 ?_
  refine k_gfL i_7_2 f_5_7 (by first | rfl | assumption | (rw [hR]; rfl) | (dsimp only; rw [hR]; rfl)) (by decide) (by decide) rfl ?_
  refine k_ldc2J (a := 10000) i_7_5 l_5_13 (by decide) ?_
  refine k_ladd i_7_8 ?_
  refine k_pfL i_7_9 f_5_7 (by first | rfl | assumption | (rw [hR]; rfl) | (dsimp only; rw [hR]; rfl)) (by decide) rfl ?_
  refine k_aload_n i_7_12 rfl ?_
  refine k_aload_n i_7_13 rfl ?_
  refine k_su1 i_7_14 c_5_15 qp_1 hc hci (Nat.le_of_ble_eq_true rfl) (e_courtier (X := (q_up X.1 0 9 (X.1 0 9 + JL 10000), X.2)) hR hW h60 hc hci) (fun v S2 h => ?_)
  obtain ⟨rfl, L, rfl, hL⟩ := h
  show K shX (d + 2) 7 17 _ [.int (J (k.paid - wLr k))] _ _
  refine k_aload_n i_7_17 rfl ?_
  refine k_gfR i_7_18 f_5_19 (by first | rfl | assumption | (rw [hR]; rfl) | (dsimp only; rw [hR]; rfl)) (by decide) (by decide) (Or.inl ⟨_, rfl⟩) (by first | rfl | assumption | (rw [hR]; rfl) | (dsimp only; rw [hR]; rfl)) ?_
  refine k_gfV (a := k.pos) i_7_21 f_5_23 (by first | rfl | assumption | (rw [hR]; rfl) | (dsimp only; rw [hR]; rfl)) (by decide) (by decide) (Or.inl rfl) (hW.1) ?_
  refine k_iconst i_7_24 ?_
  refine k_sp2 i_7_25 c_5_29 (by decide) qp_156 (Nat.le_of_ble_eq_true rfl) (e_max _ _ (by omega) (by omega)) ?_
  refine k_iadd i_7_28 ?_
  refine k_iret i_7_29 qt_7 ?_
  refine ⟨rfl, L, rfl, ?_⟩
  rw [hL]
  show q_up X.1 0 9 (X.1 0 9 + JL 10000) 0 9 + JL 101 = _
  rw [q_up_s]
  exact L_a _ _ _ _ (by decide)
abbrev Sg.setK (s : Sg) (m : Int64) : Sg := (s.T, s.tl, s.tb, s.w, s.kp, s.im, s.en, s.fr, s.to, m)
theorem XI.setK {h s w : Nat} {L : Nat → Nat → Int64} {m : Int64} (hX : XI σ h s w I X) (hm : L 0 9 = m) : XI (σ.setK m) h s w I (L, X.2) :=
  hX.upd rfl (fun c hc' => rfl) hX.tl hX.tb hX.wk hX.kp hX.er hm
theorem MI.setK {L : Nat → Nat → Int64} {m : Int64} (hM : MI σ I2 X2) (hm : L 0 16 = m) : MI (σ.setK m) I2 (L, X2.2) :=
  hM.upd rfl (fun k hk => rfl) hM.tl hM.tb hM.wk hM.kp hM.er hm
theorem SOK.setK {m : Int64} (hS : SOK σ) : SOK (σ.setK m) := ⟨hS.ok, hS.tl, hS.tb, hS.wk, hS.im, hS.er⟩
/-- a rating of the class, by the body that a kind has -/
theorem x_rating (hX : XI σ h0 s0 w0 I X) (a : Int) (ha : 0 ≤ a ∧ a < 6) {ci j2 : Nat} {v : Int} {m : Int} (hs : shX[26 + a.toNat]? = some (ci, 0)) (hf : qdt.find? (fun e => e.1 == ci) = some (ci, j2)) (hk : KC shX 20 j2 [.ref (26 + a.toNat), .ref 0] (I, X) (fun r S2 => r = some (.int (J v)) ∧ ∃ L, S2 = (I, L, X.2) ∧ L 0 9 = X.1 0 9 + JL m)) : OX σ h0 s0 w0 93 21 I X [.int (J a)] (.int (J v)) (σ.setK (σ.mk + JL m)) := by
  have hR := hX.rf
  unfold OX
-- method 93: StraightTax.rating.(I)I
  refine k_start ql_93 (Nat.le_of_ble_eq_true rfl) ?_
  simp only [q_en, List.replicate]
  refine k_iload_n i_93_0 rfl ?_
  refine k_if_lt (t := 23) i_93_1 rfl (by omega) (fun h => ?_) (fun h => ?_)
  · omega
  · refine k_iload_n i_93_4 rfl ?_
    refine k_bipush i_93_5 (by decide) ?_
    refine k_ic_ge (t := 23) i_93_7 rfl (by omega) (by omega) (fun g => ?_) (fun g => ?_)
    · omega
    · refine k_aload_n i_93_10 rfl ?_
      refine k_gfR i_93_11 f_11_40 (by first | rfl | assumption | (rw [hR]; rfl) | (dsimp only; rw [hR]; rfl)) (by decide) (by decide) (Or.inr ⟨_, rfl⟩) (by first | rfl | assumption | (rw [hR]; rfl) | (dsimp only; rw [hR]; rfl)) ?_
      refine k_iload_n i_93_14 rfl ?_
      refine k_aald (a := 26 + a.toNat) i_93_15 rfl (Or.inr rfl) (by decide) (by omega) (by omega) ?_ (by omega) ?_
      · show X.2 25 a.toNat = _
        rw [hR]
        show (if a.toNat < 6 then some (a.toNat + 26) else none) = _
        rw [if_pos (by omega), Nat.add_comm]
      refine k_aload_n i_93_16 rfl ?_
      refine k_di1 i_93_17 c_11_245 qp_46 hs hf (Nat.le_of_ble_eq_true rfl) hk (fun v' S2 h => ?_)
      obtain ⟨rfl, L, rfl, hL⟩ := h
      show K shX 21 93 20 _ [.int (J v)] _ _
      refine k_goto (t := 25) i_93_20 rfl ?_
      refine k_iret i_93_25 qt_93 ?_
      exact ⟨rfl, _, _, _, hX.setK (by rw [hL, hX.mk])⟩
theorem t_rating (hX : XI σ h0 s0 w0 I X) (hM : MI σ I2 X2) (hS : SOK σ) (a : Int) (ha : inJ a) : Both σ h0 s0 w0 I X I2 X2 93 142 [.int (J a)] := by
  have hR := hX.rf
  have hR2 := hM.rf
  have hwk := hX.wk
  have hmk := hM.wk
  have h60 := hS.wk.n60
  have hpr := hS.wk.pr hS.ok.1
  have hn2 : I2 2 3 = (σ.w.n : Int) := hmk.2.2.2.1
  have h6 : a = 0 ∨ a = 1 ∨ a = 2 ∨ a = 3 ∨ a = 4 ∨ a = 5 ∨ (a < 0 ∨ 5 < a) := by omega
  rcases h6 with rfl | rfl | rfl | rfl | rfl | rfl | h6
  · refine ⟨_, _, hS.setK, x_rating hX 0 (by omega) rfl rfl (e_walker hR hwk _), ?_⟩
    have hR := hR2
    unfold OM
-- method 142: StraightTaxModel.rating.(I)I
    refine k_start ql_142 (Nat.le_of_ble_eq_true rfl) ?_
    simp only [q_en, List.replicate]
    refine k_iload_n i_142_0 rfl ?_
    refine k_tsI (off := 39) (t := 40) i_142_1 (by omega) (by omega) rfl rfl ?_
    refine k_aload_n i_142_40 rfl ?_
    first | refine k_dupA i_142_41 ?_ | refine k_dupI i_142_41 ?_
    refine k_gfL i_142_42 f_12_229 (by first | rfl | assumption | (rw [hR]; rfl) | (dsimp only; rw [hR]; rfl)) (by decide) (by decide) rfl ?_
    refine k_lconstJ (a := 1) i_142_45 rfl ?_
    refine k_ladd i_142_46 ?_
    refine k_pfL i_142_47 f_12_229 (by first | rfl | assumption | (rw [hR]; rfl) | (dsimp only; rw [hR]; rfl)) (by decide) rfl ?_
    refine k_aload_n i_142_50 rfl ?_
    refine k_gfR i_142_51 f_12_29 (by first | rfl | assumption | (rw [hR]; rfl) | (dsimp only; rw [hR]; rfl)) (by decide) (by decide) (Or.inr ⟨_, rfl⟩) (by first | rfl | assumption | (rw [hR]; rfl) | (dsimp only; rw [hR]; rfl)) ?_
    refine k_iconst i_142_54 ?_
    refine k_ialV (a := σ.w.paid) i_142_55 (by first | rfl | assumption | (rw [hR]; rfl) | (dsimp only; rw [hR]; rfl)) (by decide) (by omega) (by omega) (hmk.2.1) ?_
    refine k_iret i_142_56 qt_142 ?_
    exact ⟨rfl, hM.setK (by rw [q_up_s, hM.mk])⟩
  · refine ⟨_, _, hS.setK, x_rating hX 1 (by omega) rfl rfl (e_drover (d := 19) hR hwk rfl (by decide)), ?_⟩
    have hR := hR2
    unfold OM
-- method 142: StraightTaxModel.rating.(I)I
    refine k_start ql_142 (Nat.le_of_ble_eq_true rfl) ?_
    simp only [q_en, List.replicate]
    refine k_iload_n i_142_0 rfl ?_
    refine k_tsI (off := 56) (t := 57) i_142_1 (by omega) (by omega) rfl rfl ?_
    refine k_aload_n i_142_57 rfl ?_
    first | refine k_dupA i_142_58 ?_ | refine k_dupI i_142_58 ?_
    refine k_gfL i_142_59 f_12_229 (by first | rfl | assumption | (rw [hR]; rfl) | (dsimp only; rw [hR]; rfl)) (by decide) (by decide) rfl ?_
    refine k_ldc2J (a := 11) i_142_62 l_12_233 (by decide) ?_
    refine k_ladd i_142_65 ?_
    refine k_pfL i_142_66 f_12_229 (by first | rfl | assumption | (rw [hR]; rfl) | (dsimp only; rw [hR]; rfl)) (by decide) rfl ?_
    refine k_aload_n i_142_69 rfl ?_
    refine k_gfR i_142_70 f_12_29 (by first | rfl | assumption | (rw [hR]; rfl) | (dsimp only; rw [hR]; rfl)) (by decide) (by decide) (Or.inr ⟨_, rfl⟩) (by first | rfl | assumption | (rw [hR]; rfl) | (dsimp only; rw [hR]; rfl)) ?_
    refine k_iconst i_142_73 ?_
    refine k_ialV (a := σ.w.paid) i_142_74 (by first | rfl | assumption | (rw [hR]; rfl) | (dsimp only; rw [hR]; rfl)) (by decide) (by omega) (by omega) (hmk.2.1) ?_
    refine k_aload_n i_142_75 rfl ?_
    refine k_gfR i_142_76 f_12_29 (by first | rfl | assumption | (rw [hR]; rfl) | (dsimp only; rw [hR]; rfl)) (by decide) (by decide) (Or.inr ⟨_, rfl⟩) (by first | rfl | assumption | (rw [hR]; rfl) | (dsimp only; rw [hR]; rfl)) ?_
    refine k_iconst i_142_79 ?_
    refine k_ialV (a := (σ.w.n : Int)) i_142_80 (by first | rfl | assumption | (rw [hR]; rfl) | (dsimp only; rw [hR]; rfl)) (by decide) (by omega) (by omega) (hn2) ?_
    refine k_iadd i_142_81 ?_
    refine k_iret i_142_82 qt_142 ?_
    exact ⟨rfl, hM.setK (by rw [q_up_s, hM.mk])⟩
  · refine ⟨_, _, hS.setK, x_rating hX 2 (by omega) rfl rfl (e_courtier (d := 19) hR hwk h60 rfl (by decide)), ?_⟩
    have hR := hR2
    unfold OM
-- method 142: StraightTaxModel.rating.(I)I
    refine k_start ql_142 (Nat.le_of_ble_eq_true rfl) ?_
    simp only [q_en, List.replicate]
    refine k_iload_n i_142_0 rfl ?_
    refine k_tsI (off := 82) (t := 83) i_142_1 (by omega) (by omega) rfl rfl ?_
    refine k_aload_n i_142_83 rfl ?_
    first | refine k_dupA i_142_84 ?_ | refine k_dupI i_142_84 ?_
    refine k_gfL i_142_85 f_12_229 (by first | rfl | assumption | (rw [hR]; rfl) | (dsimp only; rw [hR]; rfl)) (by decide) (by decide) rfl ?_
    refine k_ldc2J (a := 101) i_142_88 l_12_235 (by decide) ?_
    refine k_ladd i_142_91 ?_
    refine k_pfL i_142_92 f_12_229 (by first | rfl | assumption | (rw [hR]; rfl) | (dsimp only; rw [hR]; rfl)) (by decide) rfl ?_
    refine k_aload_n i_142_95 rfl ?_
    refine k_gfR i_142_96 f_12_29 (by first | rfl | assumption | (rw [hR]; rfl) | (dsimp only; rw [hR]; rfl)) (by decide) (by decide) (Or.inr ⟨_, rfl⟩) (by first | rfl | assumption | (rw [hR]; rfl) | (dsimp only; rw [hR]; rfl)) ?_
    refine k_iconst i_142_99 ?_
    refine k_ialV (a := σ.w.paid) i_142_100 (by first | rfl | assumption | (rw [hR]; rfl) | (dsimp only; rw [hR]; rfl)) (by decide) (by omega) (by omega) (hmk.2.1) ?_
    refine k_aload_n i_142_101 rfl ?_
    refine k_vp0 i_142_102 c_12_190 qp_118 qo_118 (by first | rfl | assumption | (rw [hR]; rfl) | (dsimp only; rw [hR]; rfl)) (Nat.le_of_ble_eq_true rfl) (m_runNow (σ := σ) (X := (q_up X2.1 0 16 (X2.1 0 16 + JL 101), X2.2)) (by exact hM.mt) hR hS.ok hmk hS.wk) ?_
    refine k_isub i_142_105 ?_
    refine k_iret i_142_106 qt_142 ?_
    exact ⟨rfl, hM.setK (by rw [q_up_s, hM.mk])⟩
  · refine ⟨_, _, hS.setK, x_rating hX 3 (by omega) rfl rfl (e_dancer (d := 18) hR hwk rfl (by decide)), ?_⟩
    have hR := hR2
    unfold OM
-- method 142: StraightTaxModel.rating.(I)I
    refine k_start ql_142 (Nat.le_of_ble_eq_true rfl) ?_
    simp only [q_en, List.replicate]
    refine k_iload_n i_142_0 rfl ?_
    refine k_tsI (off := 106) (t := 107) i_142_1 (by omega) (by omega) rfl rfl ?_
    refine k_aload_n i_142_107 rfl ?_
    first | refine k_dupA i_142_108 ?_ | refine k_dupI i_142_108 ?_
    refine k_gfL i_142_109 f_12_229 (by first | rfl | assumption | (rw [hR]; rfl) | (dsimp only; rw [hR]; rfl)) (by decide) (by decide) rfl ?_
    refine k_ldc2J (a := 1011) i_142_112 l_12_237 (by decide) ?_
    refine k_ladd i_142_115 ?_
    refine k_pfL i_142_116 f_12_229 (by first | rfl | assumption | (rw [hR]; rfl) | (dsimp only; rw [hR]; rfl)) (by decide) rfl ?_
    refine k_iconst i_142_119 ?_
    refine k_aload_n i_142_120 rfl ?_
    refine k_gfR i_142_121 f_12_29 (by first | rfl | assumption | (rw [hR]; rfl) | (dsimp only; rw [hR]; rfl)) (by decide) (by decide) (Or.inr ⟨_, rfl⟩) (by first | rfl | assumption | (rw [hR]; rfl) | (dsimp only; rw [hR]; rfl)) ?_
    refine k_iconst i_142_124 ?_
    refine k_ialV (a := σ.w.paid) i_142_125 (by first | rfl | assumption | (rw [hR]; rfl) | (dsimp only; rw [hR]; rfl)) (by decide) (by omega) (by omega) (hmk.2.1) ?_
    refine k_aload_n i_142_126 rfl ?_
    refine k_gfR i_142_127 f_12_29 (by first | rfl | assumption | (rw [hR]; rfl) | (dsimp only; rw [hR]; rfl)) (by decide) (by decide) (Or.inr ⟨_, rfl⟩) (by first | rfl | assumption | (rw [hR]; rfl) | (dsimp only; rw [hR]; rfl)) ?_
    refine k_iconst i_142_130 ?_
    refine k_ialV (a := (σ.w.n : Int)) i_142_131 (by first | rfl | assumption | (rw [hR]; rfl) | (dsimp only; rw [hR]; rfl)) (by decide) (by omega) (by omega) (hn2) ?_
    refine k_iadd i_142_132 ?_
    refine k_imul i_142_133 ?_
    refine k_iret i_142_134 qt_142 ?_
    exact ⟨rfl, hM.setK (by rw [q_up_s, hM.mk])⟩
  · refine ⟨_, _, hS.setK, x_rating hX 4 (by omega) rfl rfl (e_lawyer (d := 18) hR hwk h60 hpr rfl (by decide)), ?_⟩
    have hR := hR2
    unfold OM
-- method 142: StraightTaxModel.rating.(I)I
    refine k_start ql_142 (Nat.le_of_ble_eq_true rfl) ?_
    simp only [q_en, List.replicate]
    refine k_iload_n i_142_0 rfl ?_
    refine k_tsI (off := 134) (t := 135) i_142_1 (by omega) (by omega) rfl rfl ?_
    refine k_aload_n i_142_135 rfl ?_
    first | refine k_dupA i_142_136 ?_ | refine k_dupI i_142_136 ?_
    refine k_gfL i_142_137 f_12_229 (by first | rfl | assumption | (rw [hR]; rfl) | (dsimp only; rw [hR]; rfl)) (by decide) (by decide) rfl ?_
    refine k_ldc2J (a := 10101) i_142_140 l_12_239 (by decide) ?_
    refine k_ladd i_142_143 ?_
    refine k_pfL i_142_144 f_12_229 (by first | rfl | assumption | (rw [hR]; rfl) | (dsimp only; rw [hR]; rfl)) (by decide) rfl ?_
    refine k_aload_n i_142_147 rfl ?_
    refine k_gfR i_142_148 f_12_29 (by first | rfl | assumption | (rw [hR]; rfl) | (dsimp only; rw [hR]; rfl)) (by decide) (by decide) (Or.inr ⟨_, rfl⟩) (by first | rfl | assumption | (rw [hR]; rfl) | (dsimp only; rw [hR]; rfl)) ?_
    refine k_iconst i_142_151 ?_
    refine k_ialV (a := σ.w.paid) i_142_152 (by first | rfl | assumption | (rw [hR]; rfl) | (dsimp only; rw [hR]; rfl)) (by decide) (by omega) (by omega) (hmk.2.1) ?_
    refine k_aload_n i_142_153 rfl ?_
    refine k_vp0 i_142_154 c_12_190 qp_118 qo_118 (by first | rfl | assumption | (rw [hR]; rfl) | (dsimp only; rw [hR]; rfl)) (Nat.le_of_ble_eq_true rfl) (m_runNow (σ := σ) (X := (q_up X2.1 0 16 (X2.1 0 16 + JL 10101), X2.2)) (by exact hM.mt) hR hS.ok hmk hS.wk) ?_
    refine k_isub i_142_157 ?_
    refine k_aload_n i_142_158 rfl ?_
    refine k_gfR i_142_159 f_12_29 (by first | rfl | assumption | (rw [hR]; rfl) | (dsimp only; rw [hR]; rfl)) (by decide) (by decide) (Or.inr ⟨_, rfl⟩) (by first | rfl | assumption | (rw [hR]; rfl) | (dsimp only; rw [hR]; rfl)) ?_
    refine k_iconst i_142_162 ?_
    refine k_ialV (a := (if σ.w.pos = -1 then -9 else σ.w.pos)) i_142_163 (by first | rfl | assumption | (rw [hR]; rfl) | (dsimp only; rw [hR]; rfl)) (by decide) (by omega) (by omega) (hmk.1) ?_
    refine k_bipush i_142_164 (by decide) ?_
    refine k_ic_ne (t := 173) i_142_166 rfl (by split <;> omega) (by omega) (fun h => ?_) (fun h => ?_)
    · have y : ¬ σ.w.pos = -1 := fun y => h (by rw [if_pos y])
      refine k_aload_n i_142_173 rfl ?_
      refine k_gfR i_142_174 f_12_29 (by first | rfl | assumption | (rw [hR]; rfl) | (dsimp only; rw [hR]; rfl)) (by decide) (by decide) (Or.inr ⟨_, rfl⟩) (by first | rfl | assumption | (rw [hR]; rfl) | (dsimp only; rw [hR]; rfl)) ?_
      refine k_iconst i_142_177 ?_
      refine k_ialV (a := σ.w.pos) i_142_178 (by first | rfl | assumption | (rw [hR]; rfl) | (dsimp only; rw [hR]; rfl)) (by decide) (by omega) (by omega) (hmk.1.trans (if_neg y)) ?_
      refine k_iadd i_142_179 ?_
      refine k_iret i_142_180 qt_142 ?_
      exact ⟨by rw [show max σ.w.pos 0 = σ.w.pos by omega], hM.setK (by rw [q_up_s, hM.mk])⟩
    · have y : σ.w.pos = -1 := by
        by_cases y : σ.w.pos = -1
        · exact y
        · rw [if_neg y] at h; omega
      refine k_iconst i_142_169 ?_
      refine k_goto (t := 179) i_142_170 rfl ?_
      refine k_iadd i_142_179 ?_
      refine k_iret i_142_180 qt_142 ?_
      exact ⟨by rw [show max σ.w.pos 0 = 0 by omega], hM.setK (by rw [q_up_s, hM.mk])⟩
  · refine ⟨_, _, hS.setK, x_rating hX 5 (by omega) rfl rfl (e_beggar (d := 19) hR hwk hX.er.1 rfl (by decide)), ?_⟩
    have hR := hR2
    unfold OM
-- method 142: StraightTaxModel.rating.(I)I
    refine k_start ql_142 (Nat.le_of_ble_eq_true rfl) ?_
    simp only [q_en, List.replicate]
    refine k_iload_n i_142_0 rfl ?_
    refine k_tsI (off := 180) (t := 181) i_142_1 (by omega) (by omega) rfl rfl ?_
    refine k_aload_n i_142_181 rfl ?_
    first | refine k_dupA i_142_182 ?_ | refine k_dupI i_142_182 ?_
    refine k_gfL i_142_183 f_12_229 (by first | rfl | assumption | (rw [hR]; rfl) | (dsimp only; rw [hR]; rfl)) (by decide) (by decide) rfl ?_
    refine k_ldc2J (a := 100001) i_142_186 l_12_241 (by decide) ?_
    refine k_ladd i_142_189 ?_
    refine k_pfL i_142_190 f_12_229 (by first | rfl | assumption | (rw [hR]; rfl) | (dsimp only; rw [hR]; rfl)) (by decide) rfl ?_
    refine k_aload_n i_142_193 rfl ?_
    refine k_gfR i_142_194 f_12_29 (by first | rfl | assumption | (rw [hR]; rfl) | (dsimp only; rw [hR]; rfl)) (by decide) (by decide) (Or.inr ⟨_, rfl⟩) (by first | rfl | assumption | (rw [hR]; rfl) | (dsimp only; rw [hR]; rfl)) ?_
    refine k_iconst i_142_197 ?_
    refine k_ialV (a := σ.w.paid) i_142_198 (by first | rfl | assumption | (rw [hR]; rfl) | (dsimp only; rw [hR]; rfl)) (by decide) (by omega) (by omega) (hmk.2.1) ?_
    refine k_aload_n i_142_199 rfl ?_
    refine k_gfV (a := (σ.en : Int)) i_142_200 f_12_176 (by first | rfl | assumption | (rw [hR]; rfl) | (dsimp only; rw [hR]; rfl)) (by decide) (by decide) (Or.inl rfl) (hM.er.1) ?_
    refine k_iadd i_142_203 ?_
    refine k_iret i_142_204 qt_142 ?_
    exact ⟨rfl, hM.setK (by rw [q_up_s, hM.mk])⟩
  · refine ⟨.int (J (-1000000)), σ, hS, ?_, ?_⟩
    · unfold OX
-- method 93: StraightTax.rating.(I)I
      refine k_start ql_93 (Nat.le_of_ble_eq_true rfl) ?_
      simp only [q_en, List.replicate]
      refine k_iload_n i_93_0 rfl ?_
      refine k_if_lt (t := 23) i_93_1 rfl (by omega) (fun h => ?_) (fun h => ?_)
      · refine k_ldc (a := -1000000) i_93_23 n_11_248 (by decide) ?_
        refine k_iret i_93_25 qt_93 ?_
        exact ⟨rfl, _, _, _, hX⟩
      · refine k_iload_n i_93_4 rfl ?_
        refine k_bipush i_93_5 (by decide) ?_
        refine k_ic_ge (t := 23) i_93_7 rfl (by omega) (by omega) (fun g => ?_) (fun g => ?_)
        · refine k_ldc (a := -1000000) i_93_23 n_11_248 (by decide) ?_
          refine k_iret i_93_25 qt_93 ?_
          exact ⟨rfl, _, _, _, hX⟩
        · omega
    · have hR := hR2
      unfold OM
-- method 142: StraightTaxModel.rating.(I)I
      refine k_start ql_142 (Nat.le_of_ble_eq_true rfl) ?_
      simp only [q_en, List.replicate]
      refine k_iload_n i_142_0 rfl ?_
      refine k_tsO (t := 205) i_142_1 (by omega) (by omega) rfl ?_
      refine k_ldc (a := -1000000) i_142_205 n_12_243 (by decide) ?_
      refine k_iret i_142_207 qt_142 ?_
      exact ⟨rfl, hM⟩
end TF
