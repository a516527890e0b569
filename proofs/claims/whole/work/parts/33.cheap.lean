/-! CHEAPEST: both sides -/
theorem DX_val {T : Tn} (hw : tWF T) {nt : Int} (h01 : nt = 0 ∨ nt = 1) {b : Int} (hb : 0 ≤ b ∧ b < tN T) {u : Int} (u0 : 0 ≤ u) (u1 : u < 17 * tN T) (hu : D T nt (tMask T 2) b u < 100000000) : ∃ p k : Int, D T nt (tMask T 2) b u = 1000 * p + k ∧ DX T nt b u = 1024 * p + k ∧ (0 ≤ k ∧ k ≤ 323) ∧ (0 ≤ p ∧ p ≤ 95931) := by
  have h := D_fx hw h01 (el := tMask T 2) (by have := tMask_lt T 2; omega) hb
  obtain ⟨p, k, e1, e2, e3⟩ := fx_ps3 hw hb (by decide) h u0 u1 hu
  refine ⟨p, k, e1, ?_, e2, e3⟩
  unfold DX g24
  rw [if_pos hu, show D T nt (tMask T 2) b u / 1000 = p by omega, show D T nt (tMask T 2) b u % 1000 = k by omega]
theorem DX_far {T : Tn} {nt b u : Int} (hu : ¬ D T nt (tMask T 2) b u < 100000000) : DX T nt b u = 1073741824 := by
  unfold DX g24; rw [if_neg hu]
theorem eqE_conv {T : Tn} (hw : tWF T) {nt : Int} (h01 : nt = 0 ∨ nt = 1) {b : Int} (hb : 0 ≤ b ∧ b < tN T) {u : Int} (u0 : 0 ≤ u) (u1 : u < 17 * tN T) (hu : D T nt (tMask T 2) b u < 100000000) {q : Int} (hq : 0 ≤ q ∧ q < 4) : eqE T nt (tMask T 2) 1024 (DX T nt b) u q = eqE T nt (tMask T 2) 1000 (D T nt (tMask T 2) b) u q := by
  unfold eqE
  refine decide_eq_decide.mpr ?_
  obtain ⟨p, k, e1, e2, e3, e4⟩ := DX_val hw h01 hb u0 u1 hu
  constructor
  · rintro ⟨h1, h2⟩
    refine ⟨h1, ?_⟩
    have r := mE_range hw (el := tMask T 2) ⟨u0, u1⟩ hq
    have pr := tPrice4 hw (nt := nt) (mE_run h1)
    by_cases hn : D T nt (tMask T 2) b (mE T (tMask T 2) u q) < 100000000
    · obtain ⟨p', k', a1, a2, a3, a4⟩ := DX_val hw h01 hb h1 r.2 hn
      omega
    · rw [DX_far hn] at h2; omega
  · rintro ⟨h1, h2⟩
    refine ⟨h1, ?_⟩
    have r := mE_range hw (el := tMask T 2) ⟨u0, u1⟩ hq
    have pr := tPrice4 hw (nt := nt) (mE_run h1)
    obtain ⟨p', k', a1, a2, a3, a4⟩ := DX_val hw h01 hb h1 r.2 (by omega)
    omega
theorem pS_conv {T : Tn} (hw : tWF T) {nt : Int} (h01 : nt = 0 ∨ nt = 1) {b : Int} (hb : 0 ≤ b ∧ b < tN T) {a : Int} (ha : 0 ≤ a ∧ a < tN T) (ho : tOpen T a = true) (hF : D T nt (tMask T 2) b (17 * a + 16) < 100000000) : ∀ k : Nat, (k : Int) ≤ D T nt (tMask T 2) b (17 * a + 16) % 1000 → pS T nt (tMask T 2) 1024 (DX T nt b) (17 * a + 16) k = pS T nt (tMask T 2) 1000 (D T nt (tMask T 2) b) (17 * a + 16) k ∧ (0 ≤ pS T nt (tMask T 2) 1000 (D T nt (tMask T 2) b) (17 * a + 16) k ∧ pS T nt (tMask T 2) 1000 (D T nt (tMask T 2) b) (17 * a + 16) k < 17 * tN T) ∧ D T nt (tMask T 2) b (pS T nt (tMask T 2) 1000 (D T nt (tMask T 2) b) (17 * a + 16) k) < 100000000 := by
  obtain ⟨p, k0, e1, e2, e3, e4⟩ := DX_val hw h01 hb (by omega) (by omega) hF
  intro k
  induction k with
  | zero => intro _; exact ⟨rfl, by show 0 ≤ 17 * a + 16 ∧ _; constructor; omega; show 17 * a + 16 < _; omega, hF⟩
  | succ k ih =>
    intro hk
    obtain ⟨i1, i2, i3⟩ := ih (by omega)
    obtain ⟨c, l, r, h1, h2, h3, -, -⟩ := pS_ok hw h01 hb ha ho (by omega) (k + 1) (by omega)
    have hst : pS T nt (tMask T 2) 1024 (DX T nt b) (17 * a + 16) (k + 1) = pS T nt (tMask T 2) 1000 (D T nt (tMask T 2) b) (17 * a + 16) (k + 1) := by
      show mE T _ _ (fD T nt _ _ _ _) = mE T _ _ (fD T nt _ _ _ _)
      rw [i1]
      unfold fD
      rw [fst4_congr (fun q q0 q1 => eqE_conv hw h01 hb i2.1 i2.2 i3 ⟨q0, q1⟩)]
    have g := h1.range
    rw [hst] at g h2
    refine ⟨hst, g.1, ?_⟩
    by_cases z : D T nt (tMask T 2) b (pS T nt (tMask T 2) 1000 (D T nt (tMask T 2) b) (17 * a + 16) (k + 1)) < 100000000
    · exact z
    · rw [DX_far z] at h2; omega
/-- what cheapest answers -/
noncomputable def Fch (T : Tn) (nt a b i : Int) : Int := if (tOpen T a && tOpen T b) = true ∧ -2 ≤ i then (if D T nt (tMask T 2) b (17 * a + 16) < 100000000 then (if i = -2 then D T nt (tMask T 2) b (17 * a + 16) / 1000 else if i = -1 then D T nt (tMask T 2) b (17 * a + 16) % 1000 else if i < D T nt (tMask T 2) b (17 * a + 16) % 1000 then fD T nt (tMask T 2) 1000 (D T nt (tMask T 2) b) (pS T nt (tMask T 2) 1000 (D T nt (tMask T 2) b) (17 * a + 16) i.toNat) else -5) else -9) else -1
theorem open_lt {T : Tn} {a : Int} (h : tOpen T a = true) : 0 ≤ a ∧ a < tN T := by
  unfold tOpen tHas at h
  simp at h
  exact h.1
/-- the class, before a call that asks for ways -/
def XB (I : Nat → Nat → Int) (X : XX) (h s w : Nat) (T : Tn) (nt : Int) : Prop := X.2 = rX h s w ∧ (h = 41 ∨ h = 44) ∧ TAt shX (I, X) h T ∧ TNx (I, X) h T ∧ tOK T ∧ I 3 3 = nt ∧ (nt = 0 ∨ nt = 1) ∧ I 33 0 = 0 ∧ I 34 0 = 0
section CH
variable {d : Nat} {T : Tn} {I : Nat → Nat → Int} {X : XX} {h0 s0 w : Nat} {nt : Int} {Q : Option Value → QS → Prop}
-- method 82: StraightTax.areEnds.(II)Z
theorem e_areEnds (hR : X.2 = rX h0 s0 w) (hT : TAt shX (I, X) h0 T) (hw : tWF T) (a b : Int) (ha : inJ a) (hb : inJ b) : KP shX (d + 3) 82 [.ref 0, .int (J a), .int (J b)] (I, X) (.int (J (bi (tOpen T a && tOpen T b)))) := by
  obtain ⟨s1, s2, s3, q1, q2, a0, a1, a2, a3, a4, a5, a6, ag⟩ := id hT
-- by 26 (e_isOpen hT hw _ (by omega))
  refine k_start ql_82 (Nat.le_of_ble_eq_true rfl) ?_
  simp only [q_en, List.replicate]
  refine k_aload_n i_82_0 rfl ?_
  refine k_gfR i_82_1 f_11_54 (by first | rfl | assumption | (rw [hR]; rfl) | (dsimp only; rw [hR]; rfl)) (by decide) (by decide) (Or.inl ⟨_, rfl⟩) (by first | rfl | assumption | (rw [hR]; rfl) | (dsimp only; rw [hR]; rfl)) ?_
  refine k_iload_n i_82_4 rfl ?_
  refine k_vp1 i_82_5 c_11_129 qp_26 qo_26 (by first | rfl | assumption | (rw [hR]; rfl) | (dsimp only; rw [hR]; rfl)) (Nat.le_of_ble_eq_true rfl) (e_isOpen hT hw _ (by omega)) ?_
  refine k_if_eqB (t := 26) i_82_8 rfl (fun h8 => ?_) (fun h8 => ?_)
  · refine k_iconst i_82_26 ?_
    refine k_nret i_82_27 qt_82 (by first | exact bi_nar _ | rfl) ?_
    exact ⟨by simp_all [bi], rfl⟩
  · refine k_aload_n i_82_11 rfl ?_
    refine k_gfR i_82_12 f_11_54 (by first | rfl | assumption | (rw [hR]; rfl) | (dsimp only; rw [hR]; rfl)) (by decide) (by decide) (Or.inl ⟨_, rfl⟩) (by first | rfl | assumption | (rw [hR]; rfl) | (dsimp only; rw [hR]; rfl)) ?_
    refine k_iload_n i_82_15 rfl ?_
    refine k_vp1 i_82_16 c_11_129 qp_26 qo_26 (by first | rfl | assumption | (rw [hR]; rfl) | (dsimp only; rw [hR]; rfl)) (Nat.le_of_ble_eq_true rfl) (e_isOpen hT hw _ (by omega)) ?_
    refine k_if_eqB (t := 26) i_82_19 rfl (fun h19 => ?_) (fun h19 => ?_)
    · refine k_iconst i_82_26 ?_
      refine k_nret i_82_27 qt_82 (by first | exact bi_nar _ | rfl) ?_
      exact ⟨by simp_all [bi], rfl⟩
    · refine k_iconst i_82_22 ?_
      refine k_goto (t := 27) i_82_23 rfl ?_
      refine k_nret i_82_27 qt_82 (by first | exact bi_nar _ | rfl) ?_
      exact ⟨by simp_all [bi], rfl⟩
-- method 81: StraightTax.cheapest.(III)I
theorem x_cheapest (hB : XB I X h0 s0 w T nt) (a b i : Int) (ha : inJ a) (hb : inJ b) (hi : inJ i) : KC shX (d + 5) 81 [.ref 0, .int (J a), .int (J b), .int (J i)] (I, X) (fun r S2 => r = some (.int (J (Fch T nt a b i))) ∧ ∃ I' w', S2 = (I', X.1, rX h0 s0 w') ∧ Scr I I') := by
  obtain ⟨hR, hh, hT, hX, hOK, hnt, h01, hz⟩ := hB
  have hw := hOK.1
  have hN := tN_le hw
  have same : ∃ I' w', (I, X) = (I', X.1, rX h0 s0 w') ∧ Scr I I' := ⟨I, w, by rw [← hR], Scr.rfl'⟩
  refine k_start ql_81 (Nat.le_of_ble_eq_true rfl) ?_
  simp only [q_en, List.replicate]
  refine k_aload_n i_81_0 rfl ?_
  refine k_iload_n i_81_1 rfl ?_
  refine k_iload_n i_81_2 rfl ?_
  refine k_vp2 i_81_3 c_11_183 qp_82 qo_82 (by first | rfl | assumption | (rw [hR]; rfl) | (dsimp only; rw [hR]; rfl)) (Nat.le_of_ble_eq_true rfl) (e_areEnds hR hT hw _ _ ha hb) ?_
  refine k_if_eqB (t := 15) i_81_6 rfl (fun h => ?_) (fun h => ?_)
  · refine k_iconst i_81_15 ?_
    refine k_iret i_81_16 qt_81 ?_
    refine ⟨?_, same⟩
    unfold Fch
    rw [if_neg (by rw [h]; simp)]
  · have ho : tOpen T a = true ∧ tOpen T b = true := by simpa using h
    have har := open_lt ho.1
    have hbr := open_lt ho.2
    refine k_iload_n i_81_9 rfl ?_
    refine k_bipush i_81_10 (by decide) ?_
    refine k_ic_ge (t := 17) i_81_12 rfl (by omega) (by omega) (fun g => ?_) (fun g => ?_)
    · refine k_aload_n i_81_17 rfl ?_
      refine k_gfR i_81_18 f_11_47 (by first | rfl | assumption | (rw [hR]; rfl) | (dsimp only; rw [hR]; rfl)) (by decide) (by decide) (Or.inl ⟨_, rfl⟩) (by first | rfl | assumption | (rw [hR]; rfl) | (dsimp only; rw [hR]; rfl)) ?_
      refine k_aload_n i_81_21 rfl ?_
      refine k_gfR i_81_22 f_11_54 (by first | rfl | assumption | (rw [hR]; rfl) | (dsimp only; rw [hR]; rfl)) (by decide) (by decide) (Or.inl ⟨_, rfl⟩) (by first | rfl | assumption | (rw [hR]; rfl) | (dsimp only; rw [hR]; rfl)) ?_
      refine k_aload_n i_81_25 rfl ?_
      refine k_gfR i_81_26 f_11_19 (by first | rfl | assumption | (rw [hR]; rfl) | (dsimp only; rw [hR]; rfl)) (by decide) (by decide) (Or.inl ⟨_, rfl⟩) (by first | rfl | assumption | (rw [hR]; rfl) | (dsimp only; rw [hR]; rfl)) ?_
      refine k_gfI i_81_29 f_11_99 rfl (by decide) (by decide) (Or.inr rfl) ?_
      rw [show (I, X).1 3 3 = nt from hnt]
      refine k_cv2 i_81_32 c_11_176 qp_47 qo_47 (by first | rfl | assumption | (rw [hR]; rfl) | (dsimp only; rw [hR]; rfl)) (Nat.le_of_ble_eq_true rfl) (e_look (d := d + 3) hh hR hT hX hOK h01 hz) (fun v S2 h => ?_)
      obtain ⟨rfl, I1, rfl, hS1, hW1⟩ := h
      show K shX (d + 5) 81 35 _ [] _ _
      have hR1 : (X.1, rX h0 s0 h0).2 = rX h0 s0 h0 := rfl
      refine k_aload_n i_81_35 rfl ?_
      refine k_gfR i_81_36 f_11_47 (by first | rfl | assumption | (rw [hR]; rfl) | (dsimp only; rw [hR]; rfl)) (by decide) (by decide) (Or.inl ⟨_, rfl⟩) (by first | rfl | assumption | (rw [hR]; rfl) | (dsimp only; rw [hR]; rfl)) ?_
      refine k_iload_n i_81_39 rfl ?_
      refine k_cv1 i_81_40 c_11_187 qp_49 qo_49 (by first | rfl | assumption | (rw [hR]; rfl) | (dsimp only; rw [hR]; rfl)) (Nat.le_of_ble_eq_true rfl) (e_aim' hW1 hbr) (fun v S2 h => ?_)
      obtain ⟨rfl, I2, rfl, hS2, hA⟩ := h
      show K shX (d + 5) 81 43 _ [] _ _
      have hend : ∃ I' w', (I2, X.1, rX h0 s0 h0) = (I', X.1, rX h0 s0 w') ∧ Scr I I' := ⟨I2, h0, rfl, hS1.trans hS2⟩
      have hfx := (DX_fx hw h01 hbr (17 * a + 16) (by omega) (by omega)).1
      refine k_aload_n i_81_43 rfl ?_
      refine k_gfR i_81_44 f_11_47 (by first | rfl | assumption | (rw [hR]; rfl) | (dsimp only; rw [hR]; rfl)) (by decide) (by decide) (Or.inl ⟨_, rfl⟩) (by first | rfl | assumption | (rw [hR]; rfl) | (dsimp only; rw [hR]; rfl)) ?_
      refine k_iload_n i_81_47 rfl ?_
      refine k_vp1 i_81_48 c_11_191 qp_53 qo_53 (by first | rfl | assumption | (rw [hR]; rfl) | (dsimp only; rw [hR]; rfl)) (Nat.le_of_ble_eq_true rfl) (e_burdenFrom (d := d + 2) hA hbr a (by omega) ho.1) ?_
      refine k_istore i_81_51 (Nat.le_of_ble_eq_true rfl) ?_
      dsimp only [q_st1, q_st2, q_unl]
      refine k_iload i_81_53 rfl ?_
      refine k_ldc (a := 1073741824) i_81_55 n_11_194 (by decide) ?_
      have cond : (tOpen T a && tOpen T b) = true ∧ -2 ≤ i := ⟨by rw [ho.1, ho.2]; rfl, by omega⟩
      refine k_ic_lt (t := 63) i_81_57 rfl (by omega) (by omega) (fun g2 => ?_) (fun g2 => ?_)
      · have hD : D T nt (tMask T 2) b (17 * a + 16) < 100000000 := by
          by_cases z : D T nt (tMask T 2) b (17 * a + 16) < 100000000
          · exact z
          · rw [DX_far z] at g2; omega
        obtain ⟨p, k, e1, e2, e3, e4⟩ := DX_val hw h01 hbr (by omega) (by omega) hD
        have eF : Fch T nt a b i = if i = -2 then p else if i = -1 then k else if i < k then fD T nt (tMask T 2) 1000 (D T nt (tMask T 2) b) (pS T nt (tMask T 2) 1000 (D T nt (tMask T 2) b) (17 * a + 16) i.toNat) else -5 := by
          unfold Fch
          rw [if_pos cond, if_pos hD, show D T nt (tMask T 2) b (17 * a + 16) / 1000 = p by omega, show D T nt (tMask T 2) b (17 * a + 16) % 1000 = k by omega]
        rw [eF]
        refine k_iload_n i_81_63 rfl ?_
        refine k_bipush i_81_64 (by decide) ?_
        refine k_ic_ne (t := 75) i_81_66 rfl (by omega) (by omega) (fun g3 => ?_) (fun g3 => ?_)
        · refine k_iload_n i_81_75 rfl ?_
          refine k_iconst i_81_76 ?_
          refine k_ic_ne (t := 86) i_81_77 rfl (by omega) (by omega) (fun g4 => ?_) (fun g4 => ?_)
          · refine k_iload_n i_81_86 rfl ?_
            refine k_iload i_81_87 rfl ?_
            refine k_sp1 i_81_89 c_11_198 (by decide) qp_55 (Nat.le_of_ble_eq_true rfl) (e_stepsOf _ (by omega)) ?_
            refine k_ic_ge (t := 107) i_81_92 rfl (by omega) (by omega) (fun g5 => ?_) (fun g5 => ?_)
            · refine k_bipush i_81_107 (by decide) ?_
              refine k_iret i_81_109 qt_81 ?_
              exact ⟨by rw [if_neg g3, if_neg g4, if_neg (by omega)], hend⟩
            · refine k_aload_n i_81_95 rfl ?_
              refine k_gfR i_81_96 f_11_47 (by first | rfl | assumption | (rw [hR]; rfl) | (dsimp only; rw [hR]; rfl)) (by decide) (by decide) (Or.inl ⟨_, rfl⟩) (by first | rfl | assumption | (rw [hR]; rfl) | (dsimp only; rw [hR]; rfl)) ?_
              refine k_iload_n i_81_99 rfl ?_
              refine k_iload_n i_81_100 rfl ?_
              have hst := e_stepAlong (d := d) hA hbr a har ho.1 i.toNat (by omega) (by omega)
              rw [show ((i.toNat : Nat) : Int) = i by omega] at hst
              refine k_vp2 i_81_101 c_11_201 qp_56 qo_56 (by first | rfl | assumption | (rw [hR]; rfl) | (dsimp only; rw [hR]; rfl)) (Nat.le_of_ble_eq_true rfl) hst ?_
              refine k_goto (t := 109) i_81_104 rfl ?_
              refine k_iret i_81_109 qt_81 ?_
              refine ⟨?_, hend⟩
              rw [if_neg g3, if_neg g4, if_pos (by omega)]
              obtain ⟨c1, c2, c3⟩ := pS_conv hw h01 hbr har ho.1 hD i.toNat (by omega)
              rw [c1]
              unfold fD
              rw [fst4_congr (fun q q0 q1 => eqE_conv hw h01 hbr c2.1 c2.2 c3 ⟨q0, q1⟩)]
          · refine k_iload i_81_80 rfl ?_
            refine k_sp1 i_81_82 c_11_198 (by decide) qp_55 (Nat.le_of_ble_eq_true rfl) (e_stepsOf _ (by omega)) ?_
            refine k_iret i_81_85 qt_81 ?_
            refine ⟨?_, hend⟩
            rw [if_neg g3, if_pos (by omega)]
            congr 3
            omega
        · refine k_iload i_81_69 rfl ?_
          refine k_sp1 i_81_71 c_11_195 (by decide) qp_54 (Nat.le_of_ble_eq_true rfl) (e_penceOf _ (by omega)) ?_
          refine k_iret i_81_74 qt_81 ?_
          refine ⟨?_, hend⟩
          rw [if_pos (by omega)]
          congr 3
          omega
      · refine k_bipush i_81_60 (by decide) ?_
        refine k_iret i_81_62 qt_81 ?_
        refine ⟨?_, hend⟩
        have hD : ¬ D T nt (tMask T 2) b (17 * a + 16) < 100000000 := by
          intro z
          obtain ⟨p, k, e1, e2, e3, e4⟩ := DX_val hw h01 hbr (by omega) (by omega) z
          omega
        unfold Fch
        rw [if_pos cond, if_neg hD]
    · refine k_iconst i_81_15 ?_
      refine k_iret i_81_16 qt_81 ?_
      refine ⟨?_, same⟩
      unfold Fch
      rw [if_neg (by omega)]
end CH
