/-! READING: the class -/
def TF (s : Nat) (I I' : Nat → Nat → Int) : Prop := (∀ c, c ≠ 1 → c ≠ s → c ≠ s + 1 → I' c = I c) ∧ I' 1 0 = I 1 0
theorem TF.rf {s : Nat} {I : Nat → Nat → Int} : TF s I I := ⟨fun _ _ _ _ => rfl, rfl⟩
theorem TF.tr {s : Nat} {I I1 I2 : Nat → Nat → Int} (h : TF s I I1) (h2 : TF s I1 I2) : TF s I I2 := ⟨fun c h3 h4 h5 => (h2.1 c h3 h4 h5).trans (h.1 c h3 h4 h5), h2.2.trans h.2⟩
theorem TE.tf {s : Nat} {I I' : Nat → Nat → Int} (h : TE I I') : TF s I I' := ⟨fun c hc _ _ => h.1 c hc, h.2 0 (by omega)⟩
theorem TF.up1 {s k : Nat} {I : Nat → Nat → Int} {v : Int} (hk : k ≠ 0) : TF s I (q_up I 1 k v) := ⟨fun c hc _ _ => q_up_o hc, q_up_n (by omega)⟩
theorem TF.upS {s k : Nat} {I : Nat → Nat → Int} {v : Int} (hs : s ≠ 1) : TF s I (q_up I s k v) := ⟨fun c _ hc _ => q_up_o hc, q_up_n (by omega)⟩
theorem TF.upG {s k : Nat} {I : Nat → Nat → Int} {v : Int} (hs : s + 1 ≠ 1) : TF s I (q_up I (s + 1) k v) := ⟨fun c _ _ hc => q_up_o hc, q_up_n (by omega)⟩
theorem TC.ofF {s : Nat} {I I' : Nat → Nat → Int} {b : Nat → Int} {L : Nat} (h : TC I b L) (he : TF s I I') (hs : 2 < s) : TC I' b L := by
  obtain ⟨h1, h2, h3, h4⟩ := h
  exact ⟨he.2.trans h1, h2, h3, by rw [he.1 2 (by omega) (by omega) (by omega)]; exact h4⟩
def XP (I : Nat → Nat → Int) (X : XX) (s : Nat) (z : Zt) : Prop := TAt shX (I, X) s z.1 ∧ I 1 6 = bi z.2.1 ∧ I 1 7 = bi z.2.2.1 ∧ I 1 8 = bi z.2.2.2
theorem XP.te {I I' : Nat → Nat → Int} {X : XX} {s : Nat} {z : Zt} (h : XP I X s z) (he : TE I I') (hs : 2 < s) : XP I' X s z := by
  obtain ⟨h1, h2, h3, h4⟩ := h
  exact ⟨h1.same (he.1 s (by omega)) (he.1 (s + 1) (by omega)) rfl, (he.2 6 (by omega)).trans h2, (he.2 7 (by omega)).trans h3, (he.2 8 (by omega)).trans h4⟩
/-- what an item's reading leaves -/
def BPo (X : XX) (s : Nat) (I : Nat → Nat → Int) (res : Rt) : Option Value → QS → Prop := fun r S2 => ∃ I', S2 = (I', X) ∧ TF s I I' ∧ ((∃ f, res = .inl f ∧ r = some (.int (J (bi false))) ∧ I' 1 3 = (f : Int)) ∨ (∃ z' p', res = .inr (z', p') ∧ r = some (.int (J (bi true))) ∧ XP I' X s z' ∧ I' 1 2 = (p' : Int)))
section TT
variable {d : Nat} {I : Nat → Nat → Int} {X : XX} {h0 s0 w0 s : Nat} {b : Nat → Int} {L p q : Nat} {z : Zt}
-- method 17: StraightTax$Text.isNumber.(II)Z
theorem e_isNumber (hR : X.2 = rX h0 s0 w0) (hC : TC I b L) (hp : I 1 2 = (p : Int)) (hpL : p ≤ L) (lo hi : Int) (hlo : inJ lo) (hhi : inJ hi) : KC shX (d + 7) 17 [.ref 1, .int (J lo), .int (J hi)] (I, X) (fun r S2 => r = some (.int (J (bi (nOK b L lo hi p)))) ∧ ∃ I', S2 = (I', X) ∧ TE I I' ∧ I' 1 2 = ((eP b L p : Nat) : Int) ∧ I' 1 3 = ((skp b L p : Nat) : Int) ∧ (nOK b L lo hi p = true → I' 1 5 = vP b L p)) := by
  have hv := nV_r b L (skp b L p)
  refine k_start ql_17 (Nat.le_of_ble_eq_true rfl) ?_
  simp only [q_en, List.replicate]
  refine k_aload_n i_17_0 rfl ?_
  refine k_cv0 i_17_1 c_6_37 qp_10 qo_10 (by first | rfl | assumption | (rw [hR]; rfl) | (dsimp only; rw [hR]; rfl)) (Nat.le_of_ble_eq_true rfl) (e_advance hR hC hp hpL) (fun v S2 h => ?_)
  obtain ⟨rfl, I', rfl, te, e1, e2, e3, e4⟩ := h
  show K shX (d + 7) 17 4 _ [] _ _
  have hk : kQ b L (skp b L p) = kP b L p := rfl
  have hvv : nV b L (skp b L p) = vP b L p := rfl
  rw [hk] at e3 e4
  rw [hvv] at hv e4
  have hkr : 0 ≤ kP b L p ∧ kP b L p ≤ 9 := by
    unfold kP kQ wkd
    repeat' split
    all_goals omega
  have no : ¬ (kP b L p = 3 ∧ lo ≤ vP b L p ∧ vP b L p ≤ hi) → K shX (d + 7) 17 32 [some (.ref 1), some (.int (J lo)), some (.int (J hi))] [] (I', X) (fun r S2 => r = some (.int (J (bi (nOK b L lo hi p)))) ∧ ∃ I', S2 = (I', X) ∧ TE I I' ∧ I' 1 2 = ((eP b L p : Nat) : Int) ∧ I' 1 3 = ((skp b L p : Nat) : Int) ∧ (nOK b L lo hi p = true → I' 1 5 = vP b L p)) := by
    intro hno
    have hf : nOK b L lo hi p = false := decide_eq_false hno
    refine k_iconst i_17_32 ?_
    rw [hf]
    refine k_nret i_17_33 qt_17 (by first | exact bi_nar _ | rfl) ?_
    exact ⟨rfl, I', rfl, te, e1, e2, fun y => by cases y⟩
  refine k_aload_n i_17_4 rfl ?_
  refine k_gfV (a := (kP b L p)) i_17_5 f_6_40 (by first | rfl | assumption | (rw [hR]; rfl) | (dsimp only; rw [hR]; rfl)) (by decide) (by decide) (Or.inl rfl) (e3) ?_
  refine k_iconst i_17_8 ?_
  refine k_ic_ne (t := 32) i_17_9 rfl (by omega) (by omega) (fun h => ?_) (fun h => ?_)
  · exact no (fun y => h y.1)
  · have e5 := e4 (by omega)
    refine k_aload_n i_17_12 rfl ?_
    refine k_gfV (a := (vP b L p)) i_17_13 f_6_71 (by first | rfl | assumption | (rw [hR]; rfl) | (dsimp only; rw [hR]; rfl)) (by decide) (by decide) (Or.inl rfl) (e5) ?_
    refine k_iload_n i_17_16 rfl ?_
    refine k_ic_lt (t := 32) i_17_17 rfl (by omega) (by omega) (fun g => ?_) (fun g => ?_)
    · exact no (fun y => by omega)
    · refine k_aload_n i_17_20 rfl ?_
      refine k_gfV (a := (vP b L p)) i_17_21 f_6_71 (by first | rfl | assumption | (rw [hR]; rfl) | (dsimp only; rw [hR]; rfl)) (by decide) (by decide) (Or.inl rfl) (e5) ?_
      refine k_iload_n i_17_24 rfl ?_
      refine k_ic_gt (t := 32) i_17_25 rfl (by omega) (by omega) (fun g2 => ?_) (fun g2 => ?_)
      · exact no (fun y => by omega)
      · have ht : nOK b L lo hi p = true := decide_eq_true ⟨by omega, by omega, by omega⟩
        refine k_iconst i_17_28 ?_
        refine k_goto (t := 33) i_17_29 rfl ?_
        rw [ht]
        refine k_nret i_17_33 qt_17 (by first | exact bi_nar _ | rfl) ?_
        exact ⟨rfl, I', rfl, te, e1, e2, fun _ => e5⟩
-- method 22: StraightTax$Text.isStop.()Z
theorem e_isStop (hR : X.2 = rX h0 s0 w0) (hC : TC I b L) (hp : I 1 2 = (p : Int)) (hpL : p ≤ L) : KC shX (d + 7) 22 [.ref 1] (I, X) (fun r S2 => r = some (.int (J (bi (decide (kP b L p = 2))))) ∧ ∃ I', S2 = (I', X) ∧ TE I I' ∧ I' 1 2 = ((eP b L p : Nat) : Int) ∧ I' 1 3 = ((skp b L p : Nat) : Int)) := by
  refine k_start ql_22 (Nat.le_of_ble_eq_true rfl) ?_
  simp only [q_en, List.replicate]
  refine k_aload_n i_22_0 rfl ?_
  refine k_cv0 i_22_1 c_6_37 qp_10 qo_10 (by first | rfl | assumption | (rw [hR]; rfl) | (dsimp only; rw [hR]; rfl)) (Nat.le_of_ble_eq_true rfl) (e_advance hR hC hp hpL) (fun v S2 h => ?_)
  obtain ⟨rfl, I', rfl, te, e1, e2, e3, e4⟩ := h
  show K shX (d + 7) 22 4 _ [] _ _
  have hk : kQ b L (skp b L p) = kP b L p := rfl
  rw [hk] at e3 e4
  have hkr : 0 ≤ kP b L p ∧ kP b L p ≤ 9 := by
    unfold kP kQ wkd
    repeat' split
    all_goals omega
  refine k_aload_n i_22_4 rfl ?_
  refine k_gfV (a := (kP b L p)) i_22_5 f_6_40 (by first | rfl | assumption | (rw [hR]; rfl) | (dsimp only; rw [hR]; rfl)) (by decide) (by decide) (Or.inl rfl) (e3) ?_
  refine k_iconst i_22_8 ?_
  refine k_ic_ne (t := 16) i_22_9 rfl (by omega) (by omega) (fun h => ?_) (fun h => ?_)
  · rw [decide_eq_false h]
    refine k_iconst i_22_16 ?_
    refine k_nret i_22_17 qt_22 (by first | exact bi_nar _ | rfl) ?_
    exact ⟨rfl, I', rfl, te, e1, e2⟩
  · rw [decide_eq_true (by omega)]
    refine k_iconst i_22_12 ?_
    refine k_goto (t := 17) i_22_13 rfl ?_
    refine k_nret i_22_17 qt_22 (by first | exact bi_nar _ | rfl) ?_
    exact ⟨rfl, I', rfl, te, e1, e2⟩
-- method 16: StraightTax$Text.isSize.(LStraightTax$Town;)Z
theorem e_isSize (hR : X.2 = rX h0 s0 w0) (hC : TC I b L) (hs : 2 < s) (hP : XP I X s z) (hp : I 1 2 = (p : Int)) (hpL : p ≤ L) : KC shX (d + 8) 16 [.ref 1, .ref s] (I, X) (BPo X s I (bSize b L z p)) := by
  have e0 := eP_r (b := b) hpL
  have s1 := hP.1.1
  unfold bSize
  refine k_start ql_16 (Nat.le_of_ble_eq_true rfl) ?_
  simp only [q_en, List.replicate]
  refine k_aload_n i_16_0 rfl ?_
  refine k_iconst i_16_1 ?_
  refine k_iconst i_16_2 ?_
  refine k_cv2 i_16_3 c_6_67 qp_17 qo_17 (by first | rfl | assumption | (rw [hR]; rfl) | (dsimp only; rw [hR]; rfl)) (Nat.le_of_ble_eq_true rfl) (e_isNumber hR hC hp hpL 2 5 (by omega) (by omega)) (fun v S2 h => ?_)
  obtain ⟨rfl, I1, rfl, te, e1, e2, e3⟩ := h
  show K shX (d + 8) 16 6 _ [.int (J (bi (nOK b L 2 5 p)))] _ _
  refine k_if_neB (t := 11) i_16_6 rfl (fun h => ?_) (fun h => ?_)
  · have e4 := e3 h
    rw [if_pos h]
    refine k_aload_n i_16_11 rfl ?_
    refine k_aload_n i_16_12 rfl ?_
    refine k_gfV (a := (vP b L p)) i_16_13 f_6_71 (by first | rfl | assumption | (rw [hR]; rfl) | (dsimp only; rw [hR]; rfl)) (by decide) (by decide) (Or.inl rfl) (e4) ?_
    refine k_pfI i_16_16 f_6_74 (by first | rfl | assumption | (rw [hR]; rfl) | (dsimp only; rw [hR]; rfl)) (by decide) rfl ?_
    refine k_aload_n i_16_19 rfl ?_
    refine k_iconst i_16_20 ?_
    refine k_iconst i_16_21 ?_
    dsimp only
    have hP1 := hP.te te hs
    have te2 : TF s I (q_up I1 s 0 (vP b L p)) := (TE.tf te).tr (TF.upS (by omega))
    refine k_cv2 i_16_22 c_6_67 qp_17 qo_17 (by first | rfl | assumption | (rw [hR]; rfl) | (dsimp only; rw [hR]; rfl)) (Nat.le_of_ble_eq_true rfl) (e_isNumber (X := X) hR (hC.ofF te2 hs) ((q_up_n (by omega)).trans e1) e0.2 1 4 (by omega) (by omega)) (fun v S2 h => ?_)
    obtain ⟨rfl, I2, rfl, te', f1, f2, f3⟩ := h
    show K shX (d + 8) 16 25 _ [.int (J (bi (nOK b L 1 4 (eP b L p))))] _ _
    have hT2 : XP (q_up I1 s 0 (vP b L p)) X s (tSetW z.1 (vP b L p), z.2) := ⟨hP1.1.setW, (q_up_n (by omega)).trans hP1.2.1, (q_up_n (by omega)).trans hP1.2.2.1, (q_up_n (by omega)).trans hP1.2.2.2⟩
    have hT3 := hT2.te te' hs
    refine k_if_neB (t := 30) i_16_25 rfl (fun h => ?_) (fun h => ?_)
    · rw [if_pos h]
      refine k_aload_n i_16_30 rfl ?_
      refine k_aload_n i_16_31 rfl ?_
      refine k_gfV (a := (vP b L (eP b L p))) i_16_32 f_6_71 (by first | rfl | assumption | (rw [hR]; rfl) | (dsimp only; rw [hR]; rfl)) (by decide) (by decide) (Or.inl rfl) (f3 h) ?_
      refine k_pfI i_16_35 f_6_77 (by first | rfl | assumption | (rw [hR]; rfl) | (dsimp only; rw [hR]; rfl)) (by decide) rfl ?_
      refine k_iconst i_16_38 ?_
      refine k_nret i_16_39 qt_16 (by first | exact bi_nar _ | rfl) ?_
      exact ⟨_, rfl, (te2.tr (TE.tf te')).tr (TF.upS (by omega)), Or.inr ⟨_, _, rfl, rfl, ⟨hT3.1.setH, (q_up_n (by omega)).trans hT3.2.1, (q_up_n (by omega)).trans hT3.2.2.1, (q_up_n (by omega)).trans hT3.2.2.2⟩, (q_up_n (by omega)).trans f1⟩⟩
    · rw [if_neg (by rw [h]; decide)]
      refine k_iconst i_16_28 ?_
      refine k_nret i_16_29 qt_16 (by first | exact bi_nar _ | rfl) ?_
      exact ⟨_, rfl, te2.tr (TE.tf te'), Or.inl ⟨_, rfl, rfl, f2⟩⟩
  · rw [if_neg (by rw [h]; decide)]
    refine k_iconst i_16_9 ?_
    refine k_nret i_16_10 qt_16 (by first | exact bi_nar _ | rfl) ?_
    exact ⟨_, rfl, TE.tf te, Or.inl ⟨_, rfl, rfl, e2⟩⟩
-- method 18: StraightTax$Text.isThing.(LStraightTax$Town;I)Z
theorem e_isThing (hR : X.2 = rX h0 s0 w0) (hC : TC I b L) (hs : 2 < s) (hP : XP I X s z) (hz : tOK z.1) (hp : I 1 2 = (p : Int)) (hpL : p ≤ L) (v : Int) : KC shX (d + 8) 18 [.ref 1, .ref s, .int (J v)] (I, X) (BPo X s I (bThing b L z v p)) := by
  have e0 := eP_r (b := b) hpL
  have hw := hz.1
  have hwd := hw.1
  have hwh := hw.2.1
  have hN := tN_le hw
  obtain ⟨s1, s2, s3, q1, q2, a0, a1, a2, a3, a4, a5, a6, ag⟩ := id hP.1
  unfold bThing
  refine k_start ql_18 (Nat.le_of_ble_eq_true rfl) ?_
  simp only [q_en, List.replicate]
  refine k_aload_n i_18_0 rfl ?_
  refine k_iconst i_18_1 ?_
  refine k_aload_n i_18_2 rfl ?_
  refine k_gfV (a := (tW z.1)) i_18_3 f_6_74 (by first | rfl | assumption | (rw [hR]; rfl) | (dsimp only; rw [hR]; rfl)) (by decide) (by decide) (Or.inl rfl) (a0) ?_
  refine k_iconst i_18_6 ?_
  refine k_isub i_18_7 ?_
  refine k_cv2 i_18_8 c_6_67 qp_17 qo_17 (by first | rfl | assumption | (rw [hR]; rfl) | (dsimp only; rw [hR]; rfl)) (Nat.le_of_ble_eq_true rfl) (e_isNumber hR hC hp hpL 0 (tW z.1 - 1) (by omega) (by omega)) (fun v S2 h => ?_)
  obtain ⟨rfl, I1, rfl, te, e1, e2, e3⟩ := h
  show K shX (d + 8) 18 11 _ [.int (J (bi (nOK b L 0 (tW z.1 - 1) p)))] _ _
  refine k_if_neB (t := 16) i_18_11 rfl (fun h => ?_) (fun h => ?_)
  · have e4 := e3 h
    have v1 := nOK_v h
    rw [if_pos h]
    have hP1 := hP.te te hs
    refine k_aload_n i_18_16 rfl ?_
    refine k_gfV (a := (vP b L p)) i_18_17 f_6_71 (by first | rfl | assumption | (rw [hR]; rfl) | (dsimp only; rw [hR]; rfl)) (by decide) (by decide) (Or.inl rfl) (e4) ?_
    refine k_istore_n i_18_20 (Nat.le_of_ble_eq_true rfl) ?_
    dsimp only [q_st1, q_st2, q_unl]
    refine k_aload_n i_18_21 rfl ?_
    refine k_iconst i_18_22 ?_
    refine k_aload_n i_18_23 rfl ?_
    refine k_gfV (a := (tH z.1)) i_18_24 f_6_77 (by first | rfl | assumption | (rw [hR]; rfl) | (dsimp only; rw [hR]; rfl)) (by decide) (by decide) (Or.inl rfl) (hP1.1.2.2.2.2.2.2.1) ?_
    refine k_iconst i_18_27 ?_
    refine k_isub i_18_28 ?_
    refine k_cv2 i_18_29 c_6_67 qp_17 qo_17 (by first | rfl | assumption | (rw [hR]; rfl) | (dsimp only; rw [hR]; rfl)) (Nat.le_of_ble_eq_true rfl) (e_isNumber (X := X) hR (hC.of te) e1 e0.2 0 (tH z.1 - 1) (by omega) (by omega)) (fun v S2 h => ?_)
    obtain ⟨rfl, I2, rfl, te', f1, f2, f3⟩ := h
    show K shX (d + 8) 18 32 _ [.int (J (bi (nOK b L 0 (tH z.1 - 1) (eP b L p))))] _ _
    have hP2 := hP1.te te' hs
    refine k_if_neB (t := 37) i_18_32 rfl (fun h => ?_) (fun h => ?_)
    · have v2 := nOK_v h
      obtain ⟨k1, k2, k3⟩ := thing_c hw v1 v2
      rw [if_pos h]
      refine k_aload_n i_18_37 rfl ?_
      refine k_iload_n i_18_38 rfl ?_
      refine k_aload_n i_18_39 rfl ?_
      refine k_gfV (a := (vP b L (eP b L p))) i_18_40 f_6_71 (by first | rfl | assumption | (rw [hR]; rfl) | (dsimp only; rw [hR]; rfl)) (by decide) (by decide) (Or.inl rfl) (f3 h) ?_
      refine k_vp2 i_18_43 c_6_80 qp_25 qo_25 (by first | rfl | assumption | (rw [hR]; rfl) | (dsimp only; rw [hR]; rfl)) (Nat.le_of_ble_eq_true rfl) (e_squareAt hP2.1 hw _ _ (by omega) (by omega)) ?_
      rw [k1]
      have hon : tOn z.1 (vP b L (eP b L p) * tW z.1 + vP b L p) = tG z.1 (vP b L (eP b L p) * tW z.1 + vP b L p).toNat := by
        unfold tOn
        rw [if_pos (by omega)]
      have hg := hw.2.2.2.2.2.2.2 (vP b L (eP b L p) * tW z.1 + vP b L p).toNat
      refine k_istore i_18_46 (Nat.le_of_ble_eq_true rfl) ?_
      dsimp only [q_st1, q_st2, q_unl]
      refine k_aload_n i_18_48 rfl ?_
      refine k_iload i_18_49 rfl ?_
      refine k_vp1 i_18_51 c_6_84 qp_29 qo_29 (by first | rfl | assumption | (rw [hR]; rfl) | (dsimp only; rw [hR]; rfl)) (Nat.le_of_ble_eq_true rfl) (e_thingOn hP2.1 _ (by omega)) ?_
      rw [hon]
      refine k_if_eq (t := 59) i_18_54 rfl (by omega) (fun g => ?_) (fun g => ?_)
      · rw [if_pos g]
        refine k_aload_n i_18_59 rfl ?_
        refine k_iload i_18_60 rfl ?_
        refine k_iload_n i_18_62 rfl ?_
        refine k_cv2 i_18_63 c_6_88 qp_31 qo_31 (by first | rfl | assumption | (rw [hR]; rfl) | (dsimp only; rw [hR]; rfl)) (Nat.le_of_ble_eq_true rfl) (e_put hP2.1 _ v (by omega)) (fun v S2 h => ?_)
        obtain ⟨rfl, rfl⟩ := h
        show K shX (d + 8) 18 66 _ [] _ _
        refine k_iconst i_18_66 ?_
        refine k_nret i_18_67 qt_18 (by first | exact bi_nar _ | rfl) ?_
        exact ⟨_, rfl, ((TE.tf te).tr (TE.tf te')).tr (TF.upG (by omega)), Or.inr ⟨_, _, rfl, rfl, ⟨hP2.1.setG, (q_up_n (by omega)).trans hP2.2.1, (q_up_n (by omega)).trans hP2.2.2.1, (q_up_n (by omega)).trans hP2.2.2.2⟩, (q_up_n (by omega)).trans f1⟩⟩
      · rw [if_neg g]
        refine k_iconst i_18_57 ?_
        refine k_nret i_18_58 qt_18 (by first | exact bi_nar _ | rfl) ?_
        exact ⟨_, rfl, (TE.tf te).tr (TE.tf te'), Or.inl ⟨_, rfl, rfl, f2⟩⟩
    · rw [if_neg (by rw [h]; decide)]
      refine k_iconst i_18_35 ?_
      refine k_nret i_18_36 qt_18 (by first | exact bi_nar _ | rfl) ?_
      exact ⟨_, rfl, (TE.tf te).tr (TE.tf te'), Or.inl ⟨_, rfl, rfl, f2⟩⟩
  · rw [if_neg (by rw [h]; decide)]
    refine k_iconst i_18_14 ?_
    refine k_nret i_18_15 qt_18 (by first | exact bi_nar _ | rfl) ?_
    exact ⟨_, rfl, TE.tf te, Or.inl ⟨_, rfl, rfl, e2⟩⟩
-- method 19: StraightTax$Text.isTax.(LStraightTax$Town;)Z
theorem e_isTax (hR : X.2 = rX h0 s0 w0) (hC : TC I b L) (hs : 2 < s) (hP : XP I X s z) (hp : I 1 2 = (p : Int)) (hq : I 1 3 = (q : Int)) (hpL : p ≤ L) : KC shX (d + 8) 19 [.ref 1, .ref s] (I, X) (BPo X s I (bTax b L z q p)) := by
  have e0 := eP_r (b := b) hpL
  have e00 := eP_r (b := b) e0.2
  have s1 := hP.1.1
  unfold bTax
  refine k_start ql_19 (Nat.le_of_ble_eq_true rfl) ?_
  simp only [q_en, List.replicate]
  refine k_aload_n i_19_0 rfl ?_
  refine k_gfV (a := (bi z.2.1)) i_19_1 f_6_27 (by first | rfl | assumption | (rw [hR]; rfl) | (dsimp only; rw [hR]; rfl)) (by decide) (by decide) (Or.inr rfl) (hP.2.1) ?_
  refine k_if_neB (t := 16) i_19_4 rfl (fun h => ?_) (fun h => ?_)
  · rw [if_pos h]
    refine k_iconst i_19_16 ?_
    refine k_nret i_19_17 qt_19 (by first | exact bi_nar _ | rfl) ?_
    exact ⟨_, rfl, TF.rf, Or.inl ⟨_, rfl, rfl, hq⟩⟩
  · rw [if_neg (by rw [h]; decide)]
    refine k_aload_n i_19_7 rfl ?_
    refine k_iconst i_19_8 ?_
    refine k_iconst i_19_9 ?_
    refine k_cv2 i_19_10 c_6_67 qp_17 qo_17 (by first | rfl | assumption | (rw [hR]; rfl) | (dsimp only; rw [hR]; rfl)) (Nat.le_of_ble_eq_true rfl) (e_isNumber hR hC hp hpL 0 4 (by omega) (by omega)) (fun v S2 h => ?_)
    obtain ⟨rfl, I1, rfl, te, e1, e2, e3⟩ := h
    show K shX (d + 8) 19 13 _ [.int (J (bi (nOK b L 0 4 p)))] _ _
    have hP1 := hP.te te hs
    refine k_if_neB (t := 18) i_19_13 rfl (fun h => ?_) (fun h => ?_)
    · rw [if_pos h]
      refine k_aload_n i_19_18 rfl ?_
      refine k_iconst i_19_19 ?_
      refine k_pfZ i_19_20 f_6_27 (by first | rfl | assumption | (rw [hR]; rfl) | (dsimp only; rw [hR]; rfl)) (by decide) rfl (by first | exact bi_01 _ | omega) ?_
      refine k_aload_n i_19_23 rfl ?_
      refine k_aload_n i_19_24 rfl ?_
      refine k_gfV (a := (vP b L p)) i_19_25 f_6_71 (by first | rfl | assumption | (rw [hR]; rfl) | (dsimp only; rw [hR]; rfl)) (by decide) (by decide) (Or.inl rfl) (by dsimp only; exact (q_up_n (by omega)).trans (e3 h)) ?_
      refine k_pfI i_19_28 f_6_92 (by first | rfl | assumption | (rw [hR]; rfl) | (dsimp only; rw [hR]; rfl)) (by decide) rfl ?_
      refine k_aload_n i_19_31 rfl ?_
      refine k_iconst i_19_32 ?_
      refine k_bipush i_19_33 (by decide) ?_
      dsimp only
      have te2 : TF s I (q_up (q_up I1 1 6 1) s 2 (vP b L p)) := ((TE.tf te).tr (TF.up1 (by omega))).tr (TF.upS (by omega))
      have hP2 : XP (q_up (q_up I1 1 6 1) s 2 (vP b L p)) X s (tSetF z.1 (vP b L p), true, z.2.2) := ⟨(hP1.1.same (q_up_o (by omega)) (q_up_o (by omega)) rfl).setF, (q_up_n (by omega)).trans q_up_s, (q_up_n (by omega)).trans ((q_up_n (by omega)).trans hP1.2.2.1), (q_up_n (by omega)).trans ((q_up_n (by omega)).trans hP1.2.2.2)⟩
      refine k_cv2 i_19_35 c_6_67 qp_17 qo_17 (by first | rfl | assumption | (rw [hR]; rfl) | (dsimp only; rw [hR]; rfl)) (Nat.le_of_ble_eq_true rfl) (e_isNumber (X := X) hR (hC.ofF te2 hs) ((q_up_n (by omega)).trans ((q_up_n (by omega)).trans e1)) e0.2 1 9 (by omega) (by omega)) (fun v S2 h => ?_)
      obtain ⟨rfl, I2, rfl, te', f1, f2, f3⟩ := h
      show K shX (d + 8) 19 38 _ [.int (J (bi (nOK b L 1 9 (eP b L p))))] _ _
      have hP3 := hP2.te te' hs
      refine k_if_neB (t := 43) i_19_38 rfl (fun h => ?_) (fun h => ?_)
      · rw [if_pos h]
        refine k_aload_n i_19_43 rfl ?_
        refine k_aload_n i_19_44 rfl ?_
        refine k_gfV (a := (vP b L (eP b L p))) i_19_45 f_6_71 (by first | rfl | assumption | (rw [hR]; rfl) | (dsimp only; rw [hR]; rfl)) (by decide) (by decide) (Or.inl rfl) (f3 h) ?_
        refine k_pfI i_19_48 f_6_95 (by first | rfl | assumption | (rw [hR]; rfl) | (dsimp only; rw [hR]; rfl)) (by decide) rfl ?_
        refine k_aload_n i_19_51 rfl ?_
        refine k_iconst i_19_52 ?_
        refine k_iconst i_19_53 ?_
        dsimp only
        have te3 : TF s I (q_up I2 s 3 (vP b L (eP b L p))) := (te2.tr (TE.tf te')).tr (TF.upS (by omega))
        have hP4 : XP (q_up I2 s 3 (vP b L (eP b L p))) X s (tSetR (tSetF z.1 (vP b L p)) (vP b L (eP b L p)), true, z.2.2) := ⟨hP3.1.setR, (q_up_n (by omega)).trans hP3.2.1, (q_up_n (by omega)).trans hP3.2.2.1, (q_up_n (by omega)).trans hP3.2.2.2⟩
        refine k_cv2 i_19_54 c_6_67 qp_17 qo_17 (by first | rfl | assumption | (rw [hR]; rfl) | (dsimp only; rw [hR]; rfl)) (Nat.le_of_ble_eq_true rfl) (e_isNumber (X := X) hR (hC.ofF te3 hs) ((q_up_n (by omega)).trans f1) e00.2 0 2 (by omega) (by omega)) (fun v S2 h => ?_)
        obtain ⟨rfl, I3, rfl, te'', g1, g2, g3⟩ := h
        show K shX (d + 8) 19 57 _ [.int (J (bi (nOK b L 0 2 (eP b L (eP b L p)))))] _ _
        have hP5 := hP4.te te'' hs
        refine k_if_neB (t := 62) i_19_57 rfl (fun h => ?_) (fun h => ?_)
        · rw [if_pos h]
          refine k_aload_n i_19_62 rfl ?_
          refine k_aload_n i_19_63 rfl ?_
          refine k_gfV (a := (vP b L (eP b L (eP b L p)))) i_19_64 f_6_71 (by first | rfl | assumption | (rw [hR]; rfl) | (dsimp only; rw [hR]; rfl)) (by decide) (by decide) (Or.inl rfl) (g3 h) ?_
          refine k_pfI i_19_67 f_6_98 (by first | rfl | assumption | (rw [hR]; rfl) | (dsimp only; rw [hR]; rfl)) (by decide) rfl ?_
          refine k_iconst i_19_70 ?_
          refine k_nret i_19_71 qt_19 (by first | exact bi_nar _ | rfl) ?_
          exact ⟨_, rfl, (te3.tr (TE.tf te'')).tr (TF.upS (by omega)), Or.inr ⟨_, _, rfl, rfl, ⟨hP5.1.setM, (q_up_n (by omega)).trans hP5.2.1, (q_up_n (by omega)).trans hP5.2.2.1, (q_up_n (by omega)).trans hP5.2.2.2⟩, (q_up_n (by omega)).trans g1⟩⟩
        · rw [if_neg (by rw [h]; decide)]
          refine k_iconst i_19_60 ?_
          refine k_nret i_19_61 qt_19 (by first | exact bi_nar _ | rfl) ?_
          exact ⟨_, rfl, te3.tr (TE.tf te''), Or.inl ⟨_, rfl, rfl, g2⟩⟩
      · rw [if_neg (by rw [h]; decide)]
        refine k_iconst i_19_41 ?_
        refine k_nret i_19_42 qt_19 (by first | exact bi_nar _ | rfl) ?_
        exact ⟨_, rfl, te2.tr (TE.tf te'), Or.inl ⟨_, rfl, rfl, f2⟩⟩
    · rw [if_neg (by rw [h]; decide)]
      refine k_iconst i_19_16 ?_
      refine k_nret i_19_17 qt_19 (by first | exact bi_nar _ | rfl) ?_
      exact ⟨_, rfl, TE.tf te, Or.inl ⟨_, rfl, rfl, e2⟩⟩
-- method 20: StraightTax$Text.isDouble.(LStraightTax$Town;)Z
theorem e_isDouble (hs : 2 < s) (hP : XP I X s z) (hp : I 1 2 = (p : Int)) (hq : I 1 3 = (q : Int)) : KC shX (d + 8) 20 [.ref 1, .ref s] (I, X) (BPo X s I (bDouble z q p)) := by
  have s1 := hP.1.1
  unfold bDouble
  refine k_start ql_20 (Nat.le_of_ble_eq_true rfl) ?_
  simp only [q_en, List.replicate]
  refine k_aload_n i_20_0 rfl ?_
  refine k_gfV (a := (bi z.2.2.1)) i_20_1 f_6_31 (by first | rfl | assumption | (rw [hR]; rfl) | (dsimp only; rw [hR]; rfl)) (by decide) (by decide) (Or.inr rfl) (hP.2.2.1) ?_
  refine k_if_eqB (t := 9) i_20_4 rfl (fun h => ?_) (fun h => ?_)
  · rw [if_neg (by rw [h]; decide)]
    refine k_aload_n i_20_9 rfl ?_
    refine k_iconst i_20_10 ?_
    refine k_pfZ i_20_11 f_6_31 (by first | rfl | assumption | (rw [hR]; rfl) | (dsimp only; rw [hR]; rfl)) (by decide) rfl (by first | exact bi_01 _ | omega) ?_
    refine k_aload_n i_20_14 rfl ?_
    refine k_iconst i_20_15 ?_
    refine k_pfZ i_20_16 f_6_101 (by first | rfl | assumption | (rw [hR]; rfl) | (dsimp only; rw [hR]; rfl)) (by decide) rfl (by first | exact bi_01 _ | omega) ?_
    refine k_iconst i_20_19 ?_
    refine k_nret i_20_20 qt_20 (by first | exact bi_nar _ | rfl) ?_
    exact ⟨q_up (q_up I 1 7 1) s 5 1, rfl, (TF.up1 (by omega)).tr (TF.upS (by omega)), Or.inr ⟨_, _, rfl, rfl, ⟨(hP.1.same (q_up_o (by omega)) (q_up_o (by omega)) rfl).setD, (q_up_n (by omega)).trans ((q_up_n (by omega)).trans hP.2.1), (q_up_n (by omega)).trans q_up_s, (q_up_n (by omega)).trans ((q_up_n (by omega)).trans hP.2.2.2)⟩, (q_up_n (by omega)).trans ((q_up_n (by omega)).trans hp)⟩⟩
  · rw [if_pos h]
    refine k_iconst i_20_7 ?_
    refine k_nret i_20_8 qt_20 (by first | exact bi_nar _ | rfl) ?_
    exact ⟨_, rfl, TF.rf, Or.inl ⟨_, rfl, rfl, hq⟩⟩
-- method 21: StraightTax$Text.isHaste.(LStraightTax$Town;)Z
theorem e_isHaste (hR : X.2 = rX h0 s0 w0) (hC : TC I b L) (hs : 2 < s) (hP : XP I X s z) (hp : I 1 2 = (p : Int)) (hq : I 1 3 = (q : Int)) (hpL : p ≤ L) : KC shX (d + 8) 21 [.ref 1, .ref s] (I, X) (BPo X s I (bHaste b L z q p)) := by
  have e0 := eP_r (b := b) hpL
  have s1 := hP.1.1
  unfold bHaste
  refine k_start ql_21 (Nat.le_of_ble_eq_true rfl) ?_
  simp only [q_en, List.replicate]
  refine k_aload_n i_21_0 rfl ?_
  refine k_gfV (a := (bi z.2.2.2)) i_21_1 f_6_34 (by first | rfl | assumption | (rw [hR]; rfl) | (dsimp only; rw [hR]; rfl)) (by decide) (by decide) (Or.inr rfl) (hP.2.2.2) ?_
  refine k_if_neB (t := 17) i_21_4 rfl (fun h => ?_) (fun h => ?_)
  · rw [if_pos h]
    refine k_iconst i_21_17 ?_
    refine k_nret i_21_18 qt_21 (by first | exact bi_nar _ | rfl) ?_
    exact ⟨_, rfl, TF.rf, Or.inl ⟨_, rfl, rfl, hq⟩⟩
  · rw [if_neg (by rw [h]; decide)]
    refine k_aload_n i_21_7 rfl ?_
    refine k_iconst i_21_8 ?_
    refine k_bipush i_21_9 (by decide) ?_
    refine k_cv2 i_21_11 c_6_67 qp_17 qo_17 (by first | rfl | assumption | (rw [hR]; rfl) | (dsimp only; rw [hR]; rfl)) (Nat.le_of_ble_eq_true rfl) (e_isNumber hR hC hp hpL 0 9 (by omega) (by omega)) (fun v S2 h => ?_)
    obtain ⟨rfl, I1, rfl, te, e1, e2, e3⟩ := h
    show K shX (d + 8) 21 14 _ [.int (J (bi (nOK b L 0 9 p)))] _ _
    have hP1 := hP.te te hs
    refine k_if_neB (t := 19) i_21_14 rfl (fun h => ?_) (fun h => ?_)
    · rw [if_pos h]
      refine k_aload_n i_21_19 rfl ?_
      refine k_iconst i_21_20 ?_
      refine k_pfZ i_21_21 f_6_34 (by first | rfl | assumption | (rw [hR]; rfl) | (dsimp only; rw [hR]; rfl)) (by decide) rfl (by first | exact bi_01 _ | omega) ?_
      refine k_aload_n i_21_24 rfl ?_
      refine k_aload_n i_21_25 rfl ?_
      refine k_gfV (a := (vP b L p)) i_21_26 f_6_71 (by first | rfl | assumption | (rw [hR]; rfl) | (dsimp only; rw [hR]; rfl)) (by decide) (by decide) (Or.inl rfl) (by dsimp only; exact (q_up_n (by omega)).trans (e3 h)) ?_
      refine k_pfI i_21_29 f_6_104 (by first | rfl | assumption | (rw [hR]; rfl) | (dsimp only; rw [hR]; rfl)) (by decide) rfl ?_
      refine k_iconst i_21_32 ?_
      refine k_nret i_21_33 qt_21 (by first | exact bi_nar _ | rfl) ?_
      exact ⟨q_up (q_up I1 1 8 1) s 6 (vP b L p), rfl, ((TE.tf te).tr (TF.up1 (by omega))).tr (TF.upS (by omega)), Or.inr ⟨_, _, rfl, rfl, ⟨(hP1.1.same (q_up_o (by omega)) (q_up_o (by omega)) rfl).setA, (q_up_n (by omega)).trans ((q_up_n (by omega)).trans hP1.2.1), (q_up_n (by omega)).trans ((q_up_n (by omega)).trans hP1.2.2.1), (q_up_n (by omega)).trans q_up_s⟩, (q_up_n (by omega)).trans ((q_up_n (by omega)).trans e1)⟩⟩
    · rw [if_neg (by rw [h]; decide)]
      refine k_iconst i_21_17 ?_
      refine k_nret i_21_18 qt_21 (by first | exact bi_nar _ | rfl) ?_
      exact ⟨_, rfl, TE.tf te, Or.inl ⟨_, rfl, rfl, e2⟩⟩
end TT
