/-! READING: the reference's items -/
def tb3 (f0 f1 f2 : Bool) : Nat := (if f0 then 1 else 0) + (if f1 then 2 else 0) + (if f2 then 4 else 0)
theorem tb3_lt (f0 f1 f2 : Bool) : tb3 f0 f1 f2 < 8 := by cases f0 <;> cases f1 <;> cases f2 <;> decide
theorem tb3_b0 (f0 f1 f2 : Bool) : (tb3 f0 f1 f2).testBit 0 = f0 := by cases f0 <;> cases f1 <;> cases f2 <;> decide
theorem tb3_b1 (f0 f1 f2 : Bool) : (tb3 f0 f1 f2).testBit 1 = f1 := by cases f0 <;> cases f1 <;> cases f2 <;> decide
theorem tb3_b2 (f0 f1 f2 : Bool) : (tb3 f0 f1 f2).testBit 2 = f2 := by cases f0 <;> cases f1 <;> cases f2 <;> decide
theorem tb3_s0 (f0 f1 f2 : Bool) : tb3 f0 f1 f2 ||| 2 ^ 0 = tb3 true f1 f2 := by cases f0 <;> cases f1 <;> cases f2 <;> decide
theorem tb3_s1 (f0 f1 f2 : Bool) : tb3 f0 f1 f2 ||| 2 ^ 1 = tb3 f0 true f2 := by cases f0 <;> cases f1 <;> cases f2 <;> decide
theorem tb3_s2 (f0 f1 f2 : Bool) : tb3 f0 f1 f2 ||| 2 ^ 2 = tb3 f0 f1 true := by cases f0 <;> cases f1 <;> cases f2 <;> decide
def MP (I : Nat → Nat → Int) (z : Zt) : Prop := I 0 17 = tW z.1 ∧ I 0 18 = tH z.1 ∧ I 0 19 = (tMask z.1 1 : Int) ∧ I 0 20 = (tMask z.1 2 : Int) ∧ I 0 22 = (tb3 z.2.1 z.2.2.1 z.2.2.2 : Int) ∧ I 6 0 = tF z.1 ∧ I 6 1 = tR z.1 ∧ I 6 2 = tM z.1 ∧ I 6 3 = tD z.1 ∧ I 6 4 = tA z.1
def MFr (I I' : Nat → Nat → Int) : Prop := (∀ c, c ≠ 0 → c ≠ 6 → I' c = I c) ∧ (∀ k, k < 17 → I' 0 k = I 0 k) ∧ I' 0 23 = I 0 23
theorem MFr.rf {I : Nat → Nat → Int} : MFr I I := ⟨fun _ _ _ => rfl, fun _ _ => rfl, rfl⟩
theorem MFr.tr {I I1 I2 : Nat → Nat → Int} (h : MFr I I1) (h2 : MFr I1 I2) : MFr I I2 := ⟨fun c h3 h4 => (h2.1 c h3 h4).trans (h.1 c h3 h4), fun k hk => (h2.2.1 k hk).trans (h.2.1 k hk), h2.2.2.trans h.2.2⟩
theorem MFr.up {I : Nat → Nat → Int} {k : Nat} {v : Int} (hk : 17 ≤ k ∧ k ≠ 23) : MFr I (q_up I 0 k v) := ⟨fun c hc _ => q_up_o hc, fun k2 h2 => q_up_n (by omega), q_up_n (by omega)⟩
theorem MFr.up6 {I : Nat → Nat → Int} {k : Nat} {v : Int} : MFr I (q_up I 6 k v) := ⟨fun c _ hc => q_up_o hc, fun k2 h2 => q_up_n (by omega), q_up_n (by omega)⟩
theorem MC.of {I I' : Nat → Nat → Int} {b : Nat → Int} {L : Nat} (h : MC I b L) (he : MFr I I') : MC I' b L := by
  obtain ⟨h1, h2, h3, h4⟩ := h
  exact ⟨(he.2.1 10 (by omega)).trans h1, h2, h3, by rw [he.1 1 (by omega) (by omega)]; exact h4⟩
theorem MP.up {I : Nat → Nat → Int} {z : Zt} {k : Nat} {v : Int} (h : MP I z) (hk : 23 ≤ k) : MP (q_up I 0 k v) z := by
  obtain ⟨h1, h2, h3, h4, h5, h6, h7, h8, h9, h10⟩ := h
  exact ⟨(q_up_n (by omega)).trans h1, (q_up_n (by omega)).trans h2, (q_up_n (by omega)).trans h3, (q_up_n (by omega)).trans h4, (q_up_n (by omega)).trans h5, (q_up_n (by omega)).trans h6, (q_up_n (by omega)).trans h7, (q_up_n (by omega)).trans h8, (q_up_n (by omega)).trans h9, (q_up_n (by omega)).trans h10⟩
def MRes (I' : Nat → Nat → Int) (res : Rt) : Prop := (∃ f : Nat, res = .inl f ∧ f ≤ 200 ∧ I' 0 25 = (f : Int)) ∨ (∃ z' p', res = .inr (z', p') ∧ MP I' z' ∧ I' 0 24 = ((p' : Nat) : Int) ∧ I' 0 25 = -9)
theorem tMk_cg {T T' : Tn} (h : tGf T = tGf T') (v : Int) : ∀ k, tMk T v k = tMk T' v k
  | 0 => rfl
  | k + 1 => by
    unfold tMk
    rw [tMk_cg h v k, show tG T k = tG T' k from congrFun h k]
theorem tMask_cg {T T' : Tn} (h : tGf T = tGf T') (v : Int) : tMask T v = tMask T' v := tMk_cg h v 20
theorem tMask_put {T : Tn} {c : Nat} {u v : Int} (hc : c < 20) (h0 : tG T c = 0) (hu : u ≠ 0) : tMask (tSetG T c v) u = tMask T u ||| (if u = v then 2 ^ c else 0) := by
  apply Nat.eq_of_testBit_eq
  intro i
  rw [Nat.testBit_or]
  unfold tMask
  rw [tMk_bit, tMk_bit]
  have e : tG (tSetG T c v) i = if i = c then v else tG T i := rfl
  rw [e]
  by_cases y : i = c
  · subst y
    rw [if_pos rfl, h0]
    by_cases x : u = v
    · rw [if_pos x, decide_eq_true ⟨hc, x.symm⟩, Nat.testBit_two_pow_self]
      simp
    · rw [if_neg x, decide_eq_false (fun h => x h.2.symm), decide_eq_false (fun h => hu h.2.symm), Nat.zero_testBit]
      rfl
  · rw [if_neg y]
    have : (if u = v then 2 ^ c else 0 : Nat).testBit i = false := by
      split
      · rw [Nat.testBit_two_pow]
        exact decide_eq_false (fun h => y h.symm)
      · exact Nat.zero_testBit i
    rw [this, Bool.or_false]
section MS
variable {d : Nat} {I : Nat → Nat → Int} {X : XX} {b : Nat → Int} {L q p : Nat} {z : Zt}
theorem nOK_skp {lo hi : Int} (hp : p ≤ L) : nOK b L lo hi (skp b L p) = nOK b L lo hi p := by
  unfold nOK kP vP
  rw [skp_2 hp]
theorem vP_skp (hp : p ≤ L) : vP b L (skp b L p) = vP b L p := by
  unfold vP
  rw [skp_2 hp]
theorem eP_skp (hp : p ≤ L) : eP b L (skp b L p) = eP b L p := by
  unfold eP
  rw [skp_2 hp]
theorem kP_skp (hp : p ≤ L) : kP b L (skp b L p) = kP b L p := by
  unfold kP
  rw [skp_2 hp]
-- method 110: StraightTaxModel.isAgain.(II)Z
theorem m_again {t : Nat} (ht : I 0 22 = (t : Int)) (ht8 : t < 8) (w : Nat) (hw : w < 3) (q : Int) (hf : I 0 25 = -9) : KC shM (d + 1) 110 [.ref 0, .int (J (w : Int)), .int (J q)] (I, X) (fun r S2 => r = some (.int (J (bi (t.testBit w)))) ∧ S2 = (q_up (q_up I 0 22 ((t ||| 2 ^ w : Nat) : Int)) 0 25 (if t.testBit w = true then q else -9), X)) := by
  have e1 : ((w : Int)).toNat = w := by omega
  have hsl : J 1 <<< (J (w : Int) &&& 31) = J ((2 ^ w : Nat) : Int) := by
    have h := J_shl (m := 1) (c := w) (by omega) (by
      have : ∀ w, w < 3 → 1 * 2 ^ w < 2 ^ 32 := by decide
      exact this w hw)
    rw [Nat.one_mul] at h
    exact h
  refine k_start ql_110 (Nat.le_of_ble_eq_true rfl) ?_
  simp only [q_en, List.replicate]
  refine k_aload_n i_110_0 rfl ?_
  refine k_gfV (a := (t : Int)) i_110_1 f_12_135 (by first | rfl | assumption | (rw [hR]; rfl) | (dsimp only; rw [hR]; rfl)) (by decide) (by decide) (Or.inl rfl) (ht) ?_
  refine k_iload_n i_110_4 rfl ?_
  refine k_sp2 i_110_5 c_12_83 (by decide) qp_109 (Nat.le_of_ble_eq_true rfl) (m_has (by omega) _ (by omega) (by omega)) ?_
  rw [e1]
  refine k_istore_n i_110_8 (Nat.le_of_ble_eq_true rfl) ?_
  dsimp only [q_st1, q_st2, q_unl]
  refine k_aload_n i_110_9 rfl ?_
  first | refine k_dupA i_110_10 ?_ | refine k_dupI i_110_10 ?_
  refine k_gfV (a := (t : Int)) i_110_11 f_12_135 (by first | rfl | assumption | (rw [hR]; rfl) | (dsimp only; rw [hR]; rfl)) (by decide) (by decide) (Or.inl rfl) (ht) ?_
  refine k_iconst i_110_14 ?_
  refine k_iload_n i_110_15 rfl ?_
  refine k_ishl (c := ((2 ^ w : Nat) : Int)) i_110_16 hsl ?_
  refine k_ior (c := ((t ||| 2 ^ w : Nat) : Int)) i_110_17 (J_or _ _) ?_
  refine k_pfI i_110_18 f_12_135 (by first | rfl | assumption | (rw [hR]; rfl) | (dsimp only; rw [hR]; rfl)) (by decide) rfl ?_
  refine k_aload_n i_110_21 rfl ?_
  refine k_iload_n i_110_22 rfl ?_
  refine k_if_eqB (t := 30) i_110_23 rfl (fun h => ?_) (fun h => ?_)
  · rw [if_neg (by rw [h]; decide)]
    refine k_aload_n i_110_30 rfl ?_
    refine k_gfV (a := (-9)) i_110_31 f_12_97 (by first | rfl | assumption | (rw [hR]; rfl) | (dsimp only; rw [hR]; rfl)) (by decide) (by decide) (Or.inl rfl) (by dsimp only; exact (q_up_n (by omega)).trans hf) ?_
    refine k_pfI i_110_34 f_12_97 (by first | rfl | assumption | (rw [hR]; rfl) | (dsimp only; rw [hR]; rfl)) (by decide) rfl ?_
    refine k_iload_n i_110_37 rfl ?_
    refine k_nret i_110_38 qt_110 (by first | exact bi_nar _ | rfl) ?_
    exact ⟨by rw [h], rfl⟩
  · rw [if_pos h]
    refine k_iload_n i_110_26 rfl ?_
    refine k_goto (t := 34) i_110_27 rfl ?_
    refine k_pfI i_110_34 f_12_97 (by first | rfl | assumption | (rw [hR]; rfl) | (dsimp only; rw [hR]; rfl)) (by decide) rfl ?_
    refine k_iload_n i_110_37 rfl ?_
    refine k_nret i_110_38 qt_110 (by first | exact bi_nar _ | rfl) ?_
    exact ⟨by rw [h], rfl⟩
-- method 108: StraightTaxModel.takeSquare.(Z)V
theorem m_square (hR : X.2 = rM) (hC : MC I b L) (hP : MP I z) (hz : tOK z.1) (hp : I 0 24 = (p : Int)) (hpL : p ≤ L) (hf : I 0 25 = -9) (hs : Bool) : KC shM (d + 2) 108 [.ref 0, .int (J (bi hs))] (I, X) (fun r S2 => r = none ∧ ∃ I', S2 = (I', X) ∧ MFr I I' ∧ MRes I' (bThing b L z (if hs = true then 1 else 2) p)) := by
  have hw := hz.1
  have hwd := hw.1
  have hwh := hw.2.1
  have hN := tN_le hw
  have hL := hC.2.1
  have e0 := eP_r (b := b) hpL
  have k0 := skp_r b hpL
  have k1 := skp_r b e0.2
  -- once a fault is told, nothing more is read
  have bad : ∀ (I1 : Nat → Nat → Int) (f : Nat) (x2 : Int) (v3 v4 : Option Value), MFr I I1 → bThing b L z (if hs = true then 1 else 2) p = .inl f → f ≤ 200 → I1 0 25 = (f : Int) → K shM (d + 2) 108 34 [some (.ref 0), some (.int (J (bi hs))), some (.int (J x2)), v3, v4] [] (I1, X) (fun r S2 => r = none ∧ ∃ I', S2 = (I', X) ∧ MFr I I' ∧ MRes I' (bThing b L z (if hs = true then 1 else 2) p)) := by
    intro I1 f x2 v3 v4 mf hres hf2 hI
    refine k_aload_n i_108_34 rfl ?_
    refine k_gfI i_108_35 f_12_94 (by first | rfl | assumption | (rw [hR]; rfl) | (dsimp only; rw [hR]; rfl)) (by decide) (by decide) (Or.inl rfl) ?_
    refine k_istore_n i_108_38 (Nat.le_of_ble_eq_true rfl) ?_
    dsimp only [q_st1, q_st2, q_unl]
    refine k_aload_n i_108_39 rfl ?_
    refine k_gfI i_108_40 f_12_120 (by first | rfl | assumption | (rw [hR]; rfl) | (dsimp only; rw [hR]; rfl)) (by decide) (by decide) (Or.inl rfl) ?_
    refine k_aload_n i_108_43 rfl ?_
    refine k_iconst i_108_44 ?_
    refine k_aload_n i_108_45 rfl ?_
    refine k_gfI i_108_46 f_12_126 (by first | rfl | assumption | (rw [hR]; rfl) | (dsimp only; rw [hR]; rfl)) (by decide) (by decide) (Or.inl rfl) ?_
    refine k_iconst i_108_49 ?_
    refine k_isub i_108_50 ?_
    refine k_cv2 i_108_51 c_12_123 qp_106 qo_106 (by first | rfl | assumption | (rw [hR]; rfl) | (dsimp only; rw [hR]; rfl)) (Nat.le_of_ble_eq_true rfl) (m_numF hI (by omega) _ _) (fun v S2 h => ?_)
    obtain ⟨rfl, rfl⟩ := h
    show K shM (d + 2) 108 54 _ [.int (J 0), .int (J (I1 0 17))] _ _
    refine k_imul i_108_54 ?_
    refine k_iload_n i_108_55 rfl ?_
    refine k_iadd i_108_56 ?_
    refine k_istore i_108_57 (Nat.le_of_ble_eq_true rfl) ?_
    dsimp only [q_st1, q_st2, q_unl]
    refine k_aload_n i_108_59 rfl ?_
    refine k_gfV (a := (f : Int)) i_108_60 f_12_97 (by first | rfl | assumption | (rw [hR]; rfl) | (dsimp only; rw [hR]; rfl)) (by decide) (by decide) (Or.inl rfl) (hI) ?_
    refine k_if_ge (t := 88) i_108_63 rfl (by omega) (fun g => ?_) (fun g => ?_)
    · refine k_aload_n i_108_88 rfl ?_
      refine k_gfV (a := (f : Int)) i_108_89 f_12_97 (by first | rfl | assumption | (rw [hR]; rfl) | (dsimp only; rw [hR]; rfl)) (by decide) (by decide) (Or.inl rfl) (hI) ?_
      refine k_if_ge (t := 137) i_108_92 rfl (by omega) (fun g2 => ?_) (fun g2 => ?_)
      · refine k_vret i_108_137 qt_108 ?_
        exact ⟨rfl, I1, rfl, mf, Or.inl ⟨f, hres, hf2, hI⟩⟩
      · omega
    · omega
  refine k_start ql_108 (Nat.le_of_ble_eq_true rfl) ?_
  simp only [q_en, List.replicate]
  refine k_aload_n i_108_0 rfl ?_
  refine k_iconst i_108_1 ?_
  refine k_aload_n i_108_2 rfl ?_
  refine k_gfV (a := (tW z.1)) i_108_3 f_12_120 (by first | rfl | assumption | (rw [hR]; rfl) | (dsimp only; rw [hR]; rfl)) (by decide) (by decide) (Or.inl rfl) (hP.1) ?_
  refine k_iconst i_108_6 ?_
  refine k_isub i_108_7 ?_
  refine k_cv2 i_108_8 c_12_123 qp_106 qo_106 (by first | rfl | assumption | (rw [hR]; rfl) | (dsimp only; rw [hR]; rfl)) (Nat.le_of_ble_eq_true rfl) (m_num hR hC hp hpL hf 0 (tW z.1 - 1) (by omega) (by omega)) (fun v S2 h => ?_)
  rcases h with ⟨n1, rfl, rfl⟩ | ⟨n1, rfl, a, rfl⟩
  · show K shM (d + 2) 108 11 _ [.int (J (vP b L p))] _ _
    have v1 := nOK_v n1
    refine k_istore_n i_108_11 (Nat.le_of_ble_eq_true rfl) ?_
    dsimp only [q_st1, q_st2, q_unl]
    refine k_aload_n i_108_12 rfl ?_
    refine k_gfV (a := (-9)) i_108_13 f_12_97 (by first | rfl | assumption | (rw [hR]; rfl) | (dsimp only; rw [hR]; rfl)) (by decide) (by decide) (Or.inl rfl) (by dsimp only; exact (q_up_n (by omega)).trans hf) ?_
    refine k_if_ge (t := 34) i_108_16 rfl (by omega) (fun g => ?_) (fun g => ?_)
    · omega
    · refine k_aload_n i_108_19 rfl ?_
      refine k_cv0 i_108_20 c_12_100 qp_103 qo_103 (by first | rfl | assumption | (rw [hR]; rfl) | (dsimp only; rw [hR]; rfl)) (Nat.le_of_ble_eq_true rfl) (m_isEnd hR (hC.of (MFr.up (by omega))) q_up_s e0.2) (fun v S2 h => ?_)
      obtain ⟨rfl, rfl⟩ := h
      rw [q_up_up]
      show K shM (d + 2) 108 23 _ [.int (J (bi (decide (L ≤ skp b L (eP b L p)))))] _ _
      refine k_if_eqB (t := 34) i_108_23 rfl (fun h => ?_) (fun h => ?_)
      · have g3 : skp b L (eP b L p) < L := by simpa using h
        have hP1 : MP (q_up I 0 24 ((skp b L (eP b L p) : Nat) : Int)) z := hP.up (by omega)
        have mf1 : MFr I (q_up I 0 24 ((skp b L (eP b L p) : Nat) : Int)) := MFr.up (by omega)
        refine k_aload_n i_108_34 rfl ?_
        refine k_gfV (a := ((skp b L (eP b L p) : Nat) : Int)) i_108_35 f_12_94 (by first | rfl | assumption | (rw [hR]; rfl) | (dsimp only; rw [hR]; rfl)) (by decide) (by decide) (Or.inl rfl) (by dsimp only; exact q_up_s) ?_
        refine k_istore_n i_108_38 (Nat.le_of_ble_eq_true rfl) ?_
        dsimp only [q_st1, q_st2, q_unl]
        refine k_aload_n i_108_39 rfl ?_
        refine k_gfV (a := (tW z.1)) i_108_40 f_12_120 (by first | rfl | assumption | (rw [hR]; rfl) | (dsimp only; rw [hR]; rfl)) (by decide) (by decide) (Or.inl rfl) (hP1.1) ?_
        refine k_aload_n i_108_43 rfl ?_
        refine k_iconst i_108_44 ?_
        refine k_aload_n i_108_45 rfl ?_
        refine k_gfV (a := (tH z.1)) i_108_46 f_12_126 (by first | rfl | assumption | (rw [hR]; rfl) | (dsimp only; rw [hR]; rfl)) (by decide) (by decide) (Or.inl rfl) (hP1.2.1) ?_
        refine k_iconst i_108_49 ?_
        refine k_isub i_108_50 ?_
        refine k_cv2 i_108_51 c_12_123 qp_106 qo_106 (by first | rfl | assumption | (rw [hR]; rfl) | (dsimp only; rw [hR]; rfl)) (Nat.le_of_ble_eq_true rfl) (m_num hR (hC.of mf1) q_up_s k1.2 ((q_up_n (by omega)).trans hf) 0 (tH z.1 - 1) (by omega) (by omega)) (fun v S2 h => ?_)
        unfold NPo at h
        rw [nOK_skp e0.2, vP_skp e0.2, eP_skp e0.2, skp_2 e0.2, q_up_up] at h
        rcases h with ⟨n2, rfl, rfl⟩ | ⟨n2, rfl, a, rfl⟩
        · show K shM (d + 2) 108 54 _ [.int (J (vP b L (eP b L p))), .int (J (tW z.1))] _ _
          have v2 := nOK_v n2
          obtain ⟨_, k2, k3⟩ := thing_c hw v1 v2
          have hP2 : MP (q_up I 0 24 ((eP b L (eP b L p) : Nat) : Int)) z := hP.up (by omega)
          have hfa : q_up I 0 24 ((eP b L (eP b L p) : Nat) : Int) 0 25 = -9 := (q_up_n (by omega)).trans hf
          have mf2 : MFr I (q_up I 0 24 ((eP b L (eP b L p) : Nat) : Int)) := MFr.up (by omega)
          have hat2 : q_up I 0 24 ((eP b L (eP b L p) : Nat) : Int) 0 24 = ((eP b L (eP b L p) : Nat) : Int) := q_up_s
          generalize q_up I 0 24 ((eP b L (eP b L p) : Nat) : Int) = I2 at hP2 hfa mf2 hat2 ⊢
          unfold bThing
          rw [if_pos n1, if_pos n2]
          have ec : tW z.1 * vP b L (eP b L p) + vP b L p = vP b L (eP b L p) * tW z.1 + vP b L p := by rw [Int.mul_comm]
          refine k_imul i_108_54 ?_
          refine k_iload_n i_108_55 rfl ?_
          refine k_iadd i_108_56 ?_
          rw [ec]
          generalize hcc : (vP b L (eP b L p) * tW z.1 + vP b L p).toNat = c at ⊢
          rw [show vP b L (eP b L p) * tW z.1 + vP b L p = (c : Int) by omega]
          have hc20 : c < 20 := by omega
          refine k_istore i_108_57 (Nat.le_of_ble_eq_true rfl) ?_
          dsimp only [q_st1, q_st2, q_unl]
          refine k_aload_n i_108_59 rfl ?_
          refine k_gfV (a := (-9)) i_108_60 f_12_97 (by first | rfl | assumption | (rw [hR]; rfl) | (dsimp only; rw [hR]; rfl)) (by decide) (by decide) (Or.inl rfl) (hfa) ?_
          refine k_if_ge (t := 88) i_108_63 rfl (by omega) (fun g5 => ?_) (fun g5 => ?_)
          · omega
          · refine k_aload_n i_108_66 rfl ?_
            refine k_gfV (a := (tMask z.1 1 : Int)) i_108_67 f_12_129 (by first | rfl | assumption | (rw [hR]; rfl) | (dsimp only; rw [hR]; rfl)) (by decide) (by decide) (Or.inl rfl) (hP2.2.2.1) ?_
            refine k_aload_n i_108_70 rfl ?_
            refine k_gfV (a := (tMask z.1 2 : Int)) i_108_71 f_12_132 (by first | rfl | assumption | (rw [hR]; rfl) | (dsimp only; rw [hR]; rfl)) (by decide) (by decide) (Or.inl rfl) (hP2.2.2.2.1) ?_
            have m1 := tMask_lt z.1 1
            have m2 := tMask_lt z.1 2
            refine k_ior (c := ((tMask z.1 1 ||| tMask z.1 2 : Nat) : Int)) i_108_74 (J_or _ _) ?_
            refine k_iload i_108_75 rfl ?_
            refine k_sp2 i_108_77 c_12_83 (by decide) qp_109 (Nat.le_of_ble_eq_true rfl) (m_has (Nat.lt_of_lt_of_le (Nat.or_lt_two_pow (n := 20) (by omega) (by omega)) (by decide)) _ (by omega) (by omega)) ?_
            have hbit : (tMask z.1 1 ||| tMask z.1 2).testBit (c : Int).toNat = decide (¬ tG z.1 c = 0) := by
              rw [show ((c : Int)).toNat = c by omega, Nat.testBit_or]
              unfold tMask
              rw [tMk_bit, tMk_bit]
              have hg := hw.2.2.2.2.2.2.2 c
              by_cases y1 : tG z.1 c = 0
              · rw [decide_eq_false (by omega), decide_eq_false (by omega), decide_eq_false (by omega)]
                rfl
              · by_cases y2 : tG z.1 c = 1
                · rw [decide_eq_true ⟨hc20, y2⟩, decide_eq_true y1]
                  rfl
                · rw [decide_eq_false (by omega), decide_eq_true ⟨hc20, by omega⟩, decide_eq_true y1]
                  rfl
            rw [hbit]
            refine k_if_eqB (t := 88) i_108_80 rfl (fun h => ?_) (fun h => ?_)
            · have g6 : tG z.1 c = 0 := by simpa using h
              rw [if_pos g6]
              have hsl : J 1 <<< (J (c : Int) &&& 31) = J ((2 ^ c : Nat) : Int) := by
                have h := J_shl (m := 1) (c := c) (by omega) (by
                  have : ∀ w, w < 20 → 1 * 2 ^ w < 2 ^ 32 := by decide
                  exact this c hc20)
                rw [Nat.one_mul] at h
                exact h
              refine k_aload_n i_108_88 rfl ?_
              refine k_gfV (a := (-9)) i_108_89 f_12_97 (by first | rfl | assumption | (rw [hR]; rfl) | (dsimp only; rw [hR]; rfl)) (by decide) (by decide) (Or.inl rfl) (hfa) ?_
              refine k_if_ge (t := 137) i_108_92 rfl (by omega) (fun g7 => ?_) (fun g7 => ?_)
              · omega
              · refine k_aload_n i_108_95 rfl ?_
                first | refine k_dupA i_108_96 ?_ | refine k_dupI i_108_96 ?_
                refine k_gfV (a := (tMask z.1 1 : Int)) i_108_97 f_12_129 (by first | rfl | assumption | (rw [hR]; rfl) | (dsimp only; rw [hR]; rfl)) (by decide) (by decide) (Or.inl rfl) (hP2.2.2.1) ?_
                have last : ∀ u : Nat, u = (if hs = true then 2 ^ c else 0) → K shM (d + 2) 108 112 [some (.ref 0), some (.int (J (bi hs))), some (.int (J (vP b L p))), some (.int (J ((skp b L (eP b L p) : Nat) : Int))), some (.int (J (c : Int)))] [.int (J (u : Int)), .int (J ((tMask z.1 1 : Nat) : Int)), .ref 0] (I2, X) (fun r S2 => r = none ∧ ∃ I', S2 = (I', X) ∧ MFr I I' ∧ MRes I' (.inr ((tSetG z.1 c (if hs = true then 1 else 2), z.2), eP b L (eP b L p)))) := by
                  intro u hu
                  have hu1 : tMask (tSetG z.1 c (if hs = true then 1 else 2)) 1 = tMask z.1 1 ||| u := by
                    rw [tMask_put hc20 g6 (by decide), hu]
                    cases hs <;> rfl
                  refine k_ior (c := ((tMask z.1 1 ||| u : Nat) : Int)) i_108_112 (J_or _ _) ?_
                  refine k_pfI i_108_113 f_12_129 (by first | rfl | assumption | (rw [hR]; rfl) | (dsimp only; rw [hR]; rfl)) (by decide) rfl ?_
                  refine k_aload_n i_108_116 rfl ?_
                  first | refine k_dupA i_108_117 ?_ | refine k_dupI i_108_117 ?_
                  refine k_gfV (a := (tMask z.1 2 : Int)) i_108_118 f_12_132 (by first | rfl | assumption | (rw [hR]; rfl) | (dsimp only; rw [hR]; rfl)) (by decide) (by decide) (Or.inl rfl) (by dsimp only; exact (q_up_n (by omega)).trans hP2.2.2.2.1) ?_
                  have last2 : ∀ u2 : Nat, u2 = (if hs = true then 0 else 2 ^ c) → K shM (d + 2) 108 133 [some (.ref 0), some (.int (J (bi hs))), some (.int (J (vP b L p))), some (.int (J ((skp b L (eP b L p) : Nat) : Int))), some (.int (J (c : Int)))] [.int (J (u2 : Int)), .int (J ((tMask z.1 2 : Nat) : Int)), .ref 0] (q_up I2 0 19 ((tMask z.1 1 ||| u : Nat) : Int), X) (fun r S2 => r = none ∧ ∃ I', S2 = (I', X) ∧ MFr I I' ∧ MRes I' (.inr ((tSetG z.1 c (if hs = true then 1 else 2), z.2), eP b L (eP b L p)))) := by
                    intro u2 hu2
                    have hu3 : tMask (tSetG z.1 c (if hs = true then 1 else 2)) 2 = tMask z.1 2 ||| u2 := by
                      rw [tMask_put hc20 g6 (by decide), hu2]
                      cases hs <;> rfl
                    refine k_ior (c := ((tMask z.1 2 ||| u2 : Nat) : Int)) i_108_133 (J_or _ _) ?_
                    refine k_pfI i_108_134 f_12_132 (by first | rfl | assumption | (rw [hR]; rfl) | (dsimp only; rw [hR]; rfl)) (by decide) rfl ?_
                    refine k_vret i_108_137 qt_108 ?_
                    obtain ⟨p1, p2, p3, p4, p5, p6, p7, p8, p9, p10⟩ := hP2
                    refine ⟨rfl, q_up (q_up I2 0 19 ((tMask z.1 1 ||| u : Nat) : Int)) 0 20 ((tMask z.1 2 ||| u2 : Nat) : Int), rfl, (mf2.tr (MFr.up (by omega))).tr (MFr.up (by omega)), Or.inr ⟨_, _, rfl, ⟨(q_up_n (by omega)).trans ((q_up_n (by omega)).trans p1), (q_up_n (by omega)).trans ((q_up_n (by omega)).trans p2), ?_, ?_, (q_up_n (by omega)).trans ((q_up_n (by omega)).trans p5), (q_up_n (by omega)).trans ((q_up_n (by omega)).trans p6), (q_up_n (by omega)).trans ((q_up_n (by omega)).trans p7), (q_up_n (by omega)).trans ((q_up_n (by omega)).trans p8), (q_up_n (by omega)).trans ((q_up_n (by omega)).trans p9), (q_up_n (by omega)).trans ((q_up_n (by omega)).trans p10)⟩, (q_up_n (by omega)).trans ((q_up_n (by omega)).trans hat2), (q_up_n (by omega)).trans ((q_up_n (by omega)).trans hfa)⟩⟩
                    · rw [hu1]
                      exact (q_up_n (by omega)).trans q_up_s
                    · rw [hu3]
                      exact q_up_s
                  refine k_iload_n i_108_121 rfl ?_
                  refine k_if_eqB (t := 129) i_108_122 rfl (fun h => ?_) (fun h => ?_)
                  · refine k_iconst i_108_129 ?_
                    refine k_iload i_108_130 rfl ?_
                    refine k_ishl (c := ((2 ^ c : Nat) : Int)) i_108_132 hsl ?_
                    exact last2 _ (by rw [if_neg (by rw [h]; decide)])
                  · refine k_iconst i_108_125 ?_
                    refine k_goto (t := 133) i_108_126 rfl ?_
                    exact last2 0 (by rw [if_pos h])
                refine k_iload_n i_108_100 rfl ?_
                refine k_if_eqB (t := 111) i_108_101 rfl (fun h => ?_) (fun h => ?_)
                · refine k_iconst i_108_111 ?_
                  exact last 0 (by rw [if_neg (by rw [h]; decide)])
                · refine k_iconst i_108_104 ?_
                  refine k_iload i_108_105 rfl ?_
                  refine k_ishl (c := ((2 ^ c : Nat) : Int)) i_108_107 hsl ?_
                  refine k_goto (t := 112) i_108_108 rfl ?_
                  exact last _ (by rw [if_pos h])
            · have g6 : ¬ tG z.1 c = 0 := by simpa using h
              rw [if_neg g6]
              refine k_aload_n i_108_83 rfl ?_
              refine k_iload_n i_108_84 rfl ?_
              refine k_pfI i_108_85 f_12_97 (by first | rfl | assumption | (rw [hR]; rfl) | (dsimp only; rw [hR]; rfl)) (by decide) rfl ?_
              refine k_aload_n i_108_88 rfl ?_
              refine k_gfV (a := ((skp b L (eP b L p) : Nat) : Int)) i_108_89 f_12_97 (by first | rfl | assumption | (rw [hR]; rfl) | (dsimp only; rw [hR]; rfl)) (by decide) (by decide) (Or.inl rfl) (by dsimp only; exact q_up_s) ?_
              refine k_if_ge (t := 137) i_108_92 rfl (by omega) (fun g7 => ?_) (fun g7 => ?_)
              · refine k_vret i_108_137 qt_108 ?_
                exact ⟨rfl, _, rfl, mf2.tr (MFr.up (by omega)), Or.inl ⟨_, rfl, by omega, q_up_s⟩⟩
              · omega
        · rw [q_up_up]
          show K shM (d + 2) 108 54 _ [.int (J 0), .int (J (tW z.1))] _ _
          have hres : bThing b L z (if hs = true then 1 else 2) p = .inl (skp b L (eP b L p)) := by
            unfold bThing
            rw [if_pos n1, if_neg (by rw [n2]; decide)]
          have hfa : q_up (q_up I 0 24 a) 0 25 ((skp b L (eP b L p) : Nat) : Int) 0 25 = ((skp b L (eP b L p) : Nat) : Int) := q_up_s
          refine k_imul i_108_54 ?_
          refine k_iload_n i_108_55 rfl ?_
          refine k_iadd i_108_56 ?_
          refine k_istore i_108_57 (Nat.le_of_ble_eq_true rfl) ?_
          dsimp only [q_st1, q_st2, q_unl]
          refine k_aload_n i_108_59 rfl ?_
          refine k_gfV (a := ((skp b L (eP b L p) : Nat) : Int)) i_108_60 f_12_97 (by first | rfl | assumption | (rw [hR]; rfl) | (dsimp only; rw [hR]; rfl)) (by decide) (by decide) (Or.inl rfl) (hfa) ?_
          refine k_if_ge (t := 88) i_108_63 rfl (by omega) (fun g5 => ?_) (fun g5 => ?_)
          · refine k_aload_n i_108_88 rfl ?_
            refine k_gfV (a := ((skp b L (eP b L p) : Nat) : Int)) i_108_89 f_12_97 (by first | rfl | assumption | (rw [hR]; rfl) | (dsimp only; rw [hR]; rfl)) (by decide) (by decide) (Or.inl rfl) (hfa) ?_
            refine k_if_ge (t := 137) i_108_92 rfl (by omega) (fun g7 => ?_) (fun g7 => ?_)
            · refine k_vret i_108_137 qt_108 ?_
              exact ⟨rfl, _, rfl, (MFr.up (by omega)).tr (MFr.up (by omega)), Or.inl ⟨_, hres, by omega, hfa⟩⟩
            · omega
          · omega
      · have g3 : L ≤ skp b L (eP b L p) := by simpa using h
        have hres : bThing b L z (if hs = true then 1 else 2) p = .inl (skp b L (eP b L p)) := by
          unfold bThing
          rw [if_pos n1, if_neg]
          intro y
          unfold nOK at y
          rw [decide_eq_true_iff] at y
          have h1 : kP b L (eP b L p) = 1 := kQ_1.mpr g3
          omega
        refine k_aload_n i_108_26 rfl ?_
        refine k_aload_n i_108_27 rfl ?_
        refine k_gfV (a := (L : Int)) i_108_28 f_12_89 (by first | rfl | assumption | (rw [hR]; rfl) | (dsimp only; rw [hR]; rfl)) (by decide) (by decide) (Or.inl rfl) (by dsimp only; exact (q_up_n (by omega)).trans hC.1) ?_
        refine k_pfI i_108_31 f_12_97 (by first | rfl | assumption | (rw [hR]; rfl) | (dsimp only; rw [hR]; rfl)) (by decide) rfl ?_
        refine bad _ (skp b L (eP b L p)) _ _ _ ((MFr.up (by omega)).tr (MFr.up (by omega))) hres (by omega) ?_
        dsimp only
        rw [q_up_s]
        omega
  · show K shM (d + 2) 108 11 _ [.int (J 0)] _ _
    have hres : bThing b L z (if hs = true then 1 else 2) p = .inl (skp b L p) := by
      unfold bThing
      rw [if_neg (by rw [n1]; decide)]
    have hfa : q_up (q_up I 0 24 a) 0 25 ((skp b L p : Nat) : Int) 0 25 = ((skp b L p : Nat) : Int) := q_up_s
    refine k_istore_n i_108_11 (Nat.le_of_ble_eq_true rfl) ?_
    dsimp only [q_st1, q_st2, q_unl]
    refine k_aload_n i_108_12 rfl ?_
    refine k_gfV (a := ((skp b L p : Nat) : Int)) i_108_13 f_12_97 (by first | rfl | assumption | (rw [hR]; rfl) | (dsimp only; rw [hR]; rfl)) (by decide) (by decide) (Or.inl rfl) (hfa) ?_
    refine k_if_ge (t := 34) i_108_16 rfl (by omega) (fun g => ?_) (fun g => ?_)
    · exact bad _ (skp b L p) _ _ _ ((MFr.up (by omega)).tr (MFr.up (by omega))) hres (by omega) hfa
    · omega
end MS
