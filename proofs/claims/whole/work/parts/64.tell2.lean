/-! READING: the class, whole -/
section PM
variable {b : Nat → Int} {L : Nat}
theorem pBody_f {n q f : Nat} {z : Zt} (hq : q ≤ L) (h : pBody b L n z q = .inl f) : f ≤ L := by
  have he := eQ_r b hq
  have e1 := eP_r (b := b) he.2
  have e2 := eP_r (b := b) e1.2
  have k0 := skp_r b he.2
  have k1 := skp_r b e1.2
  have k2 := skp_r b e2.2
  unfold pBody bSize bThing bTax bDouble bHaste at h
  repeat' split at h
  all_goals cases h
  all_goals omega
theorem kQ_1 {q : Nat} : kQ b L q = 1 ↔ L ≤ q := by
  constructor
  · intro h
    by_cases z : L ≤ q
    · exact z
    · exfalso
      unfold kQ wkd at h
      rw [if_neg z] at h
      repeat' split at h
      all_goals omega
  · intro h
    unfold kQ
    rw [if_pos h]
theorem kP_r {p : Nat} : 0 ≤ kP b L p ∧ kP b L p ≤ 9 := by
  unfold kP kQ wkd
  repeat' split
  all_goals omega
theorem pTell_1 {m n p : Nat} {z : Zt} (h : kP b L p = 1) : pTell b L (m + 1) n z p = .inr (n, z) := by
  unfold pTell
  rw [if_pos h]
theorem pTell_f1 {m n p f : Nat} {z : Zt} (h : ¬ kP b L p = 1) (h2 : pBody b L n z (skp b L p) = .inl f) : pTell b L (m + 1) n z p = .inl f := by
  unfold pTell
  rw [if_neg h]
  unfold pItem
  rw [h2]
theorem pTell_f2 {m n p p' : Nat} {z z' : Zt} (h : ¬ kP b L p = 1) (h2 : pBody b L n z (skp b L p) = .inr (z', p')) (h3 : ¬ kP b L p' = 2) : pTell b L (m + 1) n z p = .inl (skp b L p') := by
  unfold pTell
  rw [if_neg h]
  unfold pItem
  rw [h2]
  unfold pStop
  dsimp only
  rw [if_neg h3]
theorem pTell_s {m n p p' : Nat} {z z' : Zt} (h : ¬ kP b L p = 1) (h2 : pBody b L n z (skp b L p) = .inr (z', p')) (h3 : kP b L p' = 2) : pTell b L (m + 1) n z p = pTell b L m (n + 1) z' (eP b L p') := by
  conv => lhs; unfold pTell
  rw [if_neg h]
  unfold pItem
  rw [h2]
  unfold pStop
  dsimp only
  rw [if_pos h3]
theorem eP_2 {p : Nat} (hp : p ≤ L) (h : kP b L p = 2) : p < eP b L p := by
  have h3 := skp_r b hp
  obtain ⟨h4, h5⟩ := kQ_2 h
  unfold eP eQ
  rw [if_neg (by omega), if_pos h5]
  omega
end PM
def TPo (X : XX) (s : Nat) (I : Nat → Nat → Int) (L : Nat) (res : Nat ⊕ (Nat × Zt)) : Option Value → QS → Prop := fun r S2 => ∃ I', S2 = (I', X) ∧ TF s I I' ∧ ((∃ f : Nat, res = .inl f ∧ f ≤ L ∧ r = some (.int (J (-10 - (f : Int))))) ∨ (∃ n' z', res = .inr (n', z') ∧ n' ≤ L ∧ r = some (.int (J (n' : Int))) ∧ XP I' X s z' ∧ tOK z'.1))
section TU
variable {d : Nat} {X : XX} {h0 s0 w0 s : Nat} {b : Nat → Int} {L : Nat}
-- method 9: StraightTax$Text.tell.(LStraightTax$Town;)I
theorem l_tell (hR : X.2 = rX h0 s0 w0) (hs : 2 < s) : ∀ (m n p : Nat) (z : Zt) (I : Nat → Nat → Int) (v3 : Option Value), TC I b L → XP I X s z → ZOK n z → n ≤ p → p ≤ L → L < p + m → I 1 2 = ((eP b L p : Nat) : Int) → I 1 3 = ((skp b L p : Nat) : Int) → I 1 4 = kP b L p → K shX (d + 9) 9 30 [some (.ref 1), some (.ref s), some (.int (J (n : Int))), v3] [] (I, X) (TPo X s I L (pTell b L m n z p)) := by
  intro m
  induction m with
  | zero => intro n p z I v3 hC hP hz hn hpL hm; omega
  | succ m ih =>
    intro n p z I v3 hC hP hz hn hpL hm t1 t2 t3
    have hkr := kP_r (b := b) (L := L) (p := p)
    have hsk := skp_r b hpL
    have hL := hC.2.1
    have heq := eQ_r b hsk.2
    have t1' : I 1 2 = ((eQ b L (skp b L p) : Nat) : Int) := t1
    refine k_aload_n i_9_30 rfl ?_
    refine k_gfV (a := (kP b L p)) i_9_31 f_6_40 (by first | rfl | assumption | (rw [hR]; rfl) | (dsimp only; rw [hR]; rfl)) (by decide) (by decide) (Or.inl rfl) (t3) ?_
    refine k_iconst i_9_34 ?_
    refine k_ic_eq (t := 185) i_9_35 rfl (by omega) (by omega) (fun g0 => ?_) (fun g0 => ?_)
    · refine k_iload_n i_9_185 rfl ?_
      refine k_iret i_9_186 qt_9 ?_
      rw [pTell_1 g0]
      exact ⟨I, rfl, TF.rf, Or.inr ⟨n, z, rfl, by omega, rfl, hP, hz.1⟩⟩
    · have hlt : skp b L p < L := by
        by_cases y : L ≤ skp b L p
        · exact absurd (kQ_1.mpr y) g0
        · omega
      have fin : ∀ (I1 : Nat → Nat → Int) (g : Bool), TF s I I1 → ((∃ f : Nat, pBody b L n z (skp b L p) = .inl f ∧ g = false ∧ I1 1 3 = (f : Int)) ∨ (∃ z' p', pBody b L n z (skp b L p) = .inr (z', p') ∧ g = true ∧ XP I1 X s z' ∧ I1 1 2 = ((p' : Nat) : Int))) → K shX (d + 9) 9 156 [some (.ref 1), some (.ref s), some (.int (J (n : Int))), some (.int (J (bi g)))] [] (I1, X) (TPo X s I L (pTell b L (m + 1) n z p)) := by
        intro I1 g tf hh
        have hC1 := hC.ofF tf hs
        rcases hh with ⟨f, h1, rfl, h2⟩ | ⟨z', p', h1, rfl, h2, h3⟩
        · have hf := pBody_f hsk.2 h1
          rw [pTell_f1 g0 h1]
          refine k_iload_n i_9_156 rfl ?_
          refine k_if_eqB (t := 167) i_9_157 rfl (fun h => ?_) (fun h => ?_)
          · refine k_bipush i_9_167 (by decide) ?_
            refine k_aload_n i_9_169 rfl ?_
            refine k_gfV (a := (f : Int)) i_9_170 f_6_64 (by first | rfl | assumption | (rw [hR]; rfl) | (dsimp only; rw [hR]; rfl)) (by decide) (by decide) (Or.inl rfl) (h2) ?_
            refine k_isub i_9_173 ?_
            refine k_iret i_9_174 qt_9 ?_
            exact ⟨I1, rfl, tf, Or.inl ⟨f, rfl, hf, rfl⟩⟩
          · cases h
        · obtain ⟨o1, o2, o3⟩ := pBody_ok hz hsk.2 h1
          dsimp only at o1 o2 o3
          have hsk' := skp_r b o3
          have hep := eP_r (b := b) o3
          refine k_iload_n i_9_156 rfl ?_
          refine k_if_eqB (t := 167) i_9_157 rfl (fun h => ?_) (fun h => ?_)
          · cases h
          · refine k_aload_n i_9_160 rfl ?_
            refine k_cv0 i_9_161 c_6_60 qp_22 qo_22 (by first | rfl | assumption | (rw [hR]; rfl) | (dsimp only; rw [hR]; rfl)) (Nat.le_of_ble_eq_true rfl) (e_isStop hR hC1 h3 o3) (fun v S2 h => ?_)
            obtain ⟨rfl, I2, rfl, te, e1, e2⟩ := h
            show K shX (d + 9) 9 164 _ [.int (J (bi (decide (kP b L p' = 2))))] _ _
            refine k_if_neB (t := 175) i_9_164 rfl (fun h => ?_) (fun h => ?_)
            · have g2 : kP b L p' = 2 := by simpa using h
              have g3 := eP_2 o3 g2
              rw [pTell_s g0 h1 g2]
              refine k_iinc i_9_175 rfl (Nat.le_of_ble_eq_true rfl) ?_
              dsimp only [q_st1, q_st2, q_unl]
              refine k_aload_n i_9_178 rfl ?_
              refine k_cv0 i_9_179 c_6_37 qp_10 qo_10 (by first | rfl | assumption | (rw [hR]; rfl) | (dsimp only; rw [hR]; rfl)) (Nat.le_of_ble_eq_true rfl) (e_advance hR (hC1.of te) e1 hep.2) (fun v S2 h => ?_)
              obtain ⟨rfl, I3, rfl, te2, f1, f2, f3, f4⟩ := h
              show K shX (d + 9) 9 182 _ [] _ _
              refine k_goto (t := 30) i_9_182 rfl ?_
              have h4 := ih (n + 1) (eP b L p') z' I3 (some (.int (J (bi true)))) ((hC1.of te).of te2) ((h2.te te hs).te te2 hs) ⟨o1, fun y => by omega⟩ (by omega) hep.2 (by omega) f1 f2 f3
              refine K.mono h4 (fun r S2 hh => ?_)
              obtain ⟨I', q1, q2, q3⟩ := hh
              exact ⟨I', q1, ((tf.tr (TE.tf te)).tr (TE.tf te2)).tr q2, q3⟩
            · have g2 : ¬ kP b L p' = 2 := by simpa using h
              rw [pTell_f2 g0 h1 g2]
              refine k_bipush i_9_167 (by decide) ?_
              refine k_aload_n i_9_169 rfl ?_
              refine k_gfV (a := ((skp b L p' : Nat) : Int)) i_9_170 f_6_64 (by first | rfl | assumption | (rw [hR]; rfl) | (dsimp only; rw [hR]; rfl)) (by decide) (by decide) (Or.inl rfl) (e2) ?_
              refine k_isub i_9_173 ?_
              refine k_iret i_9_174 qt_9 ?_
              exact ⟨I2, rfl, tf.tr (TE.tf te), Or.inl ⟨_, rfl, hsk'.2, rfl⟩⟩
      have fin2 : ∀ (S1 : QS) (v : Option Value), BPo X s I (pBody b L n z (skp b L p)) v S1 → ∃ (I1 : Nat → Nat → Int) (g : Bool), S1 = (I1, X) ∧ v = some (.int (J (bi g))) ∧ K shX (d + 9) 9 156 [some (.ref 1), some (.ref s), some (.int (J (n : Int))), some (.int (J (bi g)))] [] (I1, X) (TPo X s I L (pTell b L (m + 1) n z p)) := by
        intro S1 v hh
        obtain ⟨I1, rfl, tf, hh⟩ := hh
        rcases hh with ⟨f, h1, rfl, h2⟩ | ⟨z', p', h1, rfl, h2, h3⟩
        · exact ⟨I1, false, rfl, rfl, fin I1 false tf (Or.inl ⟨f, h1, rfl, h2⟩)⟩
        · exact ⟨I1, true, rfl, rfl, fin I1 true tf (Or.inr ⟨z', p', h1, rfl, h2, h3⟩)⟩
      have bad : pBody b L n z (skp b L p) = .inl (skp b L p) → K shX (d + 9) 9 156 [some (.ref 1), some (.ref s), some (.int (J (n : Int))), some (.int (J (bi false)))] [] (I, X) (TPo X s I L (pTell b L (m + 1) n z p)) := fun h1 => fin I false TF.rf (Or.inl ⟨_, h1, rfl, t2⟩)
      refine k_iload_n i_9_38 rfl ?_
      refine k_sipush i_9_39 (by decide) ?_
      refine k_ic_ge (t := 185) i_9_42 rfl (by omega) (by omega) (fun g1 => ?_) (fun g1 => ?_)
      · omega
      · refine k_iconst i_9_45 ?_
        refine k_istore_n i_9_46 (Nat.le_of_ble_eq_true rfl) ?_
        dsimp only [q_st1, q_st2, q_unl]
        refine k_aload_n i_9_47 rfl ?_
        refine k_gfV (a := (kP b L p)) i_9_48 f_6_40 (by first | rfl | assumption | (rw [hR]; rfl) | (dsimp only; rw [hR]; rfl)) (by decide) (by decide) (Or.inl rfl) (t3) ?_
        have hk : kP b L p = 4 ∨ kP b L p = 5 ∨ kP b L p = 6 ∨ kP b L p = 7 ∨ kP b L p = 8 ∨ kP b L p = 9 ∨ (kP b L p < 4 ∨ 9 < kP b L p) := by omega
        have hkq : kQ b L (skp b L p) = kP b L p := rfl
        rcases hk with hk | hk | hk | hk | hk | hk | hk
        · rw [hk]
          rw [hk] at hkq
          refine k_tsI (off := 37) (t := 88) i_9_51 (by omega) (by omega) rfl rfl ?_
          refine k_iload_n i_9_88 rfl ?_
          refine k_if_ne (t := 104) i_9_89 rfl (by omega) (fun g2 => ?_) (fun g2 => ?_)
          · refine k_iconst i_9_104 ?_
            refine k_istore_n i_9_105 (Nat.le_of_ble_eq_true rfl) ?_
            dsimp only [q_st1, q_st2, q_unl]
            refine k_goto (t := 156) i_9_106 rfl ?_
            refine bad ?_
            unfold pBody
            rw [if_pos hkq, if_neg (by omega)]
          · have hn0 : n = 0 := by omega
            have hb : pBody b L n z (skp b L p) = bSize b L z (eQ b L (skp b L p)) := by
              unfold pBody
              rw [if_pos hkq, if_pos hn0]
            rw [hb] at fin2
            refine k_aload_n i_9_92 rfl ?_
            refine k_aload_n i_9_93 rfl ?_
            refine k_cv1 i_9_94 c_6_43 qp_16 qo_16 (by first | rfl | assumption | (rw [hR]; rfl) | (dsimp only; rw [hR]; rfl)) (Nat.le_of_ble_eq_true rfl) (e_isSize hR hC hs hP t1' heq.2) (fun v S2 h => ?_)
            obtain ⟨I1, g, rfl, rfl, kk⟩ := fin2 _ _ h
            show K shX (d + 9) 9 97 _ [.int (J (bi g))] _ _
            refine k_if_eqB (t := 104) i_9_97 rfl (fun h => ?_) (fun h => ?_)
            · subst h
              refine k_iconst i_9_104 ?_
              refine k_istore_n i_9_105 (Nat.le_of_ble_eq_true rfl) ?_
              dsimp only [q_st1, q_st2, q_unl]
              refine k_goto (t := 156) i_9_106 rfl ?_
              exact kk
            · subst h
              refine k_iconst i_9_100 ?_
              refine k_goto (t := 105) i_9_101 rfl ?_
              refine k_istore_n i_9_105 (Nat.le_of_ble_eq_true rfl) ?_
              dsimp only [q_st1, q_st2, q_unl]
              refine k_goto (t := 156) i_9_106 rfl ?_
              exact kk
        · rw [hk]
          rw [hk] at hkq
          have hb : pBody b L n z (skp b L p) = bThing b L z 1 (eQ b L (skp b L p)) := by
            unfold pBody
            rw [if_neg (by omega), if_pos hkq]
          rw [hb] at fin2
          refine k_tsI (off := 58) (t := 109) i_9_51 (by omega) (by omega) rfl rfl ?_
          refine k_aload_n i_9_109 rfl ?_
          refine k_aload_n i_9_110 rfl ?_
          refine k_iconst i_9_111 ?_
          refine k_cv2 i_9_112 c_6_47 qp_18 qo_18 (by first | rfl | assumption | (rw [hR]; rfl) | (dsimp only; rw [hR]; rfl)) (Nat.le_of_ble_eq_true rfl) (e_isThing hR hC hs hP hz.1 t1' heq.2 1) (fun v S2 h => ?_)
          obtain ⟨I1, g, rfl, rfl, kk⟩ := fin2 _ _ h
          show K shX (d + 9) 9 115 _ [.int (J (bi g))] _ _
          refine k_istore_n i_9_115 (Nat.le_of_ble_eq_true rfl) ?_
          dsimp only [q_st1, q_st2, q_unl]
          refine k_goto (t := 156) i_9_116 rfl ?_
          exact kk
        · rw [hk]
          rw [hk] at hkq
          have hb : pBody b L n z (skp b L p) = bThing b L z 2 (eQ b L (skp b L p)) := by
            unfold pBody
            rw [if_neg (by omega), if_neg (by omega), if_pos hkq]
          rw [hb] at fin2
          refine k_tsI (off := 68) (t := 119) i_9_51 (by omega) (by omega) rfl rfl ?_
          refine k_aload_n i_9_119 rfl ?_
          refine k_aload_n i_9_120 rfl ?_
          refine k_iconst i_9_121 ?_
          refine k_cv2 i_9_122 c_6_47 qp_18 qo_18 (by first | rfl | assumption | (rw [hR]; rfl) | (dsimp only; rw [hR]; rfl)) (Nat.le_of_ble_eq_true rfl) (e_isThing hR hC hs hP hz.1 t1' heq.2 2) (fun v S2 h => ?_)
          obtain ⟨I1, g, rfl, rfl, kk⟩ := fin2 _ _ h
          show K shX (d + 9) 9 125 _ [.int (J (bi g))] _ _
          refine k_istore_n i_9_125 (Nat.le_of_ble_eq_true rfl) ?_
          dsimp only [q_st1, q_st2, q_unl]
          refine k_goto (t := 156) i_9_126 rfl ?_
          exact kk
        · rw [hk]
          rw [hk] at hkq
          have hb : pBody b L n z (skp b L p) = bTax b L z (skp b L p) (eQ b L (skp b L p)) := by
            unfold pBody
            rw [if_neg (by omega), if_neg (by omega), if_neg (by omega), if_pos hkq]
          rw [hb] at fin2
          refine k_tsI (off := 78) (t := 129) i_9_51 (by omega) (by omega) rfl rfl ?_
          refine k_aload_n i_9_129 rfl ?_
          refine k_aload_n i_9_130 rfl ?_
          refine k_cv1 i_9_131 c_6_51 qp_19 qo_19 (by first | rfl | assumption | (rw [hR]; rfl) | (dsimp only; rw [hR]; rfl)) (Nat.le_of_ble_eq_true rfl) (e_isTax hR hC hs hP t1' t2 heq.2) (fun v S2 h => ?_)
          obtain ⟨I1, g, rfl, rfl, kk⟩ := fin2 _ _ h
          show K shX (d + 9) 9 134 _ [.int (J (bi g))] _ _
          refine k_istore_n i_9_134 (Nat.le_of_ble_eq_true rfl) ?_
          dsimp only [q_st1, q_st2, q_unl]
          refine k_goto (t := 156) i_9_135 rfl ?_
          exact kk
        · rw [hk]
          rw [hk] at hkq
          have hb : pBody b L n z (skp b L p) = bDouble z (skp b L p) (eQ b L (skp b L p)) := by
            unfold pBody
            rw [if_neg (by omega), if_neg (by omega), if_neg (by omega), if_neg (by omega), if_pos hkq]
          rw [hb] at fin2
          refine k_tsI (off := 87) (t := 138) i_9_51 (by omega) (by omega) rfl rfl ?_
          refine k_aload_n i_9_138 rfl ?_
          refine k_aload_n i_9_139 rfl ?_
          refine k_cv1 i_9_140 c_6_54 qp_20 qo_20 (by first | rfl | assumption | (rw [hR]; rfl) | (dsimp only; rw [hR]; rfl)) (Nat.le_of_ble_eq_true rfl) (e_isDouble hs hP t1' t2) (fun v S2 h => ?_)
          obtain ⟨I1, g, rfl, rfl, kk⟩ := fin2 _ _ h
          show K shX (d + 9) 9 143 _ [.int (J (bi g))] _ _
          refine k_istore_n i_9_143 (Nat.le_of_ble_eq_true rfl) ?_
          dsimp only [q_st1, q_st2, q_unl]
          refine k_goto (t := 156) i_9_144 rfl ?_
          exact kk
        · rw [hk]
          rw [hk] at hkq
          have hb : pBody b L n z (skp b L p) = bHaste b L z (skp b L p) (eQ b L (skp b L p)) := by
            unfold pBody
            rw [if_neg (by omega), if_neg (by omega), if_neg (by omega), if_neg (by omega), if_neg (by omega), if_pos hkq]
          rw [hb] at fin2
          refine k_tsI (off := 96) (t := 147) i_9_51 (by omega) (by omega) rfl rfl ?_
          refine k_aload_n i_9_147 rfl ?_
          refine k_aload_n i_9_148 rfl ?_
          refine k_cv1 i_9_149 c_6_57 qp_21 qo_21 (by first | rfl | assumption | (rw [hR]; rfl) | (dsimp only; rw [hR]; rfl)) (Nat.le_of_ble_eq_true rfl) (e_isHaste hR hC hs hP t1' t2 heq.2) (fun v S2 h => ?_)
          obtain ⟨I1, g, rfl, rfl, kk⟩ := fin2 _ _ h
          show K shX (d + 9) 9 152 _ [.int (J (bi g))] _ _
          refine k_istore_n i_9_152 (Nat.le_of_ble_eq_true rfl) ?_
          dsimp only [q_st1, q_st2, q_unl]
          refine k_goto (t := 156) i_9_153 rfl ?_
          exact kk
        · refine k_tsO (t := 156) i_9_51 (by omega) (by omega) rfl ?_
          refine bad ?_
          unfold pBody
          rw [if_neg (by omega), if_neg (by omega), if_neg (by omega), if_neg (by omega), if_neg (by omega), if_neg (by omega)]
def z00 : Zt := (T00, false, false, false)
theorem e_tell {I : Nat → Nat → Int} (hR : X.2 = rX h0 s0 w0) (hs : 2 < s) (hC : TC I b L) (s1 : shX[s]? = some (7, 9)) (s2 : shX[s + 1]? = some (100, 20)) (s3 : shX[s + 2]? = some (100, 80)) (r1 : X.2 s 7 = some (s + 1)) (r2 : X.2 s 8 = some (s + 2)) : KC shX (d + 9) 9 [.ref 1, .ref s] (I, X) (TPo X s I L (pTell b L (L + 1) 0 z00 0)) := by
  refine k_start ql_9 (Nat.le_of_ble_eq_true rfl) ?_
  simp only [q_en, List.replicate]
  refine k_aload_n i_9_0 rfl ?_
  refine k_cv0 i_9_1 c_6_19 qp_23 qo_23 (by first | rfl | assumption | (rw [hR]; rfl) | (dsimp only; rw [hR]; rfl)) (Nat.le_of_ble_eq_true rfl) (e_begin s1 s2 r1) (fun v S2 h => ?_)
  obtain ⟨rfl, rfl⟩ := h
  show K shX (d + 9) 9 4 _ [] _ _
  refine k_aload_n i_9_4 rfl ?_
  refine k_iconst i_9_5 ?_
  refine k_pfI i_9_6 f_6_24 (by first | rfl | assumption | (rw [hR]; rfl) | (dsimp only; rw [hR]; rfl)) (by decide) rfl ?_
  refine k_aload_n i_9_9 rfl ?_
  refine k_iconst i_9_10 ?_
  refine k_pfZ i_9_11 f_6_27 (by first | rfl | assumption | (rw [hR]; rfl) | (dsimp only; rw [hR]; rfl)) (by decide) rfl (by first | exact bi_01 _ | omega) ?_
  refine k_aload_n i_9_14 rfl ?_
  refine k_iconst i_9_15 ?_
  refine k_pfZ i_9_16 f_6_31 (by first | rfl | assumption | (rw [hR]; rfl) | (dsimp only; rw [hR]; rfl)) (by decide) rfl (by first | exact bi_01 _ | omega) ?_
  refine k_aload_n i_9_19 rfl ?_
  refine k_iconst i_9_20 ?_
  refine k_pfZ i_9_21 f_6_34 (by first | rfl | assumption | (rw [hR]; rfl) | (dsimp only; rw [hR]; rfl)) (by decide) rfl (by first | exact bi_01 _ | omega) ?_
  refine k_aload_n i_9_24 rfl ?_
  dsimp only
  have tf0 : TF s I (bgn I s) := ⟨fun c h1 h2 h3 => bgn_o h2 h3, by rw [bgn_o (by omega) (by omega)]⟩
  have tf : TF s I (q_up (q_up (q_up (q_up (bgn I s) 1 2 0) 1 6 0) 1 7 0) 1 8 0) := (((tf0.tr (TF.up1 (by omega))).tr (TF.up1 (by omega))).tr (TF.up1 (by omega))).tr (TF.up1 (by omega))
  have hP : XP (q_up (q_up (q_up (q_up (bgn I s) 1 2 0) 1 6 0) 1 7 0) 1 8 0) X s z00 := by
    refine ⟨(bgn_at (I := I) s1 s2 s3 r1 r2).same ?_ ?_ rfl, ?_, ?_, ?_⟩
    · rw [q_up_o (by omega), q_up_o (by omega), q_up_o (by omega), q_up_o (by omega)]
    · rw [q_up_o (by omega), q_up_o (by omega), q_up_o (by omega), q_up_o (by omega)]
    · rw [q_up_n (by omega), q_up_n (by omega)]
      exact q_up_s
    · rw [q_up_n (by omega)]
      exact q_up_s
    · exact q_up_s
  have hat : q_up (q_up (q_up (q_up (bgn I s) 1 2 0) 1 6 0) 1 7 0) 1 8 0 1 2 = ((0 : Nat) : Int) := by
    rw [q_up_n (by omega), q_up_n (by omega), q_up_n (by omega)]
    exact q_up_s
  have hC2 := hC.ofF tf hs
  generalize q_up (q_up (q_up (q_up (bgn I s) 1 2 0) 1 6 0) 1 7 0) 1 8 0 = I1 at tf hP hat hC2 ⊢
  refine k_cv0 i_9_25 c_6_37 qp_10 qo_10 (by first | rfl | assumption | (rw [hR]; rfl) | (dsimp only; rw [hR]; rfl)) (Nat.le_of_ble_eq_true rfl) (e_advance (p := 0) hR hC2 hat (Nat.zero_le _)) (fun v S2 h => ?_)
  obtain ⟨rfl, I2, rfl, te, e1, e2, e3, e4⟩ := h
  show K shX (d + 9) 9 28 _ [] _ _
  refine k_iconst i_9_28 ?_
  refine k_istore_n i_9_29 (Nat.le_of_ble_eq_true rfl) ?_
  dsimp only [q_st1, q_st2, q_unl]
  have h4 := l_tell (d := d) (X := X) hR hs (L + 1) 0 0 z00 I2 none (hC2.of te) (hP.te te hs) ⟨T00_ok, fun _ _ => rfl⟩ (Nat.le_refl _) (Nat.zero_le _) (by omega) e1 e2 e3
  refine K.mono h4 (fun r S2 hh => ?_)
  obtain ⟨I', q1, q2, q3⟩ := hh
  exact ⟨I', q1, (tf.tr (TE.tf te)).tr q2, q3⟩
end TU
