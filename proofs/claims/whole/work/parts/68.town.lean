/-! CALLS: town -/
section PN
variable {b : Nat → Int} {L : Nat}
theorem pItem_ok {n q : Nat} {z : Zt} {w : Zt × Nat} (hz : ZOK n z) (hq : q ≤ L) (h : pItem b L n z q = .inr w) : tOK w.1.1 ∧ q < w.2 ∧ w.2 ≤ L := by
  unfold pItem at h
  split at h
  · cases h
  · rename_i w1 h1
    obtain ⟨o1, o2, o3⟩ := pBody_ok hz hq h1
    obtain ⟨r1, r2, r3⟩ := pStop_pos o3 h
    rw [r1]
    exact ⟨o1, by omega, r3⟩
theorem pTell_i1 {m n p f : Nat} {z : Zt} (h : ¬ kP b L p = 1) (h2 : pItem b L n z (skp b L p) = .inl f) : pTell b L (m + 1) n z p = .inl f := by
  unfold pTell
  rw [if_neg h, h2]
theorem pTell_i2 {m n p : Nat} {z : Zt} {w : Zt × Nat} (h : ¬ kP b L p = 1) (h2 : pItem b L n z (skp b L p) = .inr w) : pTell b L (m + 1) n z p = pTell b L m (n + 1) w.1 w.2 := by
  conv => lhs; unfold pTell
  rw [if_neg h, h2]
end PN
def wk0 : Wk := (-1, 0, 0, 0, fun _ => -1, fun _ => 0, fun _ => 0, fun _ => 0)
abbrev Sg.anew (s : Sg) (T : Tn) : Sg := (T, 0, fun _ => 0, wk0, fun _ => false, s.im, 0, fun _ => 0, fun _ => 0, s.mk)
theorem SOK.anew {σ : Sg} {T : Tn} (h : tOK T) : SOK (σ.anew T) := ⟨h, Nat.zero_le _, fun i hi => absurd hi (Nat.not_lt_zero i), ⟨Nat.zero_le _, Or.inl rfl, Or.inl ⟨rfl, rfl⟩, rfl, fun i hi => absurd hi (Nat.not_lt_zero i)⟩, (fun i _ h => by cases h), Nat.zero_le _, fun e he => absurd he (Nat.not_lt_zero e)⟩
section MV
variable {d : Nat} {X : XX} {b : Nat → Int} {L : Nat} {Q : Option Value → QS → Prop} {I0 : Nat → Nat → Int}
-- method 102: StraightTaxModel.town.()I
theorem l_mtown (hR : X.2 = rM) : ∀ (m n p : Nat) (z : Zt) (I : Nat → Nat → Int), MG I0 I → MC I b L → MP I z → ZOK n z → I 0 23 = (n : Int) → n ≤ p → p ≤ L → L < p + m → I 0 24 = (p : Int) → I 0 25 = -9 → (∀ I', MG I0 I' → ((∃ f : Nat, pTell b L m n z p = .inl f ∧ f ≤ 200 ∧ I' 0 25 = (f : Int)) ∨ (∃ n' z', pTell b L m n z p = .inr (n', z') ∧ n' ≤ 200 ∧ MP I' z' ∧ tOK z'.1 ∧ I' 0 23 = ((n' : Nat) : Int) ∧ I' 0 25 = -9)) → K shM (d + 4) 102 97 [some (.ref 0)] [] (I', X) Q) → K shM (d + 4) 102 76 [some (.ref 0)] [] (I, X) Q := by
  intro m
  induction m with
  | zero => intro n p z I mg hC hP hz hn hnp hpL hm; omega
  | succ m ih =>
    intro n p z I mg hC hP hz hn hnp hpL hm hp hf hk
    have hL := hC.2.1
    have hsk := skp_r b hpL
    refine k_aload_n i_102_76 rfl ?_
    refine k_gfV (a := (-9)) i_102_77 f_12_97 (by first | rfl | assumption | (rw [hR]; rfl) | (dsimp only; rw [hR]; rfl)) (by decide) (by decide) (Or.inl rfl) (hf) ?_
    refine k_if_ge (t := 97) i_102_80 rfl (by omega) (fun g => ?_) (fun g => ?_)
    · omega
    · refine k_aload_n i_102_83 rfl ?_
      refine k_cv0 i_102_84 c_12_100 qp_103 qo_103 (by first | rfl | assumption | (rw [hR]; rfl) | (dsimp only; rw [hR]; rfl)) (Nat.le_of_ble_eq_true rfl) (m_isEnd hR hC hp hpL) (fun v S2 h => ?_)
      obtain ⟨rfl, rfl⟩ := h
      show K shM (d + 4) 102 87 _ [.int (J (bi (decide (L ≤ skp b L p))))] _ _
      have mg1 : MG I (q_up I 0 24 ((skp b L p : Nat) : Int)) := MG.up (by omega)
      have hP1 : MP (q_up I 0 24 ((skp b L p : Nat) : Int)) z := hP.up (by omega)
      have hn1 : q_up I 0 24 ((skp b L p : Nat) : Int) 0 23 = (n : Int) := (q_up_n (by omega)).trans hn
      have hf1 : q_up I 0 24 ((skp b L p : Nat) : Int) 0 25 = -9 := (q_up_n (by omega)).trans hf
      have ha1 : q_up I 0 24 ((skp b L p : Nat) : Int) 0 24 = ((skp b L p : Nat) : Int) := q_up_s
      have hC1 := hC.ofG mg1
      have mg2 := mg.tr mg1
      generalize q_up I 0 24 ((skp b L p : Nat) : Int) = I1 at mg2 hP1 hn1 hf1 ha1 hC1 ⊢
      refine k_if_neB (t := 97) i_102_87 rfl (fun h => ?_) (fun h => ?_)
      · have g2 : L ≤ skp b L p := by simpa using h
        refine hk I1 mg2 (Or.inr ⟨n, z, ?_, by omega, hP1, hz.1, hn1, hf1⟩)
        exact pTell_1 (kQ_1.mpr g2)
      · have g2 : skp b L p < L := by simpa using h
        have g3 : ¬ kP b L p = 1 := fun y => by have := kQ_1.mp y; omega
        refine k_aload_n i_102_90 rfl ?_
        refine k_cv0 i_102_91 c_12_164 qp_104 qo_104 (by first | rfl | assumption | (rw [hR]; rfl) | (dsimp only; rw [hR]; rfl)) (Nat.le_of_ble_eq_true rfl) (m_item hR hC1 hP1 hz hn1 (by omega) ha1 g2 hf1) (fun v S2 h => ?_)
        obtain ⟨rfl, I2, rfl, mg3, hn2, hres⟩ := h
        show K shM (d + 4) 102 94 _ [] _ _
        rcases hres with ⟨f, h1, h2, h3⟩ | ⟨z', p', h1, h2, h3, h4⟩
        · refine k_goto (t := 76) i_102_94 rfl ?_
          refine k_aload_n i_102_76 rfl ?_
          refine k_gfV (a := (f : Int)) i_102_77 f_12_97 (by first | rfl | assumption | (rw [hR]; rfl) | (dsimp only; rw [hR]; rfl)) (by decide) (by decide) (Or.inl rfl) (h3) ?_
          refine k_if_ge (t := 97) i_102_80 rfl (by omega) (fun g5 => ?_) (fun g5 => ?_)
          · exact hk I2 (mg2.tr mg3) (Or.inl ⟨f, pTell_i1 g3 h1, h2, h3⟩)
          · omega
        · obtain ⟨o1, o2, o3⟩ := pItem_ok hz hsk.2 h1
          dsimp only at o1 o2 o3
          refine k_goto (t := 76) i_102_94 rfl ?_
          refine ih (n + 1) p' z' I2 (mg2.tr mg3) (hC1.ofG mg3) h2 ⟨o1, fun y => by omega⟩ hn2 (by omega) o3 (by omega) h3 h4 (fun I' m9 hh => hk I' m9 ?_)
          rw [pTell_i2 g3 h1]
          exact hh
end MV
section TV
variable {σ : Sg} {h0 s0 w0 : Nat} {I : Nat → Nat → Int} {X : XX} {I2 : Nat → Nat → Int} {X2 : XX}
theorem MI.mg {I2' : Nat → Nat → Int} (hM : MI σ I2 X2) (h : MG I2 I2') : MI σ I2' X2 := by
  refine hM.upd (L := X2.1) rfl (fun k hk => h.2 k (by omega)) ((h.2 10 (by omega)).trans hM.tl) (by rw [h.1 1 (by omega) (by omega)]; exact hM.tb) (hM.wk.same (h.1 2 (by omega) (by omega))) (fun i hi => ⟨by rw [h.1 3 (by omega) (by omega)]; exact (hM.kp i hi).1, fun hk => ((hM.kp i hi).2 hk).same (h.1 2 (by omega) (by omega))⟩) ?_ hM.mk
  have h1 := hM.er
  unfold MEr at h1 ⊢
  rw [h.2 13 (by omega), h.1 4 (by omega) (by omega), h.1 5 (by omega) (by omega)]
  exact h1
theorem XI.tf {I' : Nat → Nat → Int} (hX : XI σ h0 s0 w0 I X) (h : TF s0 I I') : XI σ h0 s0 w0 I' X := by
  have hh := hX.hs
  have e : ∀ c, c ≠ 1 → c ≠ s0 → c ≠ s0 + 1 → I' c = I c := h.1
  exact ⟨hX.rf, hX.hs, hX.ta.same (e _ (by omega) (by omega) (by omega)) (e _ (by omega) (by omega) (by omega)) rfl, hX.tn.same (e _ (by omega) (by omega) (by omega)), by rw [e 33 (by omega) (by omega) (by omega)]; exact hX.z3, by rw [e 34 (by omega) (by omega) (by omega)]; exact hX.z4, h.2.trans hX.tl, by rw [e 2 (by omega) (by omega) (by omega)]; exact hX.tb, hX.wk.same (fun k hk => e _ (by omega) (by omega) (by omega)), fun i hi => ⟨by rw [e 19 (by omega) (by omega) (by omega)]; exact (hX.kp i hi).1, fun hk => ((hX.kp i hi).2 hk).same (fun k hk => e _ (by omega) (by omega) (by omega))⟩, hX.er.sc (fun c hc => e c (by omega) (by omega) (by omega)), hX.mk⟩
theorem XI.tc (hX : XI σ h0 s0 w0 I X) (hS : SOK σ) : TC I σ.tb σ.tl := ⟨hX.tl, hS.tl, hS.tb, hX.tb⟩
theorem MI.mc (hM : MI σ I2 X2) (hS : SOK σ) : MC I2 σ.tb σ.tl := ⟨hM.tl, hS.tl, hS.tb, hM.tb⟩
theorem rX_sw {h s w : Nat} : q_up (q_up (rX h s w) 0 7 (some s)) 0 8 (some h) = rX s h w := by
  funext c k
  unfold q_up
  by_cases y : c = 0 ∧ k = 8
  · rw [if_pos y, y.1, y.2]; rfl
  · rw [if_neg y]
    by_cases x : c = 0 ∧ k = 7
    · rw [if_pos x, x.1, x.2]; rfl
    · rw [if_neg x]
      match c with
      | 0 =>
        match k with
        | 0 => rfl
        | 1 => rfl
        | 2 => rfl
        | 3 => rfl
        | 4 => rfl
        | 5 => rfl
        | 6 => rfl
        | 7 => exact absurd ⟨rfl, rfl⟩ x
        | 8 => exact absurd ⟨rfl, rfl⟩ y
        | k + 9 => rfl
      | 1 => rfl
      | 2 => rfl
      | 3 => rfl
      | 4 => rfl
      | 5 => rfl
      | 6 => rfl
      | 7 => rfl
      | 8 => rfl
      | 9 => rfl
      | 10 => rfl
      | 11 => rfl
      | 12 => rfl
      | 13 => rfl
      | 14 => rfl
      | 15 => rfl
      | 16 => rfl
      | 17 => rfl
      | 18 => rfl
      | 19 => rfl
      | 20 => rfl
      | 21 => rfl
      | 22 => rfl
      | 23 => rfl
      | 24 => rfl
      | 25 => rfl
      | 26 => rfl
      | 27 => rfl
      | 28 => rfl
      | 29 => rfl
      | 30 => rfl
      | 31 => rfl
      | 32 => rfl
      | 33 => rfl
      | 34 => rfl
      | 35 => rfl
      | 36 => rfl
      | 37 => rfl
      | 38 => rfl
      | 39 => rfl
      | 40 => rfl
      | 41 => rfl
      | 42 => rfl
      | 43 => rfl
      | 44 => rfl
      | 45 => rfl
      | 46 => rfl
      | 47 => rfl
      | c + 48 => rfl
-- method 102: StraightTaxModel.town.()I
theorem m_town (hM : MI σ I2 X2) (hS : SOK σ) : (∀ f : Nat, pTell σ.tb σ.tl (σ.tl + 1) 0 z00 0 = .inl f → OM 102 21 I2 X2 [] (.int (J (-10 - (f : Int)))) σ) ∧ (∀ (n' : Nat) (z' : Zt), pTell σ.tb σ.tl (σ.tl + 1) 0 z00 0 = .inr (n', z') → OM 102 21 I2 X2 [] (.int (J (n' : Int))) (σ.anew z'.1) ∧ tOK z'.1) := by
  have hR := hM.rf
  have all : ∀ (Q : Option Value → QS → Prop), (∀ I', MG I2 I' → ((∃ f : Nat, pTell σ.tb σ.tl (σ.tl + 1) 0 z00 0 = .inl f ∧ f ≤ 200 ∧ I' 0 25 = (f : Int)) ∨ (∃ n' z', pTell σ.tb σ.tl (σ.tl + 1) 0 z00 0 = .inr (n', z') ∧ n' ≤ 200 ∧ MP I' z' ∧ tOK z'.1 ∧ I' 0 23 = ((n' : Nat) : Int) ∧ I' 0 25 = -9)) → K shM 21 102 97 [some (.ref 0)] [] (I', X2) Q) → KC shM 21 102 [.ref 0] (I2, X2) Q := by
    intro Q hk
    refine k_start ql_102 (Nat.le_of_ble_eq_true rfl) ?_
    simp only [q_en, List.replicate]
    refine k_aload_n i_102_0 rfl ?_
    refine k_iconst i_102_1 ?_
    refine k_pfI i_102_2 f_12_94 (by first | rfl | assumption | (rw [hR]; rfl) | (dsimp only; rw [hR]; rfl)) (by decide) rfl ?_
    refine k_aload_n i_102_5 rfl ?_
    refine k_bipush i_102_6 (by decide) ?_
    refine k_pfI i_102_8 f_12_97 (by first | rfl | assumption | (rw [hR]; rfl) | (dsimp only; rw [hR]; rfl)) (by decide) rfl ?_
    refine k_aload_n i_102_11 rfl ?_
    refine k_iconst i_102_12 ?_
    refine k_pfI i_102_13 f_12_144 (by first | rfl | assumption | (rw [hR]; rfl) | (dsimp only; rw [hR]; rfl)) (by decide) rfl ?_
    refine k_aload_n i_102_16 rfl ?_
    refine k_iconst i_102_17 ?_
    refine k_pfI i_102_18 f_12_120 (by first | rfl | assumption | (rw [hR]; rfl) | (dsimp only; rw [hR]; rfl)) (by decide) rfl ?_
    refine k_aload_n i_102_21 rfl ?_
    refine k_iconst i_102_22 ?_
    refine k_pfI i_102_23 f_12_126 (by first | rfl | assumption | (rw [hR]; rfl) | (dsimp only; rw [hR]; rfl)) (by decide) rfl ?_
    refine k_aload_n i_102_26 rfl ?_
    refine k_iconst i_102_27 ?_
    refine k_pfI i_102_28 f_12_129 (by first | rfl | assumption | (rw [hR]; rfl) | (dsimp only; rw [hR]; rfl)) (by decide) rfl ?_
    refine k_aload_n i_102_31 rfl ?_
    refine k_iconst i_102_32 ?_
    refine k_pfI i_102_33 f_12_132 (by first | rfl | assumption | (rw [hR]; rfl) | (dsimp only; rw [hR]; rfl)) (by decide) rfl ?_
    refine k_aload_n i_102_36 rfl ?_
    refine k_gfR i_102_37 f_12_42 (by first | rfl | assumption | (rw [hR]; rfl) | (dsimp only; rw [hR]; rfl)) (by decide) (by decide) (Or.inr ⟨_, rfl⟩) (by first | rfl | assumption | (rw [hR]; rfl) | (dsimp only; rw [hR]; rfl)) ?_
    refine k_iconst i_102_40 ?_
    refine k_iconst i_102_41 ?_
    refine k_iast i_102_42 (by first | rfl | assumption | (rw [hR]; rfl) | (dsimp only; rw [hR]; rfl)) (by decide) (by omega) (by omega) ?_
    refine k_aload_n i_102_43 rfl ?_
    refine k_gfR i_102_44 f_12_42 (by first | rfl | assumption | (rw [hR]; rfl) | (dsimp only; rw [hR]; rfl)) (by decide) (by decide) (Or.inr ⟨_, rfl⟩) (by first | rfl | assumption | (rw [hR]; rfl) | (dsimp only; rw [hR]; rfl)) ?_
    refine k_iconst i_102_47 ?_
    refine k_iconst i_102_48 ?_
    refine k_iast i_102_49 (by first | rfl | assumption | (rw [hR]; rfl) | (dsimp only; rw [hR]; rfl)) (by decide) (by omega) (by omega) ?_
    refine k_aload_n i_102_50 rfl ?_
    refine k_gfR i_102_51 f_12_42 (by first | rfl | assumption | (rw [hR]; rfl) | (dsimp only; rw [hR]; rfl)) (by decide) (by decide) (Or.inr ⟨_, rfl⟩) (by first | rfl | assumption | (rw [hR]; rfl) | (dsimp only; rw [hR]; rfl)) ?_
    refine k_iconst i_102_54 ?_
    refine k_iconst i_102_55 ?_
    refine k_iast i_102_56 (by first | rfl | assumption | (rw [hR]; rfl) | (dsimp only; rw [hR]; rfl)) (by decide) (by omega) (by omega) ?_
    refine k_aload_n i_102_57 rfl ?_
    refine k_gfR i_102_58 f_12_42 (by first | rfl | assumption | (rw [hR]; rfl) | (dsimp only; rw [hR]; rfl)) (by decide) (by decide) (Or.inr ⟨_, rfl⟩) (by first | rfl | assumption | (rw [hR]; rfl) | (dsimp only; rw [hR]; rfl)) ?_
    refine k_iconst i_102_61 ?_
    refine k_iconst i_102_62 ?_
    refine k_iast i_102_63 (by first | rfl | assumption | (rw [hR]; rfl) | (dsimp only; rw [hR]; rfl)) (by decide) (by omega) (by omega) ?_
    refine k_aload_n i_102_64 rfl ?_
    refine k_gfR i_102_65 f_12_42 (by first | rfl | assumption | (rw [hR]; rfl) | (dsimp only; rw [hR]; rfl)) (by decide) (by decide) (Or.inr ⟨_, rfl⟩) (by first | rfl | assumption | (rw [hR]; rfl) | (dsimp only; rw [hR]; rfl)) ?_
    refine k_iconst i_102_68 ?_
    refine k_iconst i_102_69 ?_
    refine k_iast i_102_70 (by first | rfl | assumption | (rw [hR]; rfl) | (dsimp only; rw [hR]; rfl)) (by decide) (by omega) (by omega) ?_
    refine k_aload_n i_102_71 rfl ?_
    refine k_iconst i_102_72 ?_
    refine k_pfI i_102_73 f_12_135 (by first | rfl | assumption | (rw [hR]; rfl) | (dsimp only; rw [hR]; rfl)) (by decide) rfl ?_
    dsimp only
    refine l_mtown (d := 17) (I0 := I2) hR (σ.tl + 1) 0 0 z00 _ ?_ ?_ ?_ ⟨T00_ok, fun _ _ => rfl⟩ ?_ (Nat.le_refl _) (Nat.zero_le _) (by omega) ?_ ?_ hk
    · exact (((((((((((((MG.up (by omega)).tr (MG.up (by omega))).tr (MG.up (by omega))).tr (MG.up (by omega))).tr (MG.up (by omega))).tr (MG.up (by omega))).tr (MG.up (by omega))).tr MG.up6).tr MG.up6).tr MG.up6).tr MG.up6).tr MG.up6).tr (MG.up (by omega)))
    · refine (hM.mc hS).ofG ?_
      exact (((((((((((((MG.up (by omega)).tr (MG.up (by omega))).tr (MG.up (by omega))).tr (MG.up (by omega))).tr (MG.up (by omega))).tr (MG.up (by omega))).tr (MG.up (by omega))).tr MG.up6).tr MG.up6).tr MG.up6).tr MG.up6).tr MG.up6).tr (MG.up (by omega)))
    · exact ⟨rfl, rfl, rfl, rfl, rfl, rfl, rfl, rfl, rfl, rfl⟩
    · rfl
    · rfl
    · rfl
  refine ⟨fun f hf => ?_, fun n' z' hn => ⟨?_, ?_⟩⟩
  · refine all _ (fun I' mg hh => ?_)
    rcases hh with ⟨f', h1, h2, h3⟩ | ⟨n', z', h1, _⟩
    · rw [hf] at h1
      cases h1
      refine k_aload_n i_102_97 rfl ?_
      refine k_gfV (a := (f : Int)) i_102_98 f_12_97 (by first | rfl | assumption | (rw [hR]; rfl) | (dsimp only; rw [hR]; rfl)) (by decide) (by decide) (Or.inl rfl) (h3) ?_
      refine k_if_lt (t := 112) i_102_101 rfl (by omega) (fun g => ?_) (fun g => ?_)
      · omega
      · refine k_bipush i_102_104 (by decide) ?_
        refine k_aload_n i_102_106 rfl ?_
        refine k_gfV (a := (f : Int)) i_102_107 f_12_97 (by first | rfl | assumption | (rw [hR]; rfl) | (dsimp only; rw [hR]; rfl)) (by decide) (by decide) (Or.inl rfl) (h3) ?_
        refine k_isub i_102_110 ?_
        refine k_iret i_102_111 qt_102 ?_
        exact ⟨rfl, hM.mg mg⟩
    · rw [hf] at h1; cases h1
  · refine all _ (fun I' mg hh => ?_)
    rcases hh with ⟨f', h1, h2, h3⟩ | ⟨n9, z9, h1, h2, hP, hO, hI, hF⟩
    · rw [hn] at h1; cases h1
    · rw [hn] at h1
      cases h1
      obtain ⟨p1, p2, p3, p4, p5, p6, p7, p8, p9, p10⟩ := hP
      have c9 : ∀ {k : Nat} {v : Int} {F : Nat → Nat → Int} {k' : Nat}, k < 9 → 17 ≤ k' → q_up F 0 k v 0 k' = F 0 k' := fun h1 h2 => q_up_n (by omega)
      have c6 : ∀ {k : Nat} {v : Int} {F : Nat → Nat → Int} {k' : Nat}, q_up F 0 k v 6 k' = F 6 k' := q_up_n (by omega)
      refine k_aload_n i_102_97 rfl ?_
      refine k_gfV (a := (-9)) i_102_98 f_12_97 (by first | rfl | assumption | (rw [hR]; rfl) | (dsimp only; rw [hR]; rfl)) (by decide) (by decide) (Or.inl rfl) (hF) ?_
      refine k_if_lt (t := 112) i_102_101 rfl (by omega) (fun g => ?_) (fun g => ?_)
      · refine k_aload_n i_102_112 rfl ?_
        refine k_aload_n i_102_113 rfl ?_
        refine k_gfV (a := (tW z'.1)) i_102_114 f_12_120 (by first | rfl | assumption | (rw [hR]; rfl) | (dsimp only; rw [hR]; rfl)) (by decide) (by decide) (Or.inl rfl) (p1) ?_
        refine k_pfI i_102_117 f_12_7 (by first | rfl | assumption | (rw [hR]; rfl) | (dsimp only; rw [hR]; rfl)) (by decide) rfl ?_
        refine k_aload_n i_102_120 rfl ?_
        refine k_aload_n i_102_121 rfl ?_
        refine k_gfV (a := (tH z'.1)) i_102_122 f_12_126 (by first | rfl | assumption | (rw [hR]; rfl) | (dsimp only; rw [hR]; rfl)) (by decide) (by decide) (Or.inl rfl) (by dsimp only; rw [c9 (by omega) (by omega)]; exact p2) ?_
        refine k_pfI i_102_125 f_12_13 (by first | rfl | assumption | (rw [hR]; rfl) | (dsimp only; rw [hR]; rfl)) (by decide) rfl ?_
        refine k_aload_n i_102_128 rfl ?_
        refine k_aload_n i_102_129 rfl ?_
        refine k_gfV (a := (tMask z'.1 1 : Int)) i_102_130 f_12_129 (by first | rfl | assumption | (rw [hR]; rfl) | (dsimp only; rw [hR]; rfl)) (by decide) (by decide) (Or.inl rfl) (by dsimp only; rw [c9 (by omega) (by omega), c9 (by omega) (by omega)]; exact p3) ?_
        refine k_pfI i_102_133 f_12_80 (by first | rfl | assumption | (rw [hR]; rfl) | (dsimp only; rw [hR]; rfl)) (by decide) rfl ?_
        refine k_aload_n i_102_136 rfl ?_
        refine k_aload_n i_102_137 rfl ?_
        refine k_gfV (a := (tMask z'.1 2 : Int)) i_102_138 f_12_132 (by first | rfl | assumption | (rw [hR]; rfl) | (dsimp only; rw [hR]; rfl)) (by decide) (by decide) (Or.inl rfl) (by dsimp only; rw [c9 (by omega) (by omega), c9 (by omega) (by omega), c9 (by omega) (by omega)]; exact p4) ?_
        refine k_pfI i_102_141 f_12_167 (by first | rfl | assumption | (rw [hR]; rfl) | (dsimp only; rw [hR]; rfl)) (by decide) rfl ?_
        refine k_aload_n i_102_144 rfl ?_
        refine k_aload_n i_102_145 rfl ?_
        refine k_gfR i_102_146 f_12_42 (by first | rfl | assumption | (rw [hR]; rfl) | (dsimp only; rw [hR]; rfl)) (by decide) (by decide) (Or.inr ⟨_, rfl⟩) (by first | rfl | assumption | (rw [hR]; rfl) | (dsimp only; rw [hR]; rfl)) ?_
        refine k_iconst i_102_149 ?_
        refine k_ialV (a := (tF z'.1)) i_102_150 (by first | rfl | assumption | (rw [hR]; rfl) | (dsimp only; rw [hR]; rfl)) (by decide) (by omega) (by omega) (by dsimp only; rw [c6, c6, c6, c6]; exact p6) ?_
        refine k_pfI i_102_151 f_12_16 (by first | rfl | assumption | (rw [hR]; rfl) | (dsimp only; rw [hR]; rfl)) (by decide) rfl ?_
        refine k_aload_n i_102_154 rfl ?_
        refine k_aload_n i_102_155 rfl ?_
        refine k_gfR i_102_156 f_12_42 (by first | rfl | assumption | (rw [hR]; rfl) | (dsimp only; rw [hR]; rfl)) (by decide) (by decide) (Or.inr ⟨_, rfl⟩) (by first | rfl | assumption | (rw [hR]; rfl) | (dsimp only; rw [hR]; rfl)) ?_
        refine k_iconst i_102_159 ?_
        refine k_ialV (a := (tR z'.1)) i_102_160 (by first | rfl | assumption | (rw [hR]; rfl) | (dsimp only; rw [hR]; rfl)) (by decide) (by omega) (by omega) (by dsimp only; rw [c6, c6, c6, c6, c6]; exact p7) ?_
        refine k_pfI i_102_161 f_12_19 (by first | rfl | assumption | (rw [hR]; rfl) | (dsimp only; rw [hR]; rfl)) (by decide) rfl ?_
        refine k_aload_n i_102_164 rfl ?_
        refine k_aload_n i_102_165 rfl ?_
        refine k_gfR i_102_166 f_12_42 (by first | rfl | assumption | (rw [hR]; rfl) | (dsimp only; rw [hR]; rfl)) (by decide) (by decide) (Or.inr ⟨_, rfl⟩) (by first | rfl | assumption | (rw [hR]; rfl) | (dsimp only; rw [hR]; rfl)) ?_
        refine k_iconst i_102_169 ?_
        refine k_ialV (a := (tM z'.1)) i_102_170 (by first | rfl | assumption | (rw [hR]; rfl) | (dsimp only; rw [hR]; rfl)) (by decide) (by omega) (by omega) (by dsimp only; rw [c6, c6, c6, c6, c6, c6]; exact p8) ?_
        refine k_pfI i_102_171 f_12_22 (by first | rfl | assumption | (rw [hR]; rfl) | (dsimp only; rw [hR]; rfl)) (by decide) rfl ?_
        refine k_aload_n i_102_174 rfl ?_
        refine k_aload_n i_102_175 rfl ?_
        refine k_gfR i_102_176 f_12_42 (by first | rfl | assumption | (rw [hR]; rfl) | (dsimp only; rw [hR]; rfl)) (by decide) (by decide) (Or.inr ⟨_, rfl⟩) (by first | rfl | assumption | (rw [hR]; rfl) | (dsimp only; rw [hR]; rfl)) ?_
        refine k_iconst i_102_179 ?_
        refine k_ialV (a := (tD z'.1)) i_102_180 (by first | rfl | assumption | (rw [hR]; rfl) | (dsimp only; rw [hR]; rfl)) (by decide) (by omega) (by omega) (by dsimp only; rw [c6, c6, c6, c6, c6, c6, c6]; exact p9) ?_
        refine k_pfI i_102_181 f_12_170 (by first | rfl | assumption | (rw [hR]; rfl) | (dsimp only; rw [hR]; rfl)) (by decide) rfl ?_
        refine k_aload_n i_102_184 rfl ?_
        refine k_aload_n i_102_185 rfl ?_
        refine k_gfR i_102_186 f_12_42 (by first | rfl | assumption | (rw [hR]; rfl) | (dsimp only; rw [hR]; rfl)) (by decide) (by decide) (Or.inr ⟨_, rfl⟩) (by first | rfl | assumption | (rw [hR]; rfl) | (dsimp only; rw [hR]; rfl)) ?_
        refine k_iconst i_102_189 ?_
        refine k_ialV (a := (tA z'.1)) i_102_190 (by first | rfl | assumption | (rw [hR]; rfl) | (dsimp only; rw [hR]; rfl)) (by decide) (by omega) (by omega) (by dsimp only; rw [c6, c6, c6, c6, c6, c6, c6, c6]; exact p10) ?_
        refine k_pfI i_102_191 f_12_173 (by first | rfl | assumption | (rw [hR]; rfl) | (dsimp only; rw [hR]; rfl)) (by decide) rfl ?_
        dsimp only
        have f0 : ∀ F : Nat → Nat → Int, F = q_up (q_up (q_up (q_up (q_up (q_up (q_up (q_up (q_up I' 0 0 (tW z'.1)) 0 1 (tH z'.1)) 0 2 (tMask z'.1 1 : Int)) 0 3 (tMask z'.1 2 : Int)) 0 4 (tF z'.1)) 0 5 (tR z'.1)) 0 6 (tM z'.1)) 0 7 (tD z'.1)) 0 8 (tA z'.1) → MT (F, X2) z'.1 ∧ F 0 23 = (n' : Int) ∧ (∀ c, c ≠ 0 → F c = I' c) ∧ ∀ k, 9 ≤ k → F 0 k = I' 0 k := by
          intro F hF'
          subst hF'
          refine ⟨⟨?_, ?_, ?_, ?_, ?_, ?_, ?_, ?_, ?_⟩, ?_, fun c hc => ?_, fun k hk => ?_⟩
          · dsimp only
            rw [q_up_n (by omega), q_up_n (by omega), q_up_n (by omega), q_up_n (by omega), q_up_n (by omega), q_up_n (by omega), q_up_n (by omega), q_up_n (by omega), q_up_s]
          · dsimp only
            rw [q_up_n (by omega), q_up_n (by omega), q_up_n (by omega), q_up_n (by omega), q_up_n (by omega), q_up_n (by omega), q_up_n (by omega), q_up_s]
          · dsimp only
            rw [q_up_n (by omega), q_up_n (by omega), q_up_n (by omega), q_up_n (by omega), q_up_n (by omega), q_up_n (by omega), q_up_s]
          · dsimp only
            rw [q_up_n (by omega), q_up_n (by omega), q_up_n (by omega), q_up_n (by omega), q_up_n (by omega), q_up_s]
          · dsimp only
            rw [q_up_n (by omega), q_up_n (by omega), q_up_n (by omega), q_up_n (by omega), q_up_s]
          · dsimp only
            rw [q_up_n (by omega), q_up_n (by omega), q_up_n (by omega), q_up_s]
          · dsimp only
            rw [q_up_n (by omega), q_up_n (by omega), q_up_s]
          · dsimp only
            rw [q_up_n (by omega), q_up_s]
          · dsimp only
            rw [q_up_s]
          · rw [c9 (by omega) (by omega), c9 (by omega) (by omega), c9 (by omega) (by omega), c9 (by omega) (by omega), c9 (by omega) (by omega), c9 (by omega) (by omega), c9 (by omega) (by omega), c9 (by omega) (by omega), c9 (by omega) (by omega)]
            exact hI
          · rw [q_up_o hc, q_up_o hc, q_up_o hc, q_up_o hc, q_up_o hc, q_up_o hc, q_up_o hc, q_up_o hc, q_up_o hc]
          · rw [q_up_n (by omega), q_up_n (by omega), q_up_n (by omega), q_up_n (by omega), q_up_n (by omega), q_up_n (by omega), q_up_n (by omega), q_up_n (by omega), q_up_n (by omega)]
        generalize hFF : q_up (q_up (q_up (q_up (q_up (q_up (q_up (q_up (q_up I' 0 0 (tW z'.1)) 0 1 (tH z'.1)) 0 2 (tMask z'.1 1 : Int)) 0 3 (tMask z'.1 2 : Int)) 0 4 (tF z'.1)) 0 5 (tR z'.1)) 0 6 (tM z'.1)) 0 7 (tD z'.1)) 0 8 (tA z'.1) = F
        obtain ⟨mt, hi, hc0, hk9⟩ := f0 F hFF.symm
        refine k_aload_n i_102_194 rfl ?_
        refine k_iconst i_102_195 ?_
        refine k_pfI i_102_196 f_12_89 (by first | rfl | assumption | (rw [hR]; rfl) | (dsimp only; rw [hR]; rfl)) (by decide) rfl ?_
        refine k_aload_n i_102_199 rfl ?_
        refine k_iconst i_102_200 ?_
        refine k_pfI i_102_201 f_12_176 (by first | rfl | assumption | (rw [hR]; rfl) | (dsimp only; rw [hR]; rfl)) (by decide) rfl ?_
        refine k_aload_n i_102_204 rfl ?_
        refine k_gfR i_102_205 f_12_29 (by first | rfl | assumption | (rw [hR]; rfl) | (dsimp only; rw [hR]; rfl)) (by decide) (by decide) (Or.inr ⟨_, rfl⟩) (by first | rfl | assumption | (rw [hR]; rfl) | (dsimp only; rw [hR]; rfl)) ?_
        refine k_iconst i_102_208 ?_
        refine k_bipush i_102_209 (by decide) ?_
        refine k_iast i_102_211 (by first | rfl | assumption | (rw [hR]; rfl) | (dsimp only; rw [hR]; rfl)) (by decide) (by omega) (by omega) ?_
        refine k_aload_n i_102_212 rfl ?_
        refine k_gfR i_102_213 f_12_29 (by first | rfl | assumption | (rw [hR]; rfl) | (dsimp only; rw [hR]; rfl)) (by decide) (by decide) (Or.inr ⟨_, rfl⟩) (by first | rfl | assumption | (rw [hR]; rfl) | (dsimp only; rw [hR]; rfl)) ?_
        refine k_iconst i_102_216 ?_
        refine k_iconst i_102_217 ?_
        refine k_iast i_102_218 (by first | rfl | assumption | (rw [hR]; rfl) | (dsimp only; rw [hR]; rfl)) (by decide) (by omega) (by omega) ?_
        refine k_aload_n i_102_219 rfl ?_
        refine k_gfR i_102_220 f_12_29 (by first | rfl | assumption | (rw [hR]; rfl) | (dsimp only; rw [hR]; rfl)) (by decide) (by decide) (Or.inr ⟨_, rfl⟩) (by first | rfl | assumption | (rw [hR]; rfl) | (dsimp only; rw [hR]; rfl)) ?_
        refine k_iconst i_102_223 ?_
        refine k_iconst i_102_224 ?_
        refine k_iast i_102_225 (by first | rfl | assumption | (rw [hR]; rfl) | (dsimp only; rw [hR]; rfl)) (by decide) (by omega) (by omega) ?_
        refine k_aload_n i_102_226 rfl ?_
        refine k_gfR i_102_227 f_12_29 (by first | rfl | assumption | (rw [hR]; rfl) | (dsimp only; rw [hR]; rfl)) (by decide) (by decide) (Or.inr ⟨_, rfl⟩) (by first | rfl | assumption | (rw [hR]; rfl) | (dsimp only; rw [hR]; rfl)) ?_
        refine k_iconst i_102_230 ?_
        refine k_iconst i_102_231 ?_
        refine k_iast i_102_232 (by first | rfl | assumption | (rw [hR]; rfl) | (dsimp only; rw [hR]; rfl)) (by decide) (by omega) (by omega) ?_
        refine k_aload_n i_102_233 rfl ?_
        refine k_gfR i_102_234 f_12_32 (by first | rfl | assumption | (rw [hR]; rfl) | (dsimp only; rw [hR]; rfl)) (by decide) (by decide) (Or.inr ⟨_, rfl⟩) (by first | rfl | assumption | (rw [hR]; rfl) | (dsimp only; rw [hR]; rfl)) ?_
        refine k_iconst i_102_237 ?_
        refine k_iconst i_102_238 ?_
        refine k_zast i_102_239 rfl (by decide) (by omega) (by omega) (Or.inl rfl) ?_
        refine k_aload_n i_102_240 rfl ?_
        refine k_gfR i_102_241 f_12_32 (by first | rfl | assumption | (rw [hR]; rfl) | (dsimp only; rw [hR]; rfl)) (by decide) (by decide) (Or.inr ⟨_, rfl⟩) (by first | rfl | assumption | (rw [hR]; rfl) | (dsimp only; rw [hR]; rfl)) ?_
        refine k_iconst i_102_244 ?_
        refine k_iconst i_102_245 ?_
        refine k_zast i_102_246 rfl (by decide) (by omega) (by omega) (Or.inl rfl) ?_
        refine k_aload_n i_102_247 rfl ?_
        refine k_gfV (a := (n' : Int)) i_102_248 f_12_144 (by first | rfl | assumption | (rw [hR]; rfl) | (dsimp only; rw [hR]; rfl)) (by decide) (by decide) (Or.inl rfl) (by dsimp only; exact hi) ?_
        refine k_iret i_102_251 qt_102 ?_
        refine ⟨rfl, ?_⟩
        refine ⟨?_, hM.rf, rfl, fun i hi => absurd hi (Nat.not_lt_zero i), ?_, fun i hi => ⟨?_, fun hk => by cases hk⟩, ⟨rfl, fun e he => absurd he (Nat.not_lt_zero e)⟩, hM.mk⟩
        · obtain ⟨t0, t1, t2, t3, t4, t5, t6, t7, t8⟩ := mt
          exact ⟨t0, t1, t2, t3, t4, t5, t6, t7, t8⟩
        · exact ⟨rfl, rfl, rfl, rfl, fun i hi => absurd hi (Nat.not_lt_zero i)⟩
        · have : i = 0 ∨ i = 1 := by omega
          rcases this with rfl | rfl <;> rfl
      · omega
  · have hz : ∀ (Q : Option Value → QS → Prop), True := fun _ => trivial
    have h1 := all (fun _ _ => tOK z'.1) (fun I' mg hh => by
      rcases hh with ⟨f', h1, h2, h3⟩ | ⟨n9, z9, h1, h2, hP, hO, hI, hF⟩
      · rw [hn] at h1; cases h1
      · rw [hn] at h1
        cases h1
        refine k_aload_n i_102_97 rfl ?_
        refine k_gfV (a := (-9)) i_102_98 f_12_97 (by first | rfl | assumption | (rw [hR]; rfl) | (dsimp only; rw [hR]; rfl)) (by decide) (by decide) (Or.inl rfl) (hF) ?_
        refine k_if_lt (t := 112) i_102_101 rfl (by omega) (fun g => ?_) (fun g => ?_)
        · refine k_aload_n i_102_112 rfl ?_
          refine k_aload_n i_102_113 rfl ?_
          refine k_gfI i_102_114 f_12_120 (by first | rfl | assumption | (rw [hR]; rfl) | (dsimp only; rw [hR]; rfl)) (by decide) (by decide) (Or.inl rfl) ?_
          refine k_pfI i_102_117 f_12_7 (by first | rfl | assumption | (rw [hR]; rfl) | (dsimp only; rw [hR]; rfl)) (by decide) rfl ?_
          refine k_aload_n i_102_120 rfl ?_
          refine k_aload_n i_102_121 rfl ?_
          refine k_gfI i_102_122 f_12_126 (by first | rfl | assumption | (rw [hR]; rfl) | (dsimp only; rw [hR]; rfl)) (by decide) (by decide) (Or.inl rfl) ?_
          refine k_pfI i_102_125 f_12_13 (by first | rfl | assumption | (rw [hR]; rfl) | (dsimp only; rw [hR]; rfl)) (by decide) rfl ?_
          refine k_aload_n i_102_128 rfl ?_
          refine k_aload_n i_102_129 rfl ?_
          refine k_gfI i_102_130 f_12_129 (by first | rfl | assumption | (rw [hR]; rfl) | (dsimp only; rw [hR]; rfl)) (by decide) (by decide) (Or.inl rfl) ?_
          refine k_pfI i_102_133 f_12_80 (by first | rfl | assumption | (rw [hR]; rfl) | (dsimp only; rw [hR]; rfl)) (by decide) rfl ?_
          refine k_aload_n i_102_136 rfl ?_
          refine k_aload_n i_102_137 rfl ?_
          refine k_gfI i_102_138 f_12_132 (by first | rfl | assumption | (rw [hR]; rfl) | (dsimp only; rw [hR]; rfl)) (by decide) (by decide) (Or.inl rfl) ?_
          refine k_pfI i_102_141 f_12_167 (by first | rfl | assumption | (rw [hR]; rfl) | (dsimp only; rw [hR]; rfl)) (by decide) rfl ?_
          refine k_aload_n i_102_144 rfl ?_
          refine k_aload_n i_102_145 rfl ?_
          refine k_gfR i_102_146 f_12_42 (by first | rfl | assumption | (rw [hR]; rfl) | (dsimp only; rw [hR]; rfl)) (by decide) (by decide) (Or.inr ⟨_, rfl⟩) (by first | rfl | assumption | (rw [hR]; rfl) | (dsimp only; rw [hR]; rfl)) ?_
          refine k_iconst i_102_149 ?_
          refine k_iald i_102_150 (by first | rfl | assumption | (rw [hR]; rfl) | (dsimp only; rw [hR]; rfl)) (by decide) (by omega) (by omega) ?_
          refine k_pfI i_102_151 f_12_16 (by first | rfl | assumption | (rw [hR]; rfl) | (dsimp only; rw [hR]; rfl)) (by decide) rfl ?_
          refine k_aload_n i_102_154 rfl ?_
          refine k_aload_n i_102_155 rfl ?_
          refine k_gfR i_102_156 f_12_42 (by first | rfl | assumption | (rw [hR]; rfl) | (dsimp only; rw [hR]; rfl)) (by decide) (by decide) (Or.inr ⟨_, rfl⟩) (by first | rfl | assumption | (rw [hR]; rfl) | (dsimp only; rw [hR]; rfl)) ?_
          refine k_iconst i_102_159 ?_
          refine k_iald i_102_160 (by first | rfl | assumption | (rw [hR]; rfl) | (dsimp only; rw [hR]; rfl)) (by decide) (by omega) (by omega) ?_
          refine k_pfI i_102_161 f_12_19 (by first | rfl | assumption | (rw [hR]; rfl) | (dsimp only; rw [hR]; rfl)) (by decide) rfl ?_
          refine k_aload_n i_102_164 rfl ?_
          refine k_aload_n i_102_165 rfl ?_
          refine k_gfR i_102_166 f_12_42 (by first | rfl | assumption | (rw [hR]; rfl) | (dsimp only; rw [hR]; rfl)) (by decide) (by decide) (Or.inr ⟨_, rfl⟩) (by first | rfl | assumption | (rw [hR]; rfl) | (dsimp only; rw [hR]; rfl)) ?_
          refine k_iconst i_102_169 ?_
          refine k_iald i_102_170 (by first | rfl | assumption | (rw [hR]; rfl) | (dsimp only; rw [hR]; rfl)) (by decide) (by omega) (by omega) ?_
          refine k_pfI i_102_171 f_12_22 (by first | rfl | assumption | (rw [hR]; rfl) | (dsimp only; rw [hR]; rfl)) (by decide) rfl ?_
          refine k_aload_n i_102_174 rfl ?_
          refine k_aload_n i_102_175 rfl ?_
          refine k_gfR i_102_176 f_12_42 (by first | rfl | assumption | (rw [hR]; rfl) | (dsimp only; rw [hR]; rfl)) (by decide) (by decide) (Or.inr ⟨_, rfl⟩) (by first | rfl | assumption | (rw [hR]; rfl) | (dsimp only; rw [hR]; rfl)) ?_
          refine k_iconst i_102_179 ?_
          refine k_iald i_102_180 (by first | rfl | assumption | (rw [hR]; rfl) | (dsimp only; rw [hR]; rfl)) (by decide) (by omega) (by omega) ?_
          refine k_pfI i_102_181 f_12_170 (by first | rfl | assumption | (rw [hR]; rfl) | (dsimp only; rw [hR]; rfl)) (by decide) rfl ?_
          refine k_aload_n i_102_184 rfl ?_
          refine k_aload_n i_102_185 rfl ?_
          refine k_gfR i_102_186 f_12_42 (by first | rfl | assumption | (rw [hR]; rfl) | (dsimp only; rw [hR]; rfl)) (by decide) (by decide) (Or.inr ⟨_, rfl⟩) (by first | rfl | assumption | (rw [hR]; rfl) | (dsimp only; rw [hR]; rfl)) ?_
          refine k_iconst i_102_189 ?_
          refine k_iald i_102_190 (by first | rfl | assumption | (rw [hR]; rfl) | (dsimp only; rw [hR]; rfl)) (by decide) (by omega) (by omega) ?_
          refine k_pfI i_102_191 f_12_173 (by first | rfl | assumption | (rw [hR]; rfl) | (dsimp only; rw [hR]; rfl)) (by decide) rfl ?_
          refine k_aload_n i_102_194 rfl ?_
          refine k_iconst i_102_195 ?_
          refine k_pfI i_102_196 f_12_89 (by first | rfl | assumption | (rw [hR]; rfl) | (dsimp only; rw [hR]; rfl)) (by decide) rfl ?_
          refine k_aload_n i_102_199 rfl ?_
          refine k_iconst i_102_200 ?_
          refine k_pfI i_102_201 f_12_176 (by first | rfl | assumption | (rw [hR]; rfl) | (dsimp only; rw [hR]; rfl)) (by decide) rfl ?_
          refine k_aload_n i_102_204 rfl ?_
          refine k_gfR i_102_205 f_12_29 (by first | rfl | assumption | (rw [hR]; rfl) | (dsimp only; rw [hR]; rfl)) (by decide) (by decide) (Or.inr ⟨_, rfl⟩) (by first | rfl | assumption | (rw [hR]; rfl) | (dsimp only; rw [hR]; rfl)) ?_
          refine k_iconst i_102_208 ?_
          refine k_bipush i_102_209 (by decide) ?_
          refine k_iast i_102_211 (by first | rfl | assumption | (rw [hR]; rfl) | (dsimp only; rw [hR]; rfl)) (by decide) (by omega) (by omega) ?_
          refine k_aload_n i_102_212 rfl ?_
          refine k_gfR i_102_213 f_12_29 (by first | rfl | assumption | (rw [hR]; rfl) | (dsimp only; rw [hR]; rfl)) (by decide) (by decide) (Or.inr ⟨_, rfl⟩) (by first | rfl | assumption | (rw [hR]; rfl) | (dsimp only; rw [hR]; rfl)) ?_
          refine k_iconst i_102_216 ?_
          refine k_iconst i_102_217 ?_
          refine k_iast i_102_218 (by first | rfl | assumption | (rw [hR]; rfl) | (dsimp only; rw [hR]; rfl)) (by decide) (by omega) (by omega) ?_
          refine k_aload_n i_102_219 rfl ?_
          refine k_gfR i_102_220 f_12_29 (by first | rfl | assumption | (rw [hR]; rfl) | (dsimp only; rw [hR]; rfl)) (by decide) (by decide) (Or.inr ⟨_, rfl⟩) (by first | rfl | assumption | (rw [hR]; rfl) | (dsimp only; rw [hR]; rfl)) ?_
          refine k_iconst i_102_223 ?_
          refine k_iconst i_102_224 ?_
          refine k_iast i_102_225 (by first | rfl | assumption | (rw [hR]; rfl) | (dsimp only; rw [hR]; rfl)) (by decide) (by omega) (by omega) ?_
          refine k_aload_n i_102_226 rfl ?_
          refine k_gfR i_102_227 f_12_29 (by first | rfl | assumption | (rw [hR]; rfl) | (dsimp only; rw [hR]; rfl)) (by decide) (by decide) (Or.inr ⟨_, rfl⟩) (by first | rfl | assumption | (rw [hR]; rfl) | (dsimp only; rw [hR]; rfl)) ?_
          refine k_iconst i_102_230 ?_
          refine k_iconst i_102_231 ?_
          refine k_iast i_102_232 (by first | rfl | assumption | (rw [hR]; rfl) | (dsimp only; rw [hR]; rfl)) (by decide) (by omega) (by omega) ?_
          refine k_aload_n i_102_233 rfl ?_
          refine k_gfR i_102_234 f_12_32 (by first | rfl | assumption | (rw [hR]; rfl) | (dsimp only; rw [hR]; rfl)) (by decide) (by decide) (Or.inr ⟨_, rfl⟩) (by first | rfl | assumption | (rw [hR]; rfl) | (dsimp only; rw [hR]; rfl)) ?_
          refine k_iconst i_102_237 ?_
          refine k_iconst i_102_238 ?_
          refine k_zast i_102_239 rfl (by decide) (by omega) (by omega) (Or.inl rfl) ?_
          refine k_aload_n i_102_240 rfl ?_
          refine k_gfR i_102_241 f_12_32 (by first | rfl | assumption | (rw [hR]; rfl) | (dsimp only; rw [hR]; rfl)) (by decide) (by decide) (Or.inr ⟨_, rfl⟩) (by first | rfl | assumption | (rw [hR]; rfl) | (dsimp only; rw [hR]; rfl)) ?_
          refine k_iconst i_102_244 ?_
          refine k_iconst i_102_245 ?_
          refine k_zast i_102_246 rfl (by decide) (by omega) (by omega) (Or.inl rfl) ?_
          refine k_aload_n i_102_247 rfl ?_
          refine k_gfI i_102_248 f_12_144 (by first | rfl | assumption | (rw [hR]; rfl) | (dsimp only; rw [hR]; rfl)) (by decide) (by decide) (Or.inl rfl) ?_
          refine k_iret i_102_251 qt_102 ?_
          exact hO
        · omega)
    obtain ⟨_, n9, r9, V9, _, S9, _, h9⟩ := h1
    exact h9
-- method 69: StraightTax.town.()I
theorem x_town (hX : XI σ h0 s0 w0 I X) (hS : SOK σ) : (∀ f : Nat, pTell σ.tb σ.tl (σ.tl + 1) 0 z00 0 = .inl f → OX σ h0 s0 w0 69 21 I X [] (.int (J (-10 - (f : Int)))) σ) ∧ (∀ (n' : Nat) (z' : Zt), pTell σ.tb σ.tl (σ.tl + 1) 0 z00 0 = .inr (n', z') → OX σ h0 s0 w0 69 21 I X [] (.int (J (n' : Int))) (σ.anew z'.1)) := by
  have hR := hX.rf
  have hh := hX.hs
  have hL := hS.tl
  have sh7 : shX[s0]? = some (7, 9) ∧ shX[s0 + 1]? = some (100, 20) ∧ shX[s0 + 2]? = some (100, 80) ∧ X.2 s0 7 = some (s0 + 1) ∧ X.2 s0 8 = some (s0 + 2) := by
    rw [hR]
    rcases hh with ⟨rfl, rfl⟩ | ⟨rfl, rfl⟩
    · exact ⟨rfl, rfl, rfl, rfl, rfl⟩
    · exact ⟨rfl, rfl, rfl, rfl, rfl⟩
  obtain ⟨s1, s2, s3, r1, r2⟩ := sh7
  refine ⟨fun f hf => ?_, fun n' z' hn => ?_⟩
  · unfold OX
    refine k_start ql_69 (Nat.le_of_ble_eq_true rfl) ?_
    simp only [q_en, List.replicate]
    refine k_aload_n i_69_0 rfl ?_
    refine k_gfR i_69_1 f_11_12 (by first | rfl | assumption | (rw [hR]; rfl) | (dsimp only; rw [hR]; rfl)) (by decide) (by decide) (Or.inl ⟨_, rfl⟩) (by first | rfl | assumption | (rw [hR]; rfl) | (dsimp only; rw [hR]; rfl)) ?_
    refine k_aload_n i_69_4 rfl ?_
    refine k_gfR i_69_5 f_11_58 (by first | rfl | assumption | (rw [hR]; rfl) | (dsimp only; rw [hR]; rfl)) (by decide) (by decide) (Or.inl ⟨_, rfl⟩) (by first | rfl | assumption | (rw [hR]; rfl) | (dsimp only; rw [hR]; rfl)) ?_
    refine k_cv1 i_69_8 c_11_89 qp_9 qo_9 (by first | rfl | assumption | (rw [hR]; rfl) | (dsimp only; rw [hR]; rfl)) (Nat.le_of_ble_eq_true rfl) (e_tell (d := 11) hR (by omega) (hX.tc hS) s1 s2 s3 r1 r2) (fun v S2 h => ?_)
    rw [hf] at h
    obtain ⟨I', rfl, tf, hh2⟩ := h
    rcases hh2 with ⟨f', h1, h2, rfl⟩ | ⟨n9, z9, h1, _⟩
    · cases h1
      show K shX 21 69 11 _ [.int (J (-10 - (f : Int)))] _ _
      refine k_istore_n i_69_11 (Nat.le_of_ble_eq_true rfl) ?_
      dsimp only [q_st1, q_st2, q_unl]
      refine k_iload_n i_69_12 rfl ?_
      refine k_if_ge (t := 18) i_69_13 rfl (by omega) (fun g => ?_) (fun g => ?_)
      · omega
      · refine k_iload_n i_69_16 rfl ?_
        refine k_iret i_69_17 qt_69 ?_
        exact ⟨rfl, _, _, _, hX.tf tf⟩
    · cases h1
  · unfold OX
    refine k_start ql_69 (Nat.le_of_ble_eq_true rfl) ?_
    simp only [q_en, List.replicate]
    refine k_aload_n i_69_0 rfl ?_
    refine k_gfR i_69_1 f_11_12 (by first | rfl | assumption | (rw [hR]; rfl) | (dsimp only; rw [hR]; rfl)) (by decide) (by decide) (Or.inl ⟨_, rfl⟩) (by first | rfl | assumption | (rw [hR]; rfl) | (dsimp only; rw [hR]; rfl)) ?_
    refine k_aload_n i_69_4 rfl ?_
    refine k_gfR i_69_5 f_11_58 (by first | rfl | assumption | (rw [hR]; rfl) | (dsimp only; rw [hR]; rfl)) (by decide) (by decide) (Or.inl ⟨_, rfl⟩) (by first | rfl | assumption | (rw [hR]; rfl) | (dsimp only; rw [hR]; rfl)) ?_
    refine k_cv1 i_69_8 c_11_89 qp_9 qo_9 (by first | rfl | assumption | (rw [hR]; rfl) | (dsimp only; rw [hR]; rfl)) (Nat.le_of_ble_eq_true rfl) (e_tell (d := 11) hR (by omega) (hX.tc hS) s1 s2 s3 r1 r2) (fun v S2 h => ?_)
    rw [hn] at h
    obtain ⟨I', rfl, tf, hh2⟩ := h
    rcases hh2 with ⟨f', h1, _⟩ | ⟨n9, z9, h1, h2, rfl, hP, hO⟩
    · cases h1
    · cases h1
      show K shX 21 69 11 _ [.int (J (n' : Int))] _ _
      have hXt := hX.tf tf
      refine k_istore_n i_69_11 (Nat.le_of_ble_eq_true rfl) ?_
      dsimp only [q_st1, q_st2, q_unl]
      refine k_iload_n i_69_12 rfl ?_
      refine k_if_ge (t := 18) i_69_13 rfl (by omega) (fun g => ?_) (fun g => ?_)
      · refine k_aload_n i_69_18 rfl ?_
        refine k_gfR i_69_19 f_11_54 (by first | rfl | assumption | (rw [hR]; rfl) | (dsimp only; rw [hR]; rfl)) (by decide) (by decide) (Or.inl ⟨_, rfl⟩) (by first | rfl | assumption | (rw [hR]; rfl) | (dsimp only; rw [hR]; rfl)) ?_
        refine k_astore_n i_69_22 (Nat.le_of_ble_eq_true rfl) ?_
        dsimp only [q_st1, q_st2, q_unl]
        refine k_aload_n i_69_23 rfl ?_
        refine k_aload_n i_69_24 rfl ?_
        refine k_gfR i_69_25 f_11_58 (by first | rfl | assumption | (rw [hR]; rfl) | (dsimp only; rw [hR]; rfl)) (by decide) (by decide) (Or.inl ⟨_, rfl⟩) (by first | rfl | assumption | (rw [hR]; rfl) | (dsimp only; rw [hR]; rfl)) ?_
        refine k_pfR i_69_28 f_11_54 (by first | rfl | assumption | (rw [hR]; rfl) | (dsimp only; rw [hR]; rfl)) (by decide) rfl (by first | decide | omega) ?_
        refine k_aload_n i_69_31 rfl ?_
        refine k_aload_n i_69_32 rfl ?_
        refine k_pfR i_69_33 f_11_58 (by first | rfl | assumption | (rw [hR]; rfl) | (dsimp only; rw [hR]; rfl)) (by decide) rfl (by first | decide | omega) ?_
        dsimp only
        have hsw : q_up (q_up X.2 0 7 (some s0)) 0 8 (some h0) = rX s0 h0 w0 := by rw [hR]; exact rX_sw
        rw [hsw]
        have hT : TAt shX (I', X.1, rX s0 h0 w0) s0 z'.1 := hP.1.same rfl rfl (by
          show rX s0 h0 w0 s0 = X.2 s0
          rw [hR]
          rcases hh with ⟨rfl, rfl⟩ | ⟨rfl, rfl⟩ <;> rfl)
        have hR : (X.1, rX s0 h0 w0).2 = rX s0 h0 w0 := rfl
        refine k_aload_n i_69_36 rfl ?_
        refine k_gfR i_69_37 f_11_54 (by first | rfl | assumption | (rw [hR]; rfl) | (dsimp only; rw [hR]; rfl)) (by decide) (by decide) (Or.inl ⟨_, rfl⟩) (by first | rfl | assumption | (rw [hR]; rfl) | (dsimp only; rw [hR]; rfl)) ?_
        refine k_cv0 i_69_40 c_11_93 qp_24 qo_24 (by first | rfl | assumption | (rw [hR]; rfl) | (dsimp only; rw [hR]; rfl)) (Nat.le_of_ble_eq_true rfl) (e_join (d := 17) hT hO.1 rfl rfl) (fun v S2 h => ?_)
        obtain ⟨rfl, rfl⟩ := h
        show K shX 21 69 43 _ [] _ _
        have hTn := jn_nx (I := I') (X := (X.1, rX s0 h0 w0)) (t := s0) hO.1
        have hT2 : TAt shX (jn z'.1 I' s0 ((tN z'.1).toNat * 4), X.1, rX s0 h0 w0) s0 z'.1 := hT.same (jn_o (by omega)) (jn_o (by omega)) rfl
        have hjo : ∀ c, c ≠ s0 + 2 → jn z'.1 I' s0 ((tN z'.1).toNat * 4) c = I' c := fun c hc => jn_o hc
        generalize jn z'.1 I' s0 ((tN z'.1).toNat * 4) = I3 at hTn hT2 hjo ⊢
        refine k_aload_n i_69_43 rfl ?_
        refine k_gfR i_69_44 f_11_12 (by first | rfl | assumption | (rw [hR]; rfl) | (dsimp only; rw [hR]; rfl)) (by decide) (by decide) (Or.inl ⟨_, rfl⟩) (by first | rfl | assumption | (rw [hR]; rfl) | (dsimp only; rw [hR]; rfl)) ?_
        refine k_iconst i_69_47 ?_
        refine k_pfI i_69_48 f_11_85 (by first | rfl | assumption | (rw [hR]; rfl) | (dsimp only; rw [hR]; rfl)) (by decide) rfl ?_
        refine k_aload_n i_69_51 rfl ?_
        refine k_gfR i_69_52 f_11_19 (by first | rfl | assumption | (rw [hR]; rfl) | (dsimp only; rw [hR]; rfl)) (by decide) (by decide) (Or.inl ⟨_, rfl⟩) (by first | rfl | assumption | (rw [hR]; rfl) | (dsimp only; rw [hR]; rfl)) ?_
        refine k_cv0 i_69_55 c_11_96 qp_40 qo_40 (by first | rfl | assumption | (rw [hR]; rfl) | (dsimp only; rw [hR]; rfl)) (Nat.le_of_ble_eq_true rfl) e_leave (fun v S2 h => ?_)
        obtain ⟨rfl, rfl⟩ := h
        show K shX 21 69 58 _ [] _ _
        refine k_aload_n i_69_58 rfl ?_
        refine k_gfR i_69_59 f_11_19 (by first | rfl | assumption | (rw [hR]; rfl) | (dsimp only; rw [hR]; rfl)) (by decide) (by decide) (Or.inl ⟨_, rfl⟩) (by first | rfl | assumption | (rw [hR]; rfl) | (dsimp only; rw [hR]; rfl)) ?_
        refine k_iconst i_69_62 ?_
        refine k_pfZ i_69_63 f_11_99 (by first | rfl | assumption | (rw [hR]; rfl) | (dsimp only; rw [hR]; rfl)) (by decide) rfl (by first | exact bi_01 _ | omega) ?_
        refine k_aload_n i_69_66 rfl ?_
        refine k_gfR i_69_67 f_11_34 (by first | rfl | assumption | (rw [hR]; rfl) | (dsimp only; rw [hR]; rfl)) (by decide) (by decide) (Or.inl ⟨_, rfl⟩) (by first | rfl | assumption | (rw [hR]; rfl) | (dsimp only; rw [hR]; rfl)) ?_
        refine k_iconst i_69_70 ?_
        refine k_pfI i_69_71 f_11_103 (by first | rfl | assumption | (rw [hR]; rfl) | (dsimp only; rw [hR]; rfl)) (by decide) rfl ?_
        refine k_iconst i_69_74 ?_
        refine k_istore_n i_69_75 (Nat.le_of_ble_eq_true rfl) ?_
        dsimp only [q_st1, q_st2, q_unl]
        refine k_iload_n i_69_76 rfl ?_
        refine k_iconst i_69_77 ?_
        refine k_ic_ge (t := 94) i_69_78 rfl (by omega) (by omega) (fun g2 => ?_) (fun g2 => ?_)
        · omega
        · refine k_aload_n i_69_81 rfl ?_
          refine k_gfR i_69_82 f_11_27 (by first | rfl | assumption | (rw [hR]; rfl) | (dsimp only; rw [hR]; rfl)) (by decide) (by decide) (Or.inr ⟨_, rfl⟩) (by first | rfl | assumption | (rw [hR]; rfl) | (dsimp only; rw [hR]; rfl)) ?_
          refine k_iload_n i_69_85 rfl ?_
          refine k_iconst i_69_86 ?_
          refine k_zast i_69_87 rfl (by decide) (by omega) (by omega) (Or.inl rfl) ?_
          refine k_iinc i_69_88 rfl (Nat.le_of_ble_eq_true rfl) ?_
          dsimp only [q_st1, q_st2, q_unl]
          refine k_goto (t := 76) i_69_91 rfl ?_
          refine k_iload_n i_69_76 rfl ?_
          refine k_iconst i_69_77 ?_
          refine k_ic_ge (t := 94) i_69_78 rfl (by omega) (by omega) (fun g3 => ?_) (fun g3 => ?_)
          · omega
          · refine k_aload_n i_69_81 rfl ?_
            refine k_gfR i_69_82 f_11_27 (by first | rfl | assumption | (rw [hR]; rfl) | (dsimp only; rw [hR]; rfl)) (by decide) (by decide) (Or.inr ⟨_, rfl⟩) (by first | rfl | assumption | (rw [hR]; rfl) | (dsimp only; rw [hR]; rfl)) ?_
            refine k_iload_n i_69_85 rfl ?_
            refine k_iconst i_69_86 ?_
            refine k_zast i_69_87 rfl (by decide) (by omega) (by omega) (Or.inl rfl) ?_
            refine k_iinc i_69_88 rfl (Nat.le_of_ble_eq_true rfl) ?_
            dsimp only [q_st1, q_st2, q_unl]
            refine k_goto (t := 76) i_69_91 rfl ?_
            refine k_iload_n i_69_76 rfl ?_
            refine k_iconst i_69_77 ?_
            refine k_ic_ge (t := 94) i_69_78 rfl (by omega) (by omega) (fun g4 => ?_) (fun g4 => ?_)
            · refine k_iload_n i_69_94 rfl ?_
              refine k_iret i_69_95 qt_69 ?_
              have ec : ∀ c, c ≠ 1 → c ≠ 3 → c ≠ 19 → c ≠ 20 → ∀ v, v = q_up (q_up (q_up (q_up (q_up (q_up (q_up (q_up I3 1 0 0) 3 0 (-1)) 3 1 0) 3 2 0) 3 3 0) 20 0 0) 19 ((0 : Int)).toNat 0) 19 ((0 : Int) + 1).toNat 0 → v c = I3 c := by
                intro c c1 c2 c3 c4 v hv
                rw [hv, q_up_o c3, q_up_o c3, q_up_o c4, q_up_o c2, q_up_o c2, q_up_o c2, q_up_o c2, q_up_o c1]
              refine ⟨rfl, s0, h0, w0, rfl, by omega, hT2.same (ec _ (by omega) (by omega) (by omega) (by omega) _ rfl) (ec _ (by omega) (by omega) (by omega) (by omega) _ rfl) rfl, hTn.same (ec _ (by omega) (by omega) (by omega) (by omega) _ rfl), ?_, ?_, rfl, fun i hi => absurd hi (Nat.not_lt_zero i), ⟨rfl, rfl, rfl, rfl, fun i hi => absurd hi (Nat.not_lt_zero i)⟩, fun i hi => ⟨?_, fun hk => by cases hk⟩, ⟨rfl, fun e he => absurd he (Nat.not_lt_zero e)⟩, hX.mk⟩
              · refine (congrFun (ec 33 (by omega) (by omega) (by omega) (by omega) _ rfl) 0).trans ?_
                rw [hjo 33 (by omega)]
                exact hXt.z3
              · refine (congrFun (ec 34 (by omega) (by omega) (by omega) (by omega) _ rfl) 0).trans ?_
                rw [hjo 34 (by omega)]
                exact hXt.z4
              · have : i = 0 ∨ i = 1 := by omega
                rcases this with rfl | rfl <;> rfl
            · omega
      · omega
theorem t_town (hX : XI σ h0 s0 w0 I X) (hM : MI σ I2 X2) (hS : SOK σ) : Both σ h0 s0 w0 I X I2 X2 69 102 [] := by
  obtain ⟨m1, m2⟩ := m_town hM hS
  obtain ⟨x1, x2⟩ := x_town hX hS
  cases hr : pTell σ.tb σ.tl (σ.tl + 1) 0 z00 0 with
  | inl f => exact ⟨_, σ, hS, x1 f hr, m1 f hr⟩
  | inr w =>
    obtain ⟨n', z'⟩ := w
    obtain ⟨q1, q2⟩ := m2 n' z' hr
    exact ⟨_, _, SOK.anew q2, x2 n' z' hr, q1⟩
end TV
