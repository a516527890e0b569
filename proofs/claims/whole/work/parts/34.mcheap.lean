/-! CHEAPEST: the reference -/
/-- the reference, before a call that asks for ways -/
def MB (I : Nat → Nat → Int) (X : XX) (T : Tn) (nt : Int) : Prop := MT (I, X) T ∧ X.2 = rM ∧ tOK T ∧ I 2 2 = nt ∧ (nt = 0 ∨ nt = 1)
def ScM (I I' : Nat → Nat → Int) : Prop := ∀ c, c < 7 ∨ 15 < c → I' c = I c
theorem ScM.row {I : Nat → Nat → Int} {c : Nat} {f : Nat → Int} (hc : 7 ≤ c ∧ c ≤ 15) : ScM I (sr I c f) := fun c' hc' => by rw [sr_n (by omega)]
theorem ScM.trans {I I' I'' : Nat → Nat → Int} (h : ScM I I') (h' : ScM I' I'') : ScM I I'' := fun c hc => (h' c hc).trans (h c hc)
theorem ScM.rf {I : Nat → Nat → Int} : ScM I I := fun _ _ => rfl
theorem MB.scr {I I' : Nat → Nat → Int} {X : XX} {T : Tn} {nt : Int} (h : MB I X T nt) (hs : ScM I I') : MB I' X T nt := by
  obtain ⟨h1, h2, h3, h4, h5⟩ := h
  refine ⟨?_, h2, h3, by rw [hs 2 (by omega)]; exact h4, h5⟩
  unfold MT at h1 ⊢
  simp only [hs 0 (by omega)]
  exact h1
/-- the row of rests is the fixpoint -/
def mRest (I : Nat → Nat → Int) (T : Tn) (nt : Int) (el : Nat) (b : Int) : Prop := ∀ s : Int, 0 ≤ s → s < 17 * tN T → I 7 s.toNat = D T nt el b s
section MC
variable {d : Nat} {T : Tn} {I : Nat → Nat → Int} {X : XX} {nt : Int} {b : Int} {el : Nat} {Q : Option Value → QS → Prop}
theorem m_findRest' (hB : MB I X T nt) (hel : el < 2 ^ 31) (hb : 0 ≤ b ∧ b < tN T) : KC shM (d + 3) 127 [.ref 0, .int (J b), .int (J (el : Int))] (I, X) (fun r S2 => r = none ∧ ∃ I', S2 = (I', X) ∧ ScM I I' ∧ mRest I' T nt el b) := by
  obtain ⟨hT, hR, hOK, hn, h01⟩ := hB
  refine (m_findRest (S := (I, X)) hT hR hOK.1 hn h01 hel hb).mono (fun r S2 h => ?_)
  obtain ⟨h1, f, h2, h3⟩ := h
  refine ⟨h1, _, h2, ScM.row (by omega), fun s s0 s1 => ?_⟩
  show sr I 7 f 7 s.toNat = _
  rw [sr_s]
  exact fx_eq hOK.1 (by decide) (h3.fx hOK.1) (D_fx hOK.1 h01 hel hb) s0 s1
-- method 130: StraightTaxModel.isFirst.(II)Z
theorem m_isFirst (hB : MB I X T nt) (hr : mRest I T nt (tMask T 2) b) (hb : 0 ≤ b ∧ b < tN T) (s q : Int) (hs : 0 ≤ s ∧ s < 17 * tN T) (hq : 0 ≤ q ∧ q < 4) : KP shM (d + 3) 130 [.ref 0, .int (J s), .int (J q)] (I, X) (.int (J (bi (eqE T nt (tMask T 2) 1000 (D T nt (tMask T 2) b) s q)))) := by
  obtain ⟨hT, hR, hOK, hn, h01⟩ := id hB
  have hw := hOK.1
  have hN := tN_le hw
  have hm2 := tMask_lt T 2
  obtain ⟨a0, a1, a2, a3, a4, a5, a6, a7, a8⟩ := id hT
  have hmr := mRun_le s q hs.1
  have hfx := D_fx hw h01 (el := tMask T 2) (by omega) hb
  have hEr := mE_range hw (el := tMask T 2) hs hq
  have hDs := (hfx s hs.1 hs.2).1
  have k26 : ∀ e : Int, e = mE T (tMask T 2) s q → K shM (d + 3) 130 26 [some (.ref 0), some (.int (J s)), some (.int (J q)), some (.int (J (mRun s q))), none] [.int (J e)] (I, X) (fun r1 S2 => r1 = some (.int (J (bi (eqE T nt (tMask T 2) 1000 (D T nt (tMask T 2) b) s q)))) ∧ S2 = (I, X)) := by
    intro e he
    subst he
    refine k_istore i_130_26 (Nat.le_of_ble_eq_true rfl) ?_
    dsimp only [q_st1, q_st2, q_unl]
    refine k_iload i_130_28 rfl ?_
    refine k_if_lt (t := 65) i_130_30 rfl (by omega) (fun h => ?_) (fun h => ?_)
    · refine k_iconst i_130_65 ?_
      refine k_nret i_130_66 qt_130 (by first | exact bi_nar _ | rfl) ?_
      refine ⟨?_, rfl⟩
      unfold eqE
      rw [decide_eq_false (by omega)]
      rfl
    · have hDe := (hfx _ (by omega) hEr.2).1
      have hpr := tPrice4 hw (nt := nt) (mE_run (T := T) (el := tMask T 2) (s := s) (q := q) (by omega))
      refine k_aload_n i_130_33 rfl ?_
      refine k_gfR i_130_34 f_12_45 (by first | rfl | assumption | (rw [hR]; rfl) | (dsimp only; rw [hR]; rfl)) (by decide) (by decide) (Or.inr ⟨_, rfl⟩) (by first | rfl | assumption | (rw [hR]; rfl) | (dsimp only; rw [hR]; rfl)) ?_
      refine k_iload i_130_37 rfl ?_
      refine k_iald i_130_39 rfl (by decide) (by omega) (by omega) ?_
      rw [show (I, X).1 7 (mE T (tMask T 2) s q).toNat = D T nt (tMask T 2) b (mE T (tMask T 2) s q) from hr _ (by omega) hEr.2]
      refine k_sipush i_130_40 (by decide) ?_
      refine k_aload_n i_130_43 rfl ?_
      refine k_iload_n i_130_44 rfl ?_
      refine k_vp1 i_130_45 c_12_194 qp_120 qo_120 (by first | rfl | assumption | (rw [hR]; rfl) | (dsimp only; rw [hR]; rfl)) (Nat.le_of_ble_eq_true rfl) (m_priceOf hT hR hw _ nt hn (by omega) h01) ?_
      refine k_imul i_130_48 ?_
      refine k_iadd i_130_49 ?_
      refine k_iconst i_130_50 ?_
      refine k_iadd i_130_51 ?_
      refine k_aload_n i_130_52 rfl ?_
      refine k_gfR i_130_53 f_12_45 (by first | rfl | assumption | (rw [hR]; rfl) | (dsimp only; rw [hR]; rfl)) (by decide) (by decide) (Or.inr ⟨_, rfl⟩) (by first | rfl | assumption | (rw [hR]; rfl) | (dsimp only; rw [hR]; rfl)) ?_
      refine k_iload_n i_130_56 rfl ?_
      refine k_iald i_130_57 rfl (by decide) (by omega) (by omega) ?_
      rw [show (I, X).1 7 s.toNat = D T nt (tMask T 2) b s from hr _ hs.1 hs.2]
      refine k_ic_ne (t := 65) i_130_58 rfl (by omega) (by omega) (fun g => ?_) (fun g => ?_)
      · refine k_iconst i_130_65 ?_
        refine k_nret i_130_66 qt_130 (by first | exact bi_nar _ | rfl) ?_
        refine ⟨?_, rfl⟩
        unfold eqE
        rw [decide_eq_false (by omega)]
        rfl
      · refine k_iconst i_130_61 ?_
        refine k_goto (t := 66) i_130_62 rfl ?_
        refine k_nret i_130_66 qt_130 (by first | exact bi_nar _ | rfl) ?_
        refine ⟨?_, rfl⟩
        unfold eqE
        rw [decide_eq_true (by omega)]
        rfl
  refine k_start ql_130 (Nat.le_of_ble_eq_true rfl) ?_
  simp only [q_en, List.replicate]
  refine k_aload_n i_130_0 rfl ?_
  refine k_iload_n i_130_1 rfl ?_
  refine k_iload_n i_130_2 rfl ?_
  refine k_vp2 i_130_3 c_12_203 qp_128 qo_128 (by first | rfl | assumption | (rw [hR]; rfl) | (dsimp only; rw [hR]; rfl)) (Nat.le_of_ble_eq_true rfl) (m_runBehind _ _ (by omega) (by omega)) ?_
  refine k_istore_n i_130_6 (Nat.le_of_ble_eq_true rfl) ?_
  dsimp only [q_st1, q_st2, q_unl]
  refine k_iload_n i_130_7 rfl ?_
  refine k_iconst i_130_8 ?_
  refine k_ic_le (t := 16) i_130_9 rfl (by omega) (by omega) (fun g => ?_) (fun g => ?_)
  · refine k_aload_n i_130_16 rfl ?_
    refine k_iload_n i_130_17 rfl ?_
    refine k_iload_n i_130_18 rfl ?_
    refine k_aload_n i_130_19 rfl ?_
    refine k_gfI i_130_20 f_12_167 (by first | rfl | assumption | (rw [hR]; rfl) | (dsimp only; rw [hR]; rfl)) (by decide) (by decide) (Or.inl rfl) ?_
    rw [show (I, X).1 0 3 = (tMask T 2 : Int) from a3]
    refine k_vp3 i_130_23 c_12_206 qp_129 qo_129 (by first | rfl | assumption | (rw [hR]; rfl) | (dsimp only; rw [hR]; rfl)) (Nat.le_of_ble_eq_true rfl) (m_onward hT hw (by omega) _ _ hs hq) ?_
    exact k26 _ (by unfold mE; rw [if_neg (by omega)])
  · refine k_iconst i_130_12 ?_
    refine k_goto (t := 26) i_130_13 rfl ?_
    exact k26 _ (by unfold mE; rw [if_pos (by omega)])
-- method 125: StraightTaxModel.cheapest.(III)I
theorem l_mch_d (hB : MB I X T nt) (hr : mRest I T nt (tMask T 2) b) (hb : 0 ≤ b ∧ b < tN T) (a i s kk st : Int) (hs : 0 ≤ s ∧ s < 17 * tN T) (hsb : s / 17 ≠ b) (hF : D T nt (tMask T 2) b s < 100000000)
    (hk : K shM (d + 4) 125 130 [some (.ref 0), some (.int (J a)), some (.int (J b)), some (.int (J i)), some (.int (J s)), some (.int (J st)), some (.int (J (fD T nt (tMask T 2) 1000 (D T nt (tMask T 2) b) s))), some (.int (J kk))] [] (I, X) Q) :
    ∀ (m k : Nat), k + m = 4 → (k : Int) ≤ fD T nt (tMask T 2) 1000 (D T nt (tMask T 2) b) s → K shM (d + 4) 125 113 [some (.ref 0), some (.int (J a)), some (.int (J b)), some (.int (J i)), some (.int (J s)), some (.int (J st)), some (.int (J (k : Int))), some (.int (J kk))] [] (I, X) Q := by
  have hw := hB.2.2.1.1
  have h01 := hB.2.2.2.2
  have hm2 := tMask_lt T 2
  have hfx := D_fx hw h01 (el := tMask T 2) (by omega) hb
  have hfr := fst4_range (eqE T nt (tMask T 2) 1000 (D T nt (tMask T 2) b) s)
  have hex : ∃ q : Int, (0 ≤ q ∧ q < 4) ∧ eqE T nt (tMask T 2) 1000 (D T nt (tMask T 2) b) s q = true := by
    obtain ⟨q, p1, p2, p3⟩ := (hfx s hs.1 hs.2).2.2.2.2 hsb hF
    exact ⟨q, p1, decide_eq_true ⟨p2, p3⟩⟩
  have hfi := fst4_is hex
  intro m
  induction m with
  | zero => intro k hk4 hle; unfold fD at hle; omega
  | succ m ih =>
    intro k hk4 hle
    have hq : (0 : Int) ≤ (k : Int) ∧ (k : Int) < 4 := by unfold fD at hle; omega
    refine k_aload_n i_125_113 rfl ?_
    refine k_iload i_125_114 rfl ?_
    refine k_iload i_125_116 rfl ?_
    refine k_vp2 i_125_118 c_12_217 qp_130 qo_130 (by first | rfl | assumption | (rw [hR]; rfl) | (dsimp only; rw [hR]; rfl)) (Nat.le_of_ble_eq_true rfl) (m_isFirst hB hr hb s k hs hq) ?_
    refine k_if_neB (t := 130) i_125_121 rfl (fun h => ?_) (fun h => ?_)
    · have hkf : (k : Int) = fD T nt (tMask T 2) 1000 (D T nt (tMask T 2) b) s := by
        by_cases z : (k : Int) < fD T nt (tMask T 2) 1000 (D T nt (tMask T 2) b) s
        · have := hfi.2 k hq.1 z
          rw [h] at this
          cases this
        · omega
      rw [hkf]
      exact hk
    · refine k_iinc i_125_124 rfl (Nat.le_of_ble_eq_true rfl) ?_
      dsimp only [q_st1, q_st2, q_unl]
      refine k_goto (t := 113) i_125_127 rfl ?_
      refine ih (k + 1) (by omega) ?_
      have hne : (k : Int) ≠ fD T nt (tMask T 2) 1000 (D T nt (tMask T 2) b) s := by
        intro z
        have z1 := hfi.1
        have z2 : fst4 (eqE T nt (tMask T 2) 1000 (D T nt (tMask T 2) b) s) = (k : Int) := z.symm
        rw [z2, h] at z1
        cases z1
      omega
theorem pS_M {T : Tn} (hw : tWF T) {nt : Int} (h01 : nt = 0 ∨ nt = 1) {b : Int} (hb : 0 ≤ b ∧ b < tN T) {a : Int} (ha : 0 ≤ a ∧ a < tN T) (hF : D T nt (tMask T 2) b (17 * a + 16) < 100000000) : ∀ k : Nat, (k : Int) ≤ D T nt (tMask T 2) b (17 * a + 16) % 1000 → (0 ≤ pS T nt (tMask T 2) 1000 (D T nt (tMask T 2) b) (17 * a + 16) k ∧ pS T nt (tMask T 2) 1000 (D T nt (tMask T 2) b) (17 * a + 16) k < 17 * tN T) ∧ D T nt (tMask T 2) b (pS T nt (tMask T 2) 1000 (D T nt (tMask T 2) b) (17 * a + 16) k) < 100000000 ∧ D T nt (tMask T 2) b (pS T nt (tMask T 2) 1000 (D T nt (tMask T 2) b) (17 * a + 16) k) % 1000 = D T nt (tMask T 2) b (17 * a + 16) % 1000 - k := by
  have hm2 := tMask_lt T 2
  have hfx := D_fx hw h01 (el := tMask T 2) (by omega) hb
  intro k
  induction k with
  | zero => intro _; exact ⟨by show 0 ≤ 17 * a + 16 ∧ 17 * a + 16 < _; omega, hF, by show _ = _ - ((0 : Nat) : Int); simp [pS]⟩
  | succ k ih =>
    intro hk
    obtain ⟨g1, g2, g3⟩ := ih (by omega)
    have hcb : pS T nt (tMask T 2) 1000 (D T nt (tMask T 2) b) (17 * a + 16) k / 17 ≠ b := by
      intro z
      have := (hfx _ g1.1 g1.2).2.1 z
      rw [this] at g3
      omega
    have hex : ∃ q : Int, (0 ≤ q ∧ q < 4) ∧ eqE T nt (tMask T 2) 1000 (D T nt (tMask T 2) b) (pS T nt (tMask T 2) 1000 (D T nt (tMask T 2) b) (17 * a + 16) k) q = true := by
      obtain ⟨q, p1, p2, p3⟩ := (hfx _ g1.1 g1.2).2.2.2.2 hcb g2
      exact ⟨q, p1, decide_eq_true ⟨p2, p3⟩⟩
    have hfi := of_decide_eq_true (fst4_is hex).1
    have hfr := fst4_range (eqE T nt (tMask T 2) 1000 (D T nt (tMask T 2) b) (pS T nt (tMask T 2) 1000 (D T nt (tMask T 2) b) (17 * a + 16) k))
    have hr2 := mE_range hw (el := tMask T 2) g1 hfr
    have hpr := tPrice4 hw (nt := nt) (mE_run hfi.1)
    have hv := (hfx _ hfi.1 hr2.2).1
    refine ⟨⟨hfi.1, hr2.2⟩, ?_, ?_⟩
    · show D T nt (tMask T 2) b (mE T (tMask T 2) _ (fst4 _)) < 100000000
      omega
    · show D T nt (tMask T 2) b (mE T (tMask T 2) _ (fst4 _)) % 1000 = _
      omega
theorem l_mch (hB : MB I X T nt) (hr : mRest I T nt (tMask T 2) b) (hb : 0 ≤ b ∧ b < tN T) (a : Int) (ha : 0 ≤ a ∧ a < tN T) (i : Nat) (st : Int) (hF : D T nt (tMask T 2) b (17 * a + 16) < 100000000) (hi : (i : Int) < D T nt (tMask T 2) b (17 * a + 16) % 1000) (hq : Q (some (.int (J (fD T nt (tMask T 2) 1000 (D T nt (tMask T 2) b) (pS T nt (tMask T 2) 1000 (D T nt (tMask T 2) b) (17 * a + 16) i))))) (I, X)) : ∀ (m k : Nat) (x6 : Int), k + m = i + 1 → (∀ j : Nat, k = j + 1 → x6 = fD T nt (tMask T 2) 1000 (D T nt (tMask T 2) b) (pS T nt (tMask T 2) 1000 (D T nt (tMask T 2) b) (17 * a + 16) j)) → K shM (d + 4) 125 104 [some (.ref 0), some (.int (J a)), some (.int (J b)), some (.int (J (i : Int))), some (.int (J (pS T nt (tMask T 2) 1000 (D T nt (tMask T 2) b) (17 * a + 16) k))), some (.int (J st)), some (.int (J x6)), some (.int (J (k : Int)))] [] (I, X) Q := by
  obtain ⟨hT, hR, hOK, hn, h01⟩ := id hB
  obtain ⟨a0, a1, a2, a3, a4, a5, a6, a7, a8⟩ := id hT
  have hw := hOK.1
  have hN := tN_le hw
  have hm2 := tMask_lt T 2
  have hfx := D_fx hw h01 (el := tMask T 2) (by omega) hb
  have h323 : D T nt (tMask T 2) b (17 * a + 16) % 1000 < 1000 := Int.emod_lt_of_pos _ (by omega)
  intro m
  induction m with
  | zero =>
    intro k x6 hk hx
    refine k_iload i_125_104 rfl ?_
    refine k_iload_n i_125_106 rfl ?_
    refine k_ic_gt (t := 150) i_125_107 rfl (by omega) (by omega) (fun h => ?_) (fun h => ?_)
    · refine k_iload i_125_150 rfl ?_
      refine k_iret i_125_152 qt_125 ?_
      rw [hx i (by omega)]
      exact hq
    · omega
  | succ m ih =>
    intro k x6 hk hx
    obtain ⟨g1, g2, g3⟩ := pS_M hw h01 hb ha hF k (by omega)
    have hcb : pS T nt (tMask T 2) 1000 (D T nt (tMask T 2) b) (17 * a + 16) k / 17 ≠ b := by
      intro z
      have := (hfx _ g1.1 g1.2).2.1 z
      rw [this] at g3
      omega
    have hfr : 0 ≤ fD T nt (tMask T 2) 1000 (D T nt (tMask T 2) b) (pS T nt (tMask T 2) 1000 (D T nt (tMask T 2) b) (17 * a + 16) k) ∧ fD T nt (tMask T 2) 1000 (D T nt (tMask T 2) b) (pS T nt (tMask T 2) 1000 (D T nt (tMask T 2) b) (17 * a + 16) k) < 4 := fst4_range _
    refine k_iload i_125_104 rfl ?_
    refine k_iload_n i_125_106 rfl ?_
    refine k_ic_gt (t := 150) i_125_107 rfl (by omega) (by omega) (fun h => ?_) (fun h => ?_)
    · omega
    · refine k_iconst i_125_110 ?_
      refine k_istore i_125_111 (Nat.le_of_ble_eq_true rfl) ?_
      dsimp only [q_st1, q_st2, q_unl]
      refine l_mch_d hB hr hb a i _ k st g1 hcb g2 ?_ 4 0 (by omega) hfr.1
      refine k_aload_n i_125_130 rfl ?_
      refine k_iload i_125_131 rfl ?_
      refine k_iload i_125_133 rfl ?_
      refine k_aload_n i_125_135 rfl ?_
      refine k_gfI i_125_136 f_12_167 (by first | rfl | assumption | (rw [hR]; rfl) | (dsimp only; rw [hR]; rfl)) (by decide) (by decide) (Or.inl rfl) ?_
      rw [show (I, X).1 0 3 = (tMask T 2 : Int) from a3]
      refine k_vp3 i_125_139 c_12_206 qp_129 qo_129 (by first | rfl | assumption | (rw [hR]; rfl) | (dsimp only; rw [hR]; rfl)) (Nat.le_of_ble_eq_true rfl) (m_onward (d := d + 1) hT hw (by omega) _ _ g1 hfr) ?_
      refine k_istore i_125_142 (Nat.le_of_ble_eq_true rfl) ?_
      dsimp only [q_st1, q_st2, q_unl]
      refine k_iinc i_125_144 rfl (Nat.le_of_ble_eq_true rfl) ?_
      dsimp only [q_st1, q_st2, q_unl]
      refine k_goto (t := 104) i_125_147 rfl ?_
      have h4 := ih (k + 1) _ (by omega) (fun j hj => by rw [show j = k by omega])
      rw [show pS T nt (tMask T 2) 1000 (D T nt (tMask T 2) b) (17 * a + 16) (k + 1) = mOn T (tMask T 2) (pS T nt (tMask T 2) 1000 (D T nt (tMask T 2) b) (17 * a + 16) k) (fD T nt (tMask T 2) 1000 (D T nt (tMask T 2) b) (pS T nt (tMask T 2) 1000 (D T nt (tMask T 2) b) (17 * a + 16) k)) from by
        have hex : ∃ q : Int, (0 ≤ q ∧ q < 4) ∧ eqE T nt (tMask T 2) 1000 (D T nt (tMask T 2) b) (pS T nt (tMask T 2) 1000 (D T nt (tMask T 2) b) (17 * a + 16) k) q = true := by
          obtain ⟨q, p1, p2, p3⟩ := (hfx _ g1.1 g1.2).2.2.2.2 hcb g2
          exact ⟨q, p1, decide_eq_true ⟨p2, p3⟩⟩
        have hfi := of_decide_eq_true (fst4_is hex).1
        have hrn := mE_run hfi.1
        show mE T _ _ _ = _
        unfold mE
        rw [if_neg (by unfold fD; omega)]] at h4
      exact h4
theorem m_cheapest (hB : MB I X T nt) (a b i : Int) (ha : inJ a) (hb : inJ b) (hi : inJ i) : KC shM (d + 4) 125 [.ref 0, .int (J a), .int (J b), .int (J i)] (I, X) (fun r S2 => r = some (.int (J (Fch T nt a b i))) ∧ ∃ I', S2 = (I', X) ∧ ScM I I') := by
  obtain ⟨hT, hR, hOK, hn, h01⟩ := id hB
  obtain ⟨a0, a1, a2, a3, a4, a5, a6, a7, a8⟩ := id hT
  have hw := hOK.1
  have hN := tN_le hw
  have hm2 := tMask_lt T 2
  refine k_start ql_125 (Nat.le_of_ble_eq_true rfl) ?_
  simp only [q_en, List.replicate]
  refine k_aload_n i_125_0 rfl ?_
  refine k_iload_n i_125_1 rfl ?_
  refine k_iload_n i_125_2 rfl ?_
  refine k_vp2 i_125_3 c_12_210 qp_126 qo_126 (by first | rfl | assumption | (rw [hR]; rfl) | (dsimp only; rw [hR]; rfl)) (Nat.le_of_ble_eq_true rfl) (m_areOpen hT hw _ _ ha hb) ?_
  refine k_if_eqB (t := 15) i_125_6 rfl (fun h => ?_) (fun h => ?_)
  · refine k_iconst i_125_15 ?_
    refine k_iret i_125_16 qt_125 ?_
    refine ⟨?_, I, rfl, ScM.rf⟩
    unfold Fch
    rw [if_neg (by rw [h]; simp)]
  · have ho : tOpen T a = true ∧ tOpen T b = true := by simpa using h
    have har := open_lt ho.1
    have hbr := open_lt ho.2
    have hfx := D_fx hw h01 (el := tMask T 2) (by omega) hbr
    have hDr := (hfx (17 * a + 16) (by omega) (by omega)).1
    refine k_iload_n i_125_9 rfl ?_
    refine k_bipush i_125_10 (by decide) ?_
    refine k_ic_ge (t := 17) i_125_12 rfl (by omega) (by omega) (fun g => ?_) (fun g => ?_)
    · have cond : (tOpen T a && tOpen T b) = true ∧ -2 ≤ i := ⟨by rw [ho.1, ho.2]; rfl, by omega⟩
      refine k_aload_n i_125_17 rfl ?_
      refine k_iload_n i_125_18 rfl ?_
      refine k_aload_n i_125_19 rfl ?_
      refine k_gfI i_125_20 f_12_167 (by first | rfl | assumption | (rw [hR]; rfl) | (dsimp only; rw [hR]; rfl)) (by decide) (by decide) (Or.inl rfl) ?_
      rw [show (I, X).1 0 3 = (tMask T 2 : Int) from a3]
      refine k_cv2 i_125_23 c_12_213 qp_127 qo_127 (by first | rfl | assumption | (rw [hR]; rfl) | (dsimp only; rw [hR]; rfl)) (Nat.le_of_ble_eq_true rfl) (m_findRest' hB (by omega) hbr) (fun v S2 h => ?_)
      obtain ⟨rfl, I1, rfl, hS1, hr⟩ := h
      show K shM (d + 4) 125 26 _ [] _ _
      have hB1 := hB.scr hS1
      refine k_bipush i_125_26 (by decide) ?_
      refine k_iload_n i_125_28 rfl ?_
      refine k_imul i_125_29 ?_
      refine k_bipush i_125_30 (by decide) ?_
      refine k_iadd i_125_32 ?_
      refine k_istore i_125_33 (Nat.le_of_ble_eq_true rfl) ?_
      dsimp only [q_st1, q_st2, q_unl]
      refine k_aload_n i_125_35 rfl ?_
      refine k_gfR i_125_36 f_12_45 (by first | rfl | assumption | (rw [hR]; rfl) | (dsimp only; rw [hR]; rfl)) (by decide) (by decide) (Or.inr ⟨_, rfl⟩) (by first | rfl | assumption | (rw [hR]; rfl) | (dsimp only; rw [hR]; rfl)) ?_
      refine k_iload i_125_39 rfl ?_
      refine k_iald i_125_41 rfl (by decide) (by omega) (by omega) ?_
      rw [show (I1, X).1 7 (17 * a + 16).toNat = D T nt (tMask T 2) b (17 * a + 16) from hr _ (by omega) (by omega)]
      refine k_ldc (a := 100000000) i_125_42 n_12_202 (by decide) ?_
      refine k_ic_lt (t := 50) i_125_44 rfl (by omega) (by omega) (fun g2 => ?_) (fun g2 => ?_)
      · refine k_aload_n i_125_50 rfl ?_
        refine k_gfR i_125_51 f_12_45 (by first | rfl | assumption | (rw [hR]; rfl) | (dsimp only; rw [hR]; rfl)) (by decide) (by decide) (Or.inr ⟨_, rfl⟩) (by first | rfl | assumption | (rw [hR]; rfl) | (dsimp only; rw [hR]; rfl)) ?_
        refine k_iload i_125_54 rfl ?_
        refine k_iald i_125_56 rfl (by decide) (by omega) (by omega) ?_
        rw [show (I1, X).1 7 (17 * a + 16).toNat = D T nt (tMask T 2) b (17 * a + 16) from hr _ (by omega) (by omega)]
        refine k_sipush i_125_57 (by decide) ?_
        refine k_irem i_125_60 (by omega) (by omega) (by omega) (by omega) ?_
        refine k_istore i_125_61 (Nat.le_of_ble_eq_true rfl) ?_
        dsimp only [q_st1, q_st2, q_unl]
        refine k_iload_n i_125_63 rfl ?_
        unfold Fch
        rw [if_pos cond, if_pos g2]
        refine k_if_ge (t := 89) i_125_64 rfl (by omega) (fun g3 => ?_) (fun g3 => ?_)
        · rw [if_neg (by omega), if_neg (by omega)]
          refine k_iload_n i_125_89 rfl ?_
          refine k_iload i_125_90 rfl ?_
          refine k_ic_lt (t := 98) i_125_92 rfl (by omega) (by omega) (fun g4 => ?_) (fun g4 => ?_)
          · rw [if_pos g4]
            refine k_iconst i_125_98 ?_
            refine k_istore i_125_99 (Nat.le_of_ble_eq_true rfl) ?_
            dsimp only [q_st1, q_st2, q_unl]
            refine k_iconst i_125_101 ?_
            refine k_istore i_125_102 (Nat.le_of_ble_eq_true rfl) ?_
            dsimp only [q_st1, q_st2, q_unl]
            have hl := l_mch (d := d) hB1 hr hbr a har i.toNat (D T nt (tMask T 2) b (17 * a + 16) % 1000) g2 (by omega) (Q := fun r S2 => r = some (.int (J (fD T nt (tMask T 2) 1000 (D T nt (tMask T 2) b) (pS T nt (tMask T 2) 1000 (D T nt (tMask T 2) b) (17 * a + 16) i.toNat)))) ∧ ∃ I', S2 = (I', X) ∧ ScM I I') ⟨rfl, I1, rfl, hS1⟩ (i.toNat + 1) 0 0 (by omega) (fun j hj => by omega)
            rw [show ((i.toNat : Nat) : Int) = i by omega] at hl
            exact hl
          · rw [if_neg g4]
            refine k_bipush i_125_95 (by decide) ?_
            refine k_iret i_125_97 qt_125 ?_
            exact ⟨rfl, I1, rfl, hS1⟩
        · refine k_iload_n i_125_67 rfl ?_
          refine k_iconst i_125_68 ?_
          refine k_ic_ne (t := 77) i_125_69 rfl (by omega) (by omega) (fun g4 => ?_) (fun g4 => ?_)
          · refine k_aload_n i_125_77 rfl ?_
            refine k_gfR i_125_78 f_12_45 (by first | rfl | assumption | (rw [hR]; rfl) | (dsimp only; rw [hR]; rfl)) (by decide) (by decide) (Or.inr ⟨_, rfl⟩) (by first | rfl | assumption | (rw [hR]; rfl) | (dsimp only; rw [hR]; rfl)) ?_
            refine k_iload i_125_81 rfl ?_
            refine k_iald i_125_83 rfl (by decide) (by omega) (by omega) ?_
            rw [show (I1, X).1 7 (17 * a + 16).toNat = D T nt (tMask T 2) b (17 * a + 16) from hr _ (by omega) (by omega)]
            refine k_sipush i_125_84 (by decide) ?_
            refine k_idiv i_125_87 (by omega) (by omega) (by omega) (by omega) ?_
            refine k_iret i_125_88 qt_125 ?_
            exact ⟨by rw [if_pos (by omega)], I1, rfl, hS1⟩
          · refine k_iload i_125_72 rfl ?_
            refine k_goto (t := 88) i_125_74 rfl ?_
            refine k_iret i_125_88 qt_125 ?_
            exact ⟨by rw [if_neg (by omega), if_pos (by omega)], I1, rfl, hS1⟩
      · refine k_bipush i_125_47 (by decide) ?_
        refine k_iret i_125_49 qt_125 ?_
        refine ⟨?_, I1, rfl, hS1⟩
        unfold Fch
        rw [if_pos cond, if_neg g2]
    · refine k_iconst i_125_15 ?_
      refine k_iret i_125_16 qt_125 ?_
      refine ⟨?_, I, rfl, ScM.rf⟩
      unfold Fch
      rw [if_neg (by omega)]
end MC
