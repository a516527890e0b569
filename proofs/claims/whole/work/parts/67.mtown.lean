/-! READING: the reference, whole -/
def MG (I I' : Nat → Nat → Int) : Prop := (∀ c, c ≠ 0 → c ≠ 6 → I' c = I c) ∧ (∀ k, k < 17 → I' 0 k = I 0 k)
theorem MFr.g {I I' : Nat → Nat → Int} (h : MFr I I') : MG I I' := ⟨h.1, h.2.1⟩
theorem MG.tr {I I1 I2 : Nat → Nat → Int} (h : MG I I1) (h2 : MG I1 I2) : MG I I2 := ⟨fun c h3 h4 => (h2.1 c h3 h4).trans (h.1 c h3 h4), fun k hk => (h2.2 k hk).trans (h.2 k hk)⟩
theorem MG.rf {I : Nat → Nat → Int} : MG I I := ⟨fun _ _ _ => rfl, fun _ _ => rfl⟩
theorem MG.up {I : Nat → Nat → Int} {k : Nat} {v : Int} (hk : 17 ≤ k) : MG I (q_up I 0 k v) := ⟨fun c hc _ => q_up_o hc, fun k2 h2 => q_up_n (by omega)⟩
theorem MG.up6 {I : Nat → Nat → Int} {k : Nat} {v : Int} : MG I (q_up I 6 k v) := ⟨fun c _ hc => q_up_o hc, fun k2 h2 => q_up_n (by omega)⟩
theorem MC.ofG {I I' : Nat → Nat → Int} {b : Nat → Int} {L : Nat} (h : MC I b L) (he : MG I I') : MC I' b L := by
  obtain ⟨h1, h2, h3, h4⟩ := h
  exact ⟨(he.2 10 (by omega)).trans h1, h2, h3, by rw [he.1 1 (by omega) (by omega)]; exact h4⟩
theorem kP_2 {b : Nat → Int} {L p : Nat} : kP b L p = 2 ↔ skp b L p < L ∧ b (skp b L p) = 59 := by
  constructor
  · exact fun h => kQ_2 h
  · rintro ⟨h1, h2⟩
    unfold kP kQ
    rw [if_neg (by omega), if_pos h2]
section MI2
variable {d : Nat} {I : Nat → Nat → Int} {X : XX} {b : Nat → Int} {L q p n : Nat} {z : Zt}
-- method 104: StraightTaxModel.takeItem.()V
theorem m_item (hR : X.2 = rM) (hC : MC I b L) (hP : MP I z) (hz : ZOK n z) (hn : I 0 23 = (n : Int)) (hn2 : n ≤ 1000) (hq : I 0 24 = (q : Int)) (hqL : q < L) (hf : I 0 25 = -9) : KC shM (d + 3) 104 [.ref 0] (I, X) (fun r S2 => r = none ∧ ∃ I', S2 = (I', X) ∧ MG I I' ∧ I' 0 23 = ((n + 1 : Nat) : Int) ∧ MRes I' (pItem b L n z q)) := by
  have hL := hC.2.1
  have hwr := wdE_r b (L := L) (q := q) (by omega)
  have hHr := wH_r (b := b) (L := L) (q := q) (by omega)
  have hiff : ∀ {y : Nat}, y < 6 → (wH b L q = wC y ↔ isW y b q (wdE b L q) = true) := fun hy => wH_iff (by omega) hy
  obtain ⟨v0, v1, v2, v3, v4, v5⟩ := wC_val
  have e1 := eP_r (b := b) hwr.2
  have e2 := eP_r (b := b) e1.2
  have k0 := skp_r b hwr.2
  have k1 := skp_r b e1.2
  have k2 := skp_r b e2.2
  -- the end of an item
  have fin : ∀ I1 : Nat → Nat → Int, MFr I I1 → MRes I1 (pBody b L n z q) → K shM (d + 3) 104 210 [some (.ref 0), some (.int (J (q : Int))), some (.long (JL (wH b L q))), none] [] (I1, X) (fun r S2 => r = none ∧ ∃ I', S2 = (I', X) ∧ MG I I' ∧ I' 0 23 = ((n + 1 : Nat) : Int) ∧ MRes I' (pItem b L n z q)) := by
    intro I1 mf hres
    have hn1 : I1 0 23 = (n : Int) := mf.2.2.trans hn
    have last : ∀ (I2 : Nat → Nat → Int), MFr I I2 → ((∃ f : Nat, pItem b L n z q = .inl f ∧ f ≤ 200 ∧ I2 0 25 = (f : Int)) ∨ (∃ z' p', pItem b L n z q = .inr (z', p') ∧ MP I2 z' ∧ I2 0 24 = ((p' : Nat) : Int) - 1 ∧ I2 0 25 = -9)) → K shM (d + 3) 104 246 [some (.ref 0), some (.int (J (q : Int))), some (.long (JL (wH b L q))), none] [] (I2, X) (fun r S2 => r = none ∧ ∃ I', S2 = (I', X) ∧ MG I I' ∧ I' 0 23 = ((n + 1 : Nat) : Int) ∧ MRes I' (pItem b L n z q)) := by
      intro I2 mf2 hh
      have hn3 : I2 0 23 = (n : Int) := mf2.2.2.trans hn
      refine k_aload_n i_104_246 rfl ?_
      first | refine k_dupA i_104_247 ?_ | refine k_dupI i_104_247 ?_
      refine k_gfI i_104_248 f_12_94 (by first | rfl | assumption | (rw [hR]; rfl) | (dsimp only; rw [hR]; rfl)) (by decide) (by decide) (Or.inl rfl) ?_
      refine k_iconst i_104_251 ?_
      refine k_iadd i_104_252 ?_
      refine k_pfI i_104_253 f_12_94 (by first | rfl | assumption | (rw [hR]; rfl) | (dsimp only; rw [hR]; rfl)) (by decide) rfl ?_
      refine k_aload_n i_104_256 rfl ?_
      first | refine k_dupA i_104_257 ?_ | refine k_dupI i_104_257 ?_
      refine k_gfV (a := (n : Int)) i_104_258 f_12_144 (by first | rfl | assumption | (rw [hR]; rfl) | (dsimp only; rw [hR]; rfl)) (by decide) (by decide) (Or.inl rfl) (by dsimp only; exact (q_up_n (by omega)).trans hn3) ?_
      refine k_iconst i_104_261 ?_
      refine k_iadd i_104_262 ?_
      refine k_pfI i_104_263 f_12_144 (by first | rfl | assumption | (rw [hR]; rfl) | (dsimp only; rw [hR]; rfl)) (by decide) rfl ?_
      refine k_vret i_104_266 qt_104 ?_
      refine ⟨rfl, q_up (q_up I2 0 24 (I2 0 24 + 1)) 0 23 ((n : Int) + 1), rfl, (mf2.g.tr (MG.up (by omega))).tr (MG.up (by omega)), ?_, ?_⟩
      · rw [q_up_s]; omega
      · rcases hh with ⟨f, h1, h2, h3⟩ | ⟨z', p', h1, h2, h3, h4⟩
        · exact Or.inl ⟨f, h1, h2, (q_up_n (by omega)).trans ((q_up_n (by omega)).trans h3)⟩
        · refine Or.inr ⟨z', p', h1, (h2.up (by omega)).up (by omega), ?_, (q_up_n (by omega)).trans ((q_up_n (by omega)).trans h4)⟩
          refine (q_up_n (by omega)).trans (q_up_s.trans ?_)
          omega
    rcases hres with ⟨f, h1, h2, h3⟩ | ⟨z', p', h1, h2, h3, h4⟩
    · refine k_aload_n i_104_210 rfl ?_
      refine k_gfV (a := (f : Int)) i_104_211 f_12_97 (by first | rfl | assumption | (rw [hR]; rfl) | (dsimp only; rw [hR]; rfl)) (by decide) (by decide) (Or.inl rfl) (h3) ?_
      refine k_if_ge (t := 246) i_104_214 rfl (by omega) (fun g => ?_) (fun g => ?_)
      · refine last I1 mf (Or.inl ⟨f, ?_, h2, h3⟩)
        unfold pItem
        rw [h1]
      · omega
    · obtain ⟨o1, o2, o3⟩ := pBody_ok hz (by omega) h1
      dsimp only at o2 o3
      have hs3 := skp_r b o3
      have flt : ¬ kP b L p' = 2 → K shM (d + 3) 104 238 [some (.ref 0), some (.int (J (q : Int))), some (.long (JL (wH b L q))), none] [] (q_up I1 0 24 ((skp b L p' : Nat) : Int), X) (fun r S2 => r = none ∧ ∃ I', S2 = (I', X) ∧ MG I I' ∧ I' 0 23 = ((n + 1 : Nat) : Int) ∧ MRes I' (pItem b L n z q)) := by
        intro h5
        refine k_aload_n i_104_238 rfl ?_
        refine k_aload_n i_104_239 rfl ?_
        refine k_gfV (a := ((skp b L p' : Nat) : Int)) i_104_240 f_12_94 (by first | rfl | assumption | (rw [hR]; rfl) | (dsimp only; rw [hR]; rfl)) (by decide) (by decide) (Or.inl rfl) (by dsimp only; exact q_up_s) ?_
        refine k_pfI i_104_243 f_12_97 (by first | rfl | assumption | (rw [hR]; rfl) | (dsimp only; rw [hR]; rfl)) (by decide) rfl ?_
        refine last _ ((mf.tr (MFr.up (by omega))).tr (MFr.up (by omega))) (Or.inl ⟨skp b L p', ?_, by omega, q_up_s⟩)
        unfold pItem
        rw [h1]
        unfold pStop
        dsimp only
        rw [if_neg h5]
      refine k_aload_n i_104_210 rfl ?_
      refine k_gfV (a := (-9)) i_104_211 f_12_97 (by first | rfl | assumption | (rw [hR]; rfl) | (dsimp only; rw [hR]; rfl)) (by decide) (by decide) (Or.inl rfl) (h4) ?_
      refine k_if_ge (t := 246) i_104_214 rfl (by omega) (fun g => ?_) (fun g => ?_)
      · omega
      · refine k_aload_n i_104_217 rfl ?_
        refine k_cv0 i_104_218 c_12_100 qp_103 qo_103 (by first | rfl | assumption | (rw [hR]; rfl) | (dsimp only; rw [hR]; rfl)) (Nat.le_of_ble_eq_true rfl) (m_isEnd hR (hC.of mf) h3 o3) (fun v S2 h => ?_)
        obtain ⟨rfl, rfl⟩ := h
        show K shM (d + 3) 104 221 _ [.int (J (bi (decide (L ≤ skp b L p'))))] _ _
        refine k_if_neB (t := 238) i_104_221 rfl (fun h => ?_) (fun h => ?_)
        · refine flt (fun y => ?_)
          have := kP_2.mp y
          have g2 : L ≤ skp b L p' := by simpa using h
          omega
        · have g2 : skp b L p' < L := by simpa using h
          refine k_aload_n i_104_224 rfl ?_
          refine k_gfR i_104_225 f_12_25 (by first | rfl | assumption | (rw [hR]; rfl) | (dsimp only; rw [hR]; rfl)) (by decide) (by decide) (Or.inr ⟨_, rfl⟩) (by first | rfl | assumption | (rw [hR]; rfl) | (dsimp only; rw [hR]; rfl)) ?_
          refine k_aload_n i_104_228 rfl ?_
          refine k_gfV (a := ((skp b L p' : Nat) : Int)) i_104_229 f_12_94 (by first | rfl | assumption | (rw [hR]; rfl) | (dsimp only; rw [hR]; rfl)) (by decide) (by decide) (Or.inl rfl) (by dsimp only; exact q_up_s) ?_
          refine k_ialV (a := (b (skp b L p'))) i_104_232 (by first | rfl | assumption | (rw [hR]; rfl) | (dsimp only; rw [hR]; rfl)) (by decide) (by omega) (by omega) (by dsimp only; rw [q_up_o (by omega), show (((skp b L p' : Nat) : Int)).toNat = skp b L p' by omega]; exact (hC.of mf).2.2.2 _ g2) ?_
          have hb := hC.2.2.1 _ g2
          refine k_bipush i_104_233 (by decide) ?_
          refine k_ic_eq (t := 246) i_104_235 rfl (by omega) (by omega) (fun g3 => ?_) (fun g3 => ?_)
          · have g4 : kP b L p' = 2 := kP_2.mpr ⟨g2, g3⟩
            refine last _ (mf.tr (MFr.up (by omega))) (Or.inr ⟨z', eP b L p', ?_, h2.up (by omega), ?_, (q_up_n (by omega)).trans h4⟩)
            · unfold pItem
              rw [h1]
              unfold pStop
              dsimp only
              rw [if_pos g4]
            · rw [q_up_s]
              have : eP b L p' = skp b L p' + 1 := by
                unfold eP eQ
                rw [if_neg (by omega), if_pos g3]
              omega
          · exact flt (fun y => g3 (kP_2.mp y).2)
  refine k_start ql_104 (Nat.le_of_ble_eq_true rfl) ?_
  simp only [q_en, List.replicate]
  refine k_aload_n i_104_0 rfl ?_
  refine k_gfV (a := (q : Int)) i_104_1 f_12_94 (by first | rfl | assumption | (rw [hR]; rfl) | (dsimp only; rw [hR]; rfl)) (by decide) (by decide) (Or.inl rfl) (hq) ?_
  refine k_istore_n i_104_4 (Nat.le_of_ble_eq_true rfl) ?_
  dsimp only [q_st1, q_st2, q_unl]
  refine k_aload_n i_104_5 rfl ?_
  refine k_cv0 i_104_6 c_12_138 qp_105 qo_105 (by first | rfl | assumption | (rw [hR]; rfl) | (dsimp only; rw [hR]; rfl)) (Nat.le_of_ble_eq_true rfl) (m_letters (d := d + 1) hR hC hq (by omega)) (fun v S2 h => ?_)
  obtain ⟨rfl, rfl⟩ := h
  show K shM (d + 3) 104 9 _ [.long (JL (wH b L q))] _ _
  have mf1 : MFr I (q_up I 0 24 ((wdE b L q : Nat) : Int)) := MFr.up (by omega)
  have hP1 : MP (q_up I 0 24 ((wdE b L q : Nat) : Int)) z := hP.up (by omega)
  have hf1 : q_up I 0 24 ((wdE b L q : Nat) : Int) 0 25 = -9 := (q_up_n (by omega)).trans hf
  have hn1 : q_up I 0 24 ((wdE b L q : Nat) : Int) 0 23 = (n : Int) := mf1.2.2.trans hn
  have ha1 : q_up I 0 24 ((wdE b L q : Nat) : Int) 0 24 = ((wdE b L q : Nat) : Int) := q_up_s
  have hC1 := hC.of mf1
  generalize q_up I 0 24 ((wdE b L q : Nat) : Int) = I1 at mf1 hP1 hf1 hn1 ha1 hC1 ⊢
  generalize hp0 : wdE b L q = p0 at *
  obtain ⟨p1, p2, p3, p4, p5, p6, p7, p8, p9, p10⟩ := id hP1
  have htl := tb3_lt z.2.1 z.2.2.1 z.2.2.2
  have kw : ∀ {y : Nat}, y < 6 → isW y b q p0 = true → kQ b L q = 4 + (y : Int) ∧ eQ b L q = p0 := by
    intro y hy h
    rw [← hp0] at h ⊢
    exact ⟨kQ_w hqL hy h, eQ_w hqL hy h⟩
  have r205 : pBody b L n z q = .inl q → K shM (d + 3) 104 205 [some (.ref 0), some (.int (J (q : Int))), some (.long (JL (wH b L q))), none] [] (I1, X) (fun r S2 => r = none ∧ ∃ I', S2 = (I', X) ∧ MG I I' ∧ I' 0 23 = ((n + 1 : Nat) : Int) ∧ MRes I' (pItem b L n z q)) := by
    intro h1
    refine k_aload_n i_104_205 rfl ?_
    refine k_iload_n i_104_206 rfl ?_
    refine k_pfI i_104_207 f_12_97 (by first | rfl | assumption | (rw [hR]; rfl) | (dsimp only; rw [hR]; rfl)) (by decide) rfl ?_
    exact fin _ (mf1.tr (MFr.up (by omega))) (Or.inl ⟨q, h1, by omega, q_up_s⟩)
  have r48 : (isW 0 b q p0 = true → n ≠ 0) → K shM (d + 3) 104 48 [some (.ref 0), some (.int (J (q : Int))), some (.long (JL (wH b L q))), none] [] (I1, X) (fun r S2 => r = none ∧ ∃ I', S2 = (I', X) ∧ MG I I' ∧ I' 0 23 = ((n + 1 : Nat) : Int) ∧ MRes I' (pItem b L n z q)) := by
    intro h0
    have sq : ∀ hs : Bool, pBody b L n z q = bThing b L z (if hs = true then 1 else 2) p0 → K shM (d + 3) 104 78 [some (.ref 0), some (.int (J (q : Int))), some (.long (JL (wH b L q))), none] [.int (J (bi hs)), .ref 0] (I1, X) (fun r S2 => r = none ∧ ∃ I', S2 = (I', X) ∧ MG I I' ∧ I' 0 23 = ((n + 1 : Nat) : Int) ∧ MRes I' (pItem b L n z q)) := by
      intro hs hb
      refine k_cv1 i_104_78 c_12_151 qp_108 qo_108 (by first | rfl | assumption | (rw [hR]; rfl) | (dsimp only; rw [hR]; rfl)) (Nat.le_of_ble_eq_true rfl) (m_square hR hC1 hP1 hz.1 ha1 hwr.2 hf1 hs) (fun v S2 h => ?_)
      obtain ⟨rfl, I2, rfl, mf2, hr⟩ := h
      show K shM (d + 3) 104 81 _ [] _ _
      refine k_goto (t := 210) i_104_81 rfl ?_
      exact fin I2 (mf1.tr mf2) (by rw [hb]; exact hr)
    have r84 : ¬ isW 1 b q p0 = true → ¬ isW 2 b q p0 = true → K shM (d + 3) 104 84 [some (.ref 0), some (.int (J (q : Int))), some (.long (JL (wH b L q))), none] [] (I1, X) (fun r S2 => r = none ∧ ∃ I', S2 = (I', X) ∧ MG I I' ∧ I' 0 23 = ((n + 1 : Nat) : Int) ∧ MRes I' (pItem b L n z q)) := by
      intro h1 h2
      refine k_lload_n i_104_84 rfl ?_
      refine k_ldc2J (a := 20536) i_104_85 l_12_155 (by decide) ?_
      refine k_lcmp i_104_88 ?_
      refine k_lc_ne (t := 141) i_104_89 rfl (fun h => ?_) (fun h => ?_)
      · have h3 : ¬ isW 3 b q p0 = true := fun y => h (by rw [(hiff (by omega)).mpr y, v3])
        refine k_lload_n i_104_141 rfl ?_
        refine k_ldc2J (a := 150636933) i_104_142 l_12_160 (by decide) ?_
        refine k_lcmp i_104_145 ?_
        refine k_lc_ne (t := 172) i_104_146 rfl (fun h => ?_) (fun h => ?_)
        · have h4 : ¬ isW 4 b q p0 = true := fun y => h (by rw [(hiff (by omega)).mpr y, v4])
          refine k_lload_n i_104_172 rfl ?_
          refine k_ldc2J (a := 8441477) i_104_173 l_12_162 (by decide) ?_
          refine k_lcmp i_104_176 ?_
          refine k_lc_ne (t := 205) i_104_177 rfl (fun h => ?_) (fun h => ?_)
          · have h5 : ¬ isW 5 b q p0 = true := fun y => h (by rw [(hiff (by omega)).mpr y, v5])
            refine r205 ?_
            by_cases w0 : isW 0 b q p0 = true
            · unfold pBody
              rw [if_pos (by have := (kw (by omega) w0).1; omega), if_neg (h0 w0)]
            · have := kQ_no hqL (fun y hy => by
                rw [hp0]
                have hy6 : y = 0 ∨ y = 1 ∨ y = 2 ∨ y = 3 ∨ y = 4 ∨ y = 5 := by omega
                rcases hy6 with rfl | rfl | rfl | rfl | rfl | rfl
                · exact w0
                · exact h1
                · exact h2
                · exact h3
                · exact h4
                · exact h5)
              unfold pBody
              rw [if_neg (by omega), if_neg (by omega), if_neg (by omega), if_neg (by omega), if_neg (by omega), if_neg (by omega)]
          · -- haste
            have w5 : isW 5 b q p0 = true := (hiff (by omega)).mp (by rw [v5]; exact (JL_eq (by omega) (by omega)).mp h)
            obtain ⟨kq, eq⟩ := kw (y := 5) (by omega) w5
            have hb : pBody b L n z q = bHaste b L z q p0 := by
              unfold pBody
              rw [if_neg (by omega), if_neg (by omega), if_neg (by omega), if_neg (by omega), if_neg (by omega), if_pos (by omega), eq]
            rw [hb] at fin
            refine k_aload_n i_104_180 rfl ?_
            refine k_iconst i_104_181 ?_
            refine k_iload_n i_104_182 rfl ?_
            refine k_cv2 i_104_183 c_12_157 qp_110 qo_110 (by first | rfl | assumption | (rw [hR]; rfl) | (dsimp only; rw [hR]; rfl)) (Nat.le_of_ble_eq_true rfl) (m_again (d := d + 1) p5 htl 2 (by omega) _ hf1) (fun v S2 h => ?_)
            obtain ⟨rfl, rfl⟩ := h
            rw [tb3_b2, tb3_s2]
            show K shM (d + 3) 104 186 _ [.int (J (bi z.2.2.2))] _ _
            unfold bHaste at fin
            refine k_if_neB (t := 210) i_104_186 rfl (fun h => ?_) (fun h => ?_)
            · rw [if_pos h]
              refine fin _ ((mf1.tr (MFr.up (by omega))).tr (MFr.up (by omega))) ?_
              rw [if_pos h]
              exact Or.inl ⟨q, rfl, by omega, q_up_s⟩
            · rw [if_neg (by rw [h]; decide)]
              rw [if_neg (by rw [h]; decide)] at fin
              refine k_aload_n i_104_189 rfl ?_
              refine k_gfR i_104_190 f_12_42 (by first | rfl | assumption | (rw [hR]; rfl) | (dsimp only; rw [hR]; rfl)) (by decide) (by decide) (Or.inr ⟨_, rfl⟩) (by first | rfl | assumption | (rw [hR]; rfl) | (dsimp only; rw [hR]; rfl)) ?_
              refine k_iconst i_104_193 ?_
              refine k_aload_n i_104_194 rfl ?_
              refine k_iconst i_104_195 ?_
              refine k_bipush i_104_196 (by decide) ?_
              have mf2 : MFr I1 (q_up (q_up I1 0 22 ((tb3 z.2.1 z.2.2.1 true : Nat) : Int)) 0 25 (-9)) := (MFr.up (by omega)).tr (MFr.up (by omega))
              refine k_cv2 i_104_198 c_12_123 qp_106 qo_106 (by first | rfl | assumption | (rw [hR]; rfl) | (dsimp only; rw [hR]; rfl)) (Nat.le_of_ble_eq_true rfl) (m_num hR (hC1.of mf2) ((q_up_n (by omega)).trans ((q_up_n (by omega)).trans ha1)) hwr.2 q_up_s 0 9 (by omega) (by omega)) (fun v S2 h => ?_)
              rcases h with ⟨n1, rfl, rfl⟩ | ⟨n1, rfl, a, rfl⟩
              · show K shM (d + 3) 104 201 _ [.int (J (vP b L p0)), .int (J 4), .ref 6] _ _
                rw [if_pos n1] at fin
                refine k_iast i_104_201 (by first | rfl | assumption | (rw [hR]; rfl) | (dsimp only; rw [hR]; rfl)) (by decide) (by omega) (by omega) ?_
                refine k_goto (t := 210) i_104_202 rfl ?_
                refine fin (q_up (q_up (q_up (q_up I1 0 22 ((tb3 z.2.1 z.2.2.1 true : Nat) : Int)) 0 25 (-9)) 0 24 ((eP b L p0 : Nat) : Int)) 6 4 (vP b L p0)) (((mf1.tr mf2).tr (MFr.up (by omega))).tr MFr.up6) (Or.inr ⟨_, _, rfl, ⟨?_, ?_, ?_, ?_, ?_, ?_, ?_, ?_, ?_, ?_⟩, ?_, ?_⟩)
                · rw [q_up_n (by omega), q_up_n (by omega), q_up_n (by omega), q_up_n (by omega)]; exact p1
                · rw [q_up_n (by omega), q_up_n (by omega), q_up_n (by omega), q_up_n (by omega)]; exact p2
                · rw [q_up_n (by omega), q_up_n (by omega), q_up_n (by omega), q_up_n (by omega)]; exact p3
                · rw [q_up_n (by omega), q_up_n (by omega), q_up_n (by omega), q_up_n (by omega)]; exact p4
                · rw [q_up_n (by omega), q_up_n (by omega), q_up_n (by omega), q_up_s]
                · rw [q_up_n (by omega), q_up_n (by omega), q_up_n (by omega), q_up_n (by omega)]; exact p6
                · rw [q_up_n (by omega), q_up_n (by omega), q_up_n (by omega), q_up_n (by omega)]; exact p7
                · rw [q_up_n (by omega), q_up_n (by omega), q_up_n (by omega), q_up_n (by omega)]; exact p8
                · rw [q_up_n (by omega), q_up_n (by omega), q_up_n (by omega), q_up_n (by omega)]; exact p9
                · rw [q_up_s]; rfl
                · rw [q_up_n (by omega), q_up_s]
                · rw [q_up_n (by omega), q_up_n (by omega), q_up_s]
              · show K shM (d + 3) 104 201 _ [.int (J 0), .int (J 4), .ref 6] _ _
                rw [if_neg (by rw [n1]; decide)] at fin
                refine k_iast i_104_201 (by first | rfl | assumption | (rw [hR]; rfl) | (dsimp only; rw [hR]; rfl)) (by decide) (by omega) (by omega) ?_
                refine k_goto (t := 210) i_104_202 rfl ?_
                dsimp only
                exact fin _ ((((mf1.tr mf2).tr (MFr.up (by omega))).tr (MFr.up (by omega))).tr MFr.up6) (Or.inl ⟨_, rfl, by omega, (q_up_n (by omega)).trans q_up_s⟩)
        · -- double
          have w4 : isW 4 b q p0 = true := (hiff (by omega)).mp (by rw [v4]; exact (JL_eq (by omega) (by omega)).mp h)
          obtain ⟨kq, eq⟩ := kw (y := 4) (by omega) w4
          have hb : pBody b L n z q = bDouble z q p0 := by
            unfold pBody
            rw [if_neg (by omega), if_neg (by omega), if_neg (by omega), if_neg (by omega), if_pos (by omega), eq]
          rw [hb] at fin
          refine k_aload_n i_104_149 rfl ?_
          refine k_gfR i_104_150 f_12_42 (by first | rfl | assumption | (rw [hR]; rfl) | (dsimp only; rw [hR]; rfl)) (by decide) (by decide) (Or.inr ⟨_, rfl⟩) (by first | rfl | assumption | (rw [hR]; rfl) | (dsimp only; rw [hR]; rfl)) ?_
          refine k_iconst i_104_153 ?_
          refine k_aload_n i_104_154 rfl ?_
          refine k_iconst i_104_155 ?_
          refine k_iload_n i_104_156 rfl ?_
          refine k_cv2 i_104_157 c_12_157 qp_110 qo_110 (by first | rfl | assumption | (rw [hR]; rfl) | (dsimp only; rw [hR]; rfl)) (Nat.le_of_ble_eq_true rfl) (m_again (d := d + 1) p5 htl 1 (by omega) _ hf1) (fun v S2 h => ?_)
          obtain ⟨rfl, rfl⟩ := h
          rw [tb3_b1, tb3_s1]
          show K shM (d + 3) 104 160 _ [.int (J (bi z.2.2.1)), .int (J 3), .ref 6] _ _
          unfold bDouble at fin
          refine k_if_eqB (t := 167) i_104_160 rfl (fun h => ?_) (fun h => ?_)
          · rw [if_neg (by rw [h]; decide)]
            rw [if_neg (by rw [h]; decide)] at fin
            refine k_iconst i_104_167 ?_
            refine k_iast i_104_168 (by first | rfl | assumption | (rw [hR]; rfl) | (dsimp only; rw [hR]; rfl)) (by decide) (by omega) (by omega) ?_
            refine k_goto (t := 210) i_104_169 rfl ?_
            refine fin (q_up (q_up (q_up I1 0 22 ((tb3 z.2.1 true z.2.2.2 : Nat) : Int)) 0 25 (-9)) 6 3 1) (((mf1.tr (MFr.up (by omega))).tr (MFr.up (by omega))).tr MFr.up6) (Or.inr ⟨_, _, rfl, ⟨?_, ?_, ?_, ?_, ?_, ?_, ?_, ?_, ?_, ?_⟩, ?_, ?_⟩)
            · rw [q_up_n (by omega), q_up_n (by omega), q_up_n (by omega)]; exact p1
            · rw [q_up_n (by omega), q_up_n (by omega), q_up_n (by omega)]; exact p2
            · rw [q_up_n (by omega), q_up_n (by omega), q_up_n (by omega)]; exact p3
            · rw [q_up_n (by omega), q_up_n (by omega), q_up_n (by omega)]; exact p4
            · rw [q_up_n (by omega), q_up_n (by omega), q_up_s]
            · rw [q_up_n (by omega), q_up_n (by omega), q_up_n (by omega)]; exact p6
            · rw [q_up_n (by omega), q_up_n (by omega), q_up_n (by omega)]; exact p7
            · rw [q_up_n (by omega), q_up_n (by omega), q_up_n (by omega)]; exact p8
            · rw [q_up_s]; rfl
            · rw [q_up_n (by omega), q_up_n (by omega), q_up_n (by omega)]; exact p10
            · rw [q_up_n (by omega), q_up_n (by omega), q_up_n (by omega)]; exact ha1
            · rw [q_up_n (by omega), q_up_s]
          · rw [if_pos h]
            rw [if_pos h] at fin
            refine k_iconst i_104_163 ?_
            refine k_goto (t := 168) i_104_164 rfl ?_
            refine k_iast i_104_168 (by first | rfl | assumption | (rw [hR]; rfl) | (dsimp only; rw [hR]; rfl)) (by decide) (by omega) (by omega) ?_
            refine k_goto (t := 210) i_104_169 rfl ?_
            dsimp only
            exact fin _ (((mf1.tr (MFr.up (by omega))).tr (MFr.up (by omega))).tr MFr.up6) (Or.inl ⟨q, rfl, by omega, (q_up_n (by omega)).trans q_up_s⟩)
      · -- tax
        have w3 : isW 3 b q p0 = true := (hiff (by omega)).mp (by rw [v3]; exact (JL_eq (by omega) (by omega)).mp h)
        obtain ⟨kq, eq⟩ := kw (y := 3) (by omega) w3
        have hb : pBody b L n z q = bTax b L z q p0 := by
          unfold pBody
          rw [if_neg (by omega), if_neg (by omega), if_neg (by omega), if_pos (by omega), eq]
        rw [hb] at fin
        refine k_aload_n i_104_92 rfl ?_
        refine k_iconst i_104_93 ?_
        refine k_iload_n i_104_94 rfl ?_
        refine k_cv2 i_104_95 c_12_157 qp_110 qo_110 (by first | rfl | assumption | (rw [hR]; rfl) | (dsimp only; rw [hR]; rfl)) (Nat.le_of_ble_eq_true rfl) (m_again (d := d + 1) p5 htl 0 (by omega) _ hf1) (fun v S2 h => ?_)
        obtain ⟨rfl, rfl⟩ := h
        rw [tb3_b0, tb3_s0]
        show K shM (d + 3) 104 98 _ [.int (J (bi z.2.1))] _ _
        unfold bTax at fin
        refine k_if_neB (t := 210) i_104_98 rfl (fun h => ?_) (fun h => ?_)
        · rw [if_pos h]
          rw [if_pos h] at fin
          exact fin _ ((mf1.tr (MFr.up (by omega))).tr (MFr.up (by omega))) (Or.inl ⟨q, rfl, by omega, q_up_s⟩)
        · rw [if_neg (by rw [h]; decide)]
          rw [if_neg (by rw [h]; decide)] at fin
          have mf2 : MFr I1 (q_up (q_up I1 0 22 ((tb3 true z.2.2.1 z.2.2.2 : Nat) : Int)) 0 25 (-9)) := (MFr.up (by omega)).tr (MFr.up (by omega))
          have hP2 : MP (q_up (q_up I1 0 22 ((tb3 true z.2.2.1 z.2.2.2 : Nat) : Int)) 0 25 (-9)) (z.1, true, z.2.2) := by
            refine ⟨?_, ?_, ?_, ?_, ?_, ?_, ?_, ?_, ?_, ?_⟩
            · rw [q_up_n (by omega), q_up_n (by omega)]; exact p1
            · rw [q_up_n (by omega), q_up_n (by omega)]; exact p2
            · rw [q_up_n (by omega), q_up_n (by omega)]; exact p3
            · rw [q_up_n (by omega), q_up_n (by omega)]; exact p4
            · rw [q_up_n (by omega), q_up_s]
            · rw [q_up_n (by omega), q_up_n (by omega)]; exact p6
            · rw [q_up_n (by omega), q_up_n (by omega)]; exact p7
            · rw [q_up_n (by omega), q_up_n (by omega)]; exact p8
            · rw [q_up_n (by omega), q_up_n (by omega)]; exact p9
            · rw [q_up_n (by omega), q_up_n (by omega)]; exact p10
          have hf2 : q_up (q_up I1 0 22 ((tb3 true z.2.2.1 z.2.2.2 : Nat) : Int)) 0 25 (-9) 0 25 = -9 := q_up_s
          have ha2 : q_up (q_up I1 0 22 ((tb3 true z.2.2.1 z.2.2.2 : Nat) : Int)) 0 25 (-9) 0 24 = ((p0 : Nat) : Int) := (q_up_n (by omega)).trans ((q_up_n (by omega)).trans ha1)
          have mf3 := mf1.tr mf2
          have hC2 := hC1.of mf2
          generalize q_up (q_up I1 0 22 ((tb3 true z.2.2.1 z.2.2.2 : Nat) : Int)) 0 25 (-9) = I2 at mf3 hP2 hf2 ha2 hC2 ⊢
          -- behind a fault
          have b3 : ∀ (I3 : Nat → Nat → Int) (f : Nat), MFr I I3 → I3 0 25 = (f : Int) → f ≤ 200 → (∀ I4, MFr I I4 → I4 0 25 = (f : Int) → K shM (d + 3) 104 210 [some (.ref 0), some (.int (J (q : Int))), some (.long (JL (wH b L q))), none] [] (I4, X) (fun r S2 => r = none ∧ ∃ I', S2 = (I', X) ∧ MG I I' ∧ I' 0 23 = ((n + 1 : Nat) : Int) ∧ MRes I' (pItem b L n z q))) → K shM (d + 3) 104 126 [some (.ref 0), some (.int (J (q : Int))), some (.long (JL (wH b L q))), none] [] (I3, X) (fun r S2 => r = none ∧ ∃ I', S2 = (I', X) ∧ MG I I' ∧ I' 0 23 = ((n + 1 : Nat) : Int) ∧ MRes I' (pItem b L n z q)) := by
            intro I3 f m3 hf3 hf200 go
            refine k_aload_n i_104_126 rfl ?_
            refine k_gfR i_104_127 f_12_42 (by first | rfl | assumption | (rw [hR]; rfl) | (dsimp only; rw [hR]; rfl)) (by decide) (by decide) (Or.inr ⟨_, rfl⟩) (by first | rfl | assumption | (rw [hR]; rfl) | (dsimp only; rw [hR]; rfl)) ?_
            refine k_iconst i_104_130 ?_
            refine k_aload_n i_104_131 rfl ?_
            refine k_iconst i_104_132 ?_
            refine k_iconst i_104_133 ?_
            refine k_cv2 i_104_134 c_12_123 qp_106 qo_106 (by first | rfl | assumption | (rw [hR]; rfl) | (dsimp only; rw [hR]; rfl)) (Nat.le_of_ble_eq_true rfl) (m_numF hf3 (by omega) _ _) (fun v S2 h => ?_)
            obtain ⟨rfl, rfl⟩ := h
            show K shM (d + 3) 104 137 _ [.int (J 0), .int (J 2), .ref 6] _ _
            refine k_iast i_104_137 (by first | rfl | assumption | (rw [hR]; rfl) | (dsimp only; rw [hR]; rfl)) (by decide) (by omega) (by omega) ?_
            refine k_goto (t := 210) i_104_138 rfl ?_
            exact go _ (m3.tr MFr.up6) ((q_up_n (by omega)).trans hf3)
          have b2 : ∀ (I3 : Nat → Nat → Int) (f : Nat), MFr I I3 → I3 0 25 = (f : Int) → f ≤ 200 → (∀ I4, MFr I I4 → I4 0 25 = (f : Int) → K shM (d + 3) 104 210 [some (.ref 0), some (.int (J (q : Int))), some (.long (JL (wH b L q))), none] [] (I4, X) (fun r S2 => r = none ∧ ∃ I', S2 = (I', X) ∧ MG I I' ∧ I' 0 23 = ((n + 1 : Nat) : Int) ∧ MRes I' (pItem b L n z q))) → K shM (d + 3) 104 113 [some (.ref 0), some (.int (J (q : Int))), some (.long (JL (wH b L q))), none] [] (I3, X) (fun r S2 => r = none ∧ ∃ I', S2 = (I', X) ∧ MG I I' ∧ I' 0 23 = ((n + 1 : Nat) : Int) ∧ MRes I' (pItem b L n z q)) := by
            intro I3 f m3 hf3 hf200 go
            refine k_aload_n i_104_113 rfl ?_
            refine k_gfR i_104_114 f_12_42 (by first | rfl | assumption | (rw [hR]; rfl) | (dsimp only; rw [hR]; rfl)) (by decide) (by decide) (Or.inr ⟨_, rfl⟩) (by first | rfl | assumption | (rw [hR]; rfl) | (dsimp only; rw [hR]; rfl)) ?_
            refine k_iconst i_104_117 ?_
            refine k_aload_n i_104_118 rfl ?_
            refine k_iconst i_104_119 ?_
            refine k_bipush i_104_120 (by decide) ?_
            refine k_cv2 i_104_122 c_12_123 qp_106 qo_106 (by first | rfl | assumption | (rw [hR]; rfl) | (dsimp only; rw [hR]; rfl)) (Nat.le_of_ble_eq_true rfl) (m_numF hf3 (by omega) _ _) (fun v S2 h => ?_)
            obtain ⟨rfl, rfl⟩ := h
            show K shM (d + 3) 104 125 _ [.int (J 1), .int (J 1), .ref 6] _ _
            refine k_iast i_104_125 (by first | rfl | assumption | (rw [hR]; rfl) | (dsimp only; rw [hR]; rfl)) (by decide) (by omega) (by omega) ?_
            dsimp only
            exact b3 _ f (m3.tr MFr.up6) ((q_up_n (by omega)).trans hf3) hf200 go
          refine k_aload_n i_104_101 rfl ?_
          refine k_gfR i_104_102 f_12_42 (by first | rfl | assumption | (rw [hR]; rfl) | (dsimp only; rw [hR]; rfl)) (by decide) (by decide) (Or.inr ⟨_, rfl⟩) (by first | rfl | assumption | (rw [hR]; rfl) | (dsimp only; rw [hR]; rfl)) ?_
          refine k_iconst i_104_105 ?_
          refine k_aload_n i_104_106 rfl ?_
          refine k_iconst i_104_107 ?_
          refine k_iconst i_104_108 ?_
          refine k_cv2 i_104_109 c_12_123 qp_106 qo_106 (by first | rfl | assumption | (rw [hR]; rfl) | (dsimp only; rw [hR]; rfl)) (Nat.le_of_ble_eq_true rfl) (m_num hR hC2 ha2 hwr.2 hf2 0 4 (by omega) (by omega)) (fun v S2 h => ?_)
          rcases h with ⟨n1, rfl, rfl⟩ | ⟨n1, rfl, a, rfl⟩
          · show K shM (d + 3) 104 112 _ [.int (J (vP b L p0)), .int (J 0), .ref 6] _ _
            rw [if_pos n1] at fin
            refine k_iast i_104_112 (by first | rfl | assumption | (rw [hR]; rfl) | (dsimp only; rw [hR]; rfl)) (by decide) (by omega) (by omega) ?_
            dsimp only
            have m4 : MFr I2 (q_up (q_up I2 0 24 ((eP b L p0 : Nat) : Int)) 6 ((0 : Int)).toNat (vP b L p0)) := (MFr.up (by omega)).tr MFr.up6
            have hf4 : q_up (q_up I2 0 24 ((eP b L p0 : Nat) : Int)) 6 ((0 : Int)).toNat (vP b L p0) 0 25 = -9 := (q_up_n (by omega)).trans ((q_up_n (by omega)).trans hf2)
            have ha4 : q_up (q_up I2 0 24 ((eP b L p0 : Nat) : Int)) 6 ((0 : Int)).toNat (vP b L p0) 0 24 = ((eP b L p0 : Nat) : Int) := (q_up_n (by omega)).trans q_up_s
            have hP4 : MP (q_up (q_up I2 0 24 ((eP b L p0 : Nat) : Int)) 6 ((0 : Int)).toNat (vP b L p0)) (tSetF z.1 (vP b L p0), true, z.2.2) := by
              obtain ⟨p1, p2, p3, p4, p5, p6, p7, p8, p9, p10⟩ := hP2
              refine ⟨?_, ?_, ?_, ?_, ?_, ?_, ?_, ?_, ?_, ?_⟩
              · rw [q_up_n (by omega), q_up_n (by omega)]; exact p1
              · rw [q_up_n (by omega), q_up_n (by omega)]; exact p2
              · rw [q_up_n (by omega), q_up_n (by omega)]; exact p3
              · rw [q_up_n (by omega), q_up_n (by omega)]; exact p4
              · rw [q_up_n (by omega), q_up_n (by omega)]; exact p5
              · exact q_up_s
              · rw [q_up_n (by omega), q_up_n (by omega)]; exact p7
              · rw [q_up_n (by omega), q_up_n (by omega)]; exact p8
              · rw [q_up_n (by omega), q_up_n (by omega)]; exact p9
              · rw [q_up_n (by omega), q_up_n (by omega)]; exact p10
            have mf4 := mf3.tr m4
            have hC4 := hC2.of m4
            generalize q_up (q_up I2 0 24 ((eP b L p0 : Nat) : Int)) 6 ((0 : Int)).toNat (vP b L p0) = I4 at mf4 hP4 hf4 ha4 hC4 ⊢
            refine k_aload_n i_104_113 rfl ?_
            refine k_gfR i_104_114 f_12_42 (by first | rfl | assumption | (rw [hR]; rfl) | (dsimp only; rw [hR]; rfl)) (by decide) (by decide) (Or.inr ⟨_, rfl⟩) (by first | rfl | assumption | (rw [hR]; rfl) | (dsimp only; rw [hR]; rfl)) ?_
            refine k_iconst i_104_117 ?_
            refine k_aload_n i_104_118 rfl ?_
            refine k_iconst i_104_119 ?_
            refine k_bipush i_104_120 (by decide) ?_
            refine k_cv2 i_104_122 c_12_123 qp_106 qo_106 (by first | rfl | assumption | (rw [hR]; rfl) | (dsimp only; rw [hR]; rfl)) (Nat.le_of_ble_eq_true rfl) (m_num hR hC4 ha4 e1.2 hf4 1 9 (by omega) (by omega)) (fun v S2 h => ?_)
            rcases h with ⟨n2, rfl, rfl⟩ | ⟨n2, rfl, a, rfl⟩
            · show K shM (d + 3) 104 125 _ [.int (J (vP b L (eP b L p0))), .int (J 1), .ref 6] _ _
              rw [if_pos n2] at fin
              refine k_iast i_104_125 (by first | rfl | assumption | (rw [hR]; rfl) | (dsimp only; rw [hR]; rfl)) (by decide) (by omega) (by omega) ?_
              dsimp only
              have m6 : MFr I4 (q_up (q_up I4 0 24 ((eP b L (eP b L p0) : Nat) : Int)) 6 ((1 : Int)).toNat (vP b L (eP b L p0))) := (MFr.up (by omega)).tr MFr.up6
              have hf6 : q_up (q_up I4 0 24 ((eP b L (eP b L p0) : Nat) : Int)) 6 ((1 : Int)).toNat (vP b L (eP b L p0)) 0 25 = -9 := (q_up_n (by omega)).trans ((q_up_n (by omega)).trans hf4)
              have ha6 : q_up (q_up I4 0 24 ((eP b L (eP b L p0) : Nat) : Int)) 6 ((1 : Int)).toNat (vP b L (eP b L p0)) 0 24 = ((eP b L (eP b L p0) : Nat) : Int) := (q_up_n (by omega)).trans q_up_s
              have hP6 : MP (q_up (q_up I4 0 24 ((eP b L (eP b L p0) : Nat) : Int)) 6 ((1 : Int)).toNat (vP b L (eP b L p0))) (tSetR (tSetF z.1 (vP b L p0)) (vP b L (eP b L p0)), true, z.2.2) := by
                obtain ⟨p1, p2, p3, p4, p5, p6, p7, p8, p9, p10⟩ := hP4
                refine ⟨?_, ?_, ?_, ?_, ?_, ?_, ?_, ?_, ?_, ?_⟩
                · rw [q_up_n (by omega), q_up_n (by omega)]; exact p1
                · rw [q_up_n (by omega), q_up_n (by omega)]; exact p2
                · rw [q_up_n (by omega), q_up_n (by omega)]; exact p3
                · rw [q_up_n (by omega), q_up_n (by omega)]; exact p4
                · rw [q_up_n (by omega), q_up_n (by omega)]; exact p5
                · rw [q_up_n (by omega), q_up_n (by omega)]; exact p6
                · exact q_up_s
                · rw [q_up_n (by omega), q_up_n (by omega)]; exact p8
                · rw [q_up_n (by omega), q_up_n (by omega)]; exact p9
                · rw [q_up_n (by omega), q_up_n (by omega)]; exact p10
              have mf6 := mf4.tr m6
              have hC6 := hC4.of m6
              generalize q_up (q_up I4 0 24 ((eP b L (eP b L p0) : Nat) : Int)) 6 ((1 : Int)).toNat (vP b L (eP b L p0)) = I6 at mf6 hP6 hf6 ha6 hC6 ⊢
              refine k_aload_n i_104_126 rfl ?_
              refine k_gfR i_104_127 f_12_42 (by first | rfl | assumption | (rw [hR]; rfl) | (dsimp only; rw [hR]; rfl)) (by decide) (by decide) (Or.inr ⟨_, rfl⟩) (by first | rfl | assumption | (rw [hR]; rfl) | (dsimp only; rw [hR]; rfl)) ?_
              refine k_iconst i_104_130 ?_
              refine k_aload_n i_104_131 rfl ?_
              refine k_iconst i_104_132 ?_
              refine k_iconst i_104_133 ?_
              refine k_cv2 i_104_134 c_12_123 qp_106 qo_106 (by first | rfl | assumption | (rw [hR]; rfl) | (dsimp only; rw [hR]; rfl)) (Nat.le_of_ble_eq_true rfl) (m_num hR hC6 ha6 e2.2 hf6 0 2 (by omega) (by omega)) (fun v S2 h => ?_)
              rcases h with ⟨n3, rfl, rfl⟩ | ⟨n3, rfl, a, rfl⟩
              · show K shM (d + 3) 104 137 _ [.int (J (vP b L (eP b L (eP b L p0)))), .int (J 2), .ref 6] _ _
                rw [if_pos n3] at fin
                refine k_iast i_104_137 (by first | rfl | assumption | (rw [hR]; rfl) | (dsimp only; rw [hR]; rfl)) (by decide) (by omega) (by omega) ?_
                refine k_goto (t := 210) i_104_138 rfl ?_
                obtain ⟨p1, p2, p3, p4, p5, p6, p7, p8, p9, p10⟩ := hP6
                refine fin (q_up (q_up I6 0 24 ((eP b L (eP b L (eP b L p0)) : Nat) : Int)) 6 ((2 : Int)).toNat (vP b L (eP b L (eP b L p0)))) ((mf6.tr (MFr.up (by omega))).tr MFr.up6) (Or.inr ⟨_, _, rfl, ⟨?_, ?_, ?_, ?_, ?_, ?_, ?_, ?_, ?_, ?_⟩, ?_, ?_⟩)
                · rw [q_up_n (by omega), q_up_n (by omega)]; exact p1
                · rw [q_up_n (by omega), q_up_n (by omega)]; exact p2
                · rw [q_up_n (by omega), q_up_n (by omega)]; exact p3
                · rw [q_up_n (by omega), q_up_n (by omega)]; exact p4
                · rw [q_up_n (by omega), q_up_n (by omega)]; exact p5
                · rw [q_up_n (by omega), q_up_n (by omega)]; exact p6
                · rw [q_up_n (by omega), q_up_n (by omega)]; exact p7
                · exact q_up_s
                · rw [q_up_n (by omega), q_up_n (by omega)]; exact p9
                · rw [q_up_n (by omega), q_up_n (by omega)]; exact p10
                · rw [q_up_n (by omega), q_up_s]
                · rw [q_up_n (by omega), q_up_n (by omega)]; exact hf6
              · show K shM (d + 3) 104 137 _ [.int (J 0), .int (J 2), .ref 6] _ _
                rw [if_neg (by rw [n3]; decide)] at fin
                refine k_iast i_104_137 (by first | rfl | assumption | (rw [hR]; rfl) | (dsimp only; rw [hR]; rfl)) (by decide) (by omega) (by omega) ?_
                refine k_goto (t := 210) i_104_138 rfl ?_
                dsimp only
                exact fin _ (((mf6.tr (MFr.up (by omega))).tr (MFr.up (by omega))).tr MFr.up6) (Or.inl ⟨_, rfl, by omega, (q_up_n (by omega)).trans q_up_s⟩)
            · show K shM (d + 3) 104 125 _ [.int (J 1), .int (J 1), .ref 6] _ _
              rw [if_neg (by rw [n2]; decide)] at fin
              refine k_iast i_104_125 (by first | rfl | assumption | (rw [hR]; rfl) | (dsimp only; rw [hR]; rfl)) (by decide) (by omega) (by omega) ?_
              dsimp only
              exact b3 _ (skp b L (eP b L p0)) (((mf4.tr (MFr.up (by omega))).tr (MFr.up (by omega))).tr MFr.up6) ((q_up_n (by omega)).trans q_up_s) (by omega) (fun I9 m9 h9 => fin I9 m9 (Or.inl ⟨_, rfl, by omega, h9⟩))
          · show K shM (d + 3) 104 112 _ [.int (J 0), .int (J 0), .ref 6] _ _
            rw [if_neg (by rw [n1]; decide)] at fin
            refine k_iast i_104_112 (by first | rfl | assumption | (rw [hR]; rfl) | (dsimp only; rw [hR]; rfl)) (by decide) (by omega) (by omega) ?_
            dsimp only
            exact b2 _ (skp b L p0) (((mf3.tr (MFr.up (by omega))).tr (MFr.up (by omega))).tr MFr.up6) ((q_up_n (by omega)).trans q_up_s) (by omega) (fun I9 m9 h9 => fin I9 m9 (Or.inl ⟨_, rfl, by omega, h9⟩))
    refine k_lload_n i_104_48 rfl ?_
    refine k_ldc2J (a := 8902245) i_104_49 l_12_147 (by decide) ?_
    refine k_lcmp i_104_52 ?_
    refine k_lc_eq (t := 64) i_104_53 rfl (fun h => ?_) (fun h => ?_)
    · have w1 : isW 1 b q p0 = true := (hiff (by omega)).mp (by rw [v1]; exact (JL_eq (by omega) (by omega)).mp h)
      obtain ⟨kq, eq⟩ := kw (y := 1) (by omega) w1
      refine k_aload_n i_104_64 rfl ?_
      refine k_lload_n i_104_65 rfl ?_
      refine k_ldc2J (a := 8902245) i_104_66 l_12_147 (by decide) ?_
      refine k_lcmp i_104_69 ?_
      refine k_lc_ne (t := 77) i_104_70 rfl (fun h9 => absurd h h9) (fun h9 => ?_)
      refine k_iconst i_104_73 ?_
      refine k_goto (t := 78) i_104_74 rfl ?_
      refine sq true ?_
      unfold pBody
      rw [if_neg (by omega), if_pos (by omega), eq]
      rfl
    · have w1 : ¬ isW 1 b q p0 = true := fun y => h (by rw [(hiff (by omega)).mpr y, v1])
      refine k_lload_n i_104_56 rfl ?_
      refine k_ldc2J (a := 5638647) i_104_57 l_12_149 (by decide) ?_
      refine k_lcmp i_104_60 ?_
      refine k_lc_ne (t := 84) i_104_61 rfl (fun h9 => ?_) (fun h9 => ?_)
      · exact r84 w1 (fun y => h9 (by rw [(hiff (by omega)).mpr y, v2]))
      · have w2 : isW 2 b q p0 = true := (hiff (by omega)).mp (by rw [v2]; exact (JL_eq (by omega) (by omega)).mp h9)
        obtain ⟨kq, eq⟩ := kw (y := 2) (by omega) w2
        refine k_aload_n i_104_64 rfl ?_
        refine k_lload_n i_104_65 rfl ?_
        refine k_ldc2J (a := 8902245) i_104_66 l_12_147 (by decide) ?_
        refine k_lcmp i_104_69 ?_
        refine k_lc_ne (t := 77) i_104_70 rfl (fun h8 => ?_) (fun h8 => absurd h8 h)
        refine k_iconst i_104_77 ?_
        refine sq false ?_
        unfold pBody
        rw [if_neg (by omega), if_neg (by omega), if_pos (by omega), eq]
        rfl
  refine k_lstore_n i_104_9 (Nat.le_of_ble_eq_true rfl) ?_
  dsimp only [q_st1, q_st2, q_unl]
  refine k_lload_n i_104_10 rfl ?_
  refine k_ldc2J (a := 671470) i_104_11 l_12_142 (by decide) ?_
  refine k_lcmp i_104_14 ?_
  refine k_lc_ne (t := 48) i_104_15 rfl (fun h => ?_) (fun h => ?_)
  · exact r48 (fun y => absurd (show JL (wH b L q) = JL 671470 by rw [(hiff (by omega)).mpr y, v0]) h)
  · have w0 : isW 0 b q p0 = true := (hiff (by omega)).mp (by rw [v0]; exact (JL_eq (by omega) (by omega)).mp h)
    obtain ⟨kq, eq⟩ := kw (y := 0) (by omega) w0
    refine k_aload_n i_104_18 rfl ?_
    refine k_gfV (a := (n : Int)) i_104_19 f_12_144 (by first | rfl | assumption | (rw [hR]; rfl) | (dsimp only; rw [hR]; rfl)) (by decide) (by decide) (Or.inl rfl) (hn1) ?_
    refine k_if_ne (t := 48) i_104_22 rfl (by omega) (fun g => ?_) (fun g => ?_)
    · exact r48 (fun _ => by omega)
    · have hn0 : n = 0 := by omega
      have hb : pBody b L n z q = bSize b L z p0 := by
        unfold pBody
        rw [if_pos (by omega), if_pos hn0, eq]
      rw [hb] at fin
      unfold bSize at fin
      refine k_aload_n i_104_25 rfl ?_
      refine k_aload_n i_104_26 rfl ?_
      refine k_iconst i_104_27 ?_
      refine k_iconst i_104_28 ?_
      refine k_cv2 i_104_29 c_12_123 qp_106 qo_106 (by first | rfl | assumption | (rw [hR]; rfl) | (dsimp only; rw [hR]; rfl)) (Nat.le_of_ble_eq_true rfl) (m_num hR hC1 ha1 hwr.2 hf1 2 5 (by omega) (by omega)) (fun v S2 h => ?_)
      rcases h with ⟨n1, rfl, rfl⟩ | ⟨n1, rfl, a, rfl⟩
      · show K shM (d + 3) 104 32 _ [.int (J (vP b L p0)), .ref 0] _ _
        rw [if_pos n1] at fin
        refine k_pfI i_104_32 f_12_120 (by first | rfl | assumption | (rw [hR]; rfl) | (dsimp only; rw [hR]; rfl)) (by decide) rfl ?_
        refine k_aload_n i_104_35 rfl ?_
        refine k_aload_n i_104_36 rfl ?_
        refine k_iconst i_104_37 ?_
        refine k_iconst i_104_38 ?_
        dsimp only
        have m4 : MFr I1 (q_up (q_up I1 0 24 ((eP b L p0 : Nat) : Int)) 0 17 (vP b L p0)) := (MFr.up (by omega)).tr (MFr.up (by omega))
        refine k_cv2 i_104_39 c_12_123 qp_106 qo_106 (by first | rfl | assumption | (rw [hR]; rfl) | (dsimp only; rw [hR]; rfl)) (Nat.le_of_ble_eq_true rfl) (m_num hR (hC1.of m4) ((q_up_n (by omega)).trans q_up_s) e1.2 ((q_up_n (by omega)).trans ((q_up_n (by omega)).trans hf1)) 1 4 (by omega) (by omega)) (fun v S2 h => ?_)
        rcases h with ⟨n2, rfl, rfl⟩ | ⟨n2, rfl, a, rfl⟩
        · show K shM (d + 3) 104 42 _ [.int (J (vP b L (eP b L p0))), .ref 0] _ _
          rw [if_pos n2] at fin
          refine k_pfI i_104_42 f_12_126 (by first | rfl | assumption | (rw [hR]; rfl) | (dsimp only; rw [hR]; rfl)) (by decide) rfl ?_
          refine k_goto (t := 210) i_104_45 rfl ?_
          refine fin (q_up (q_up (q_up (q_up I1 0 24 ((eP b L p0 : Nat) : Int)) 0 17 (vP b L p0)) 0 24 ((eP b L (eP b L p0) : Nat) : Int)) 0 18 (vP b L (eP b L p0))) (((mf1.tr m4).tr (MFr.up (by omega))).tr (MFr.up (by omega))) (Or.inr ⟨_, _, rfl, ⟨?_, ?_, ?_, ?_, ?_, ?_, ?_, ?_, ?_, ?_⟩, ?_, ?_⟩)
          · rw [q_up_n (by omega), q_up_n (by omega), q_up_s]; rfl
          · rw [q_up_s]; rfl
          · rw [q_up_n (by omega), q_up_n (by omega), q_up_n (by omega), q_up_n (by omega)]; exact p3
          · rw [q_up_n (by omega), q_up_n (by omega), q_up_n (by omega), q_up_n (by omega)]; exact p4
          · rw [q_up_n (by omega), q_up_n (by omega), q_up_n (by omega), q_up_n (by omega)]; exact p5
          · rw [q_up_n (by omega), q_up_n (by omega), q_up_n (by omega), q_up_n (by omega)]; exact p6
          · rw [q_up_n (by omega), q_up_n (by omega), q_up_n (by omega), q_up_n (by omega)]; exact p7
          · rw [q_up_n (by omega), q_up_n (by omega), q_up_n (by omega), q_up_n (by omega)]; exact p8
          · rw [q_up_n (by omega), q_up_n (by omega), q_up_n (by omega), q_up_n (by omega)]; exact p9
          · rw [q_up_n (by omega), q_up_n (by omega), q_up_n (by omega), q_up_n (by omega)]; exact p10
          · rw [q_up_n (by omega), q_up_s]
          · rw [q_up_n (by omega), q_up_n (by omega), q_up_n (by omega), q_up_n (by omega)]; exact hf1
        · show K shM (d + 3) 104 42 _ [.int (J 1), .ref 0] _ _
          rw [if_neg (by rw [n2]; decide)] at fin
          refine k_pfI i_104_42 f_12_126 (by first | rfl | assumption | (rw [hR]; rfl) | (dsimp only; rw [hR]; rfl)) (by decide) rfl ?_
          refine k_goto (t := 210) i_104_45 rfl ?_
          dsimp only
          exact fin _ ((((mf1.tr m4).tr (MFr.up (by omega))).tr (MFr.up (by omega))).tr (MFr.up (by omega))) (Or.inl ⟨_, rfl, by omega, (q_up_n (by omega)).trans q_up_s⟩)
      · show K shM (d + 3) 104 32 _ [.int (J 2), .ref 0] _ _
        rw [if_neg (by rw [n1]; decide)] at fin
        refine k_pfI i_104_32 f_12_120 (by first | rfl | assumption | (rw [hR]; rfl) | (dsimp only; rw [hR]; rfl)) (by decide) rfl ?_
        refine k_aload_n i_104_35 rfl ?_
        refine k_aload_n i_104_36 rfl ?_
        refine k_iconst i_104_37 ?_
        refine k_iconst i_104_38 ?_
        dsimp only
        refine k_cv2 i_104_39 c_12_123 qp_106 qo_106 (by first | rfl | assumption | (rw [hR]; rfl) | (dsimp only; rw [hR]; rfl)) (Nat.le_of_ble_eq_true rfl) (m_numF (f := ((skp b L p0 : Nat) : Int)) ((q_up_n (by omega)).trans q_up_s) (by omega) _ _) (fun v S2 h => ?_)
        obtain ⟨rfl, rfl⟩ := h
        show K shM (d + 3) 104 42 _ [.int (J 1), .ref 0] _ _
        refine k_pfI i_104_42 f_12_126 (by first | rfl | assumption | (rw [hR]; rfl) | (dsimp only; rw [hR]; rfl)) (by decide) rfl ?_
        refine k_goto (t := 210) i_104_45 rfl ?_
        dsimp only
        exact fin _ ((((mf1.tr (MFr.up (by omega))).tr (MFr.up (by omega))).tr (MFr.up (by omega))).tr (MFr.up (by omega))) (Or.inl ⟨_, rfl, by omega, (q_up_n (by omega)).trans ((q_up_n (by omega)).trans q_up_s)⟩)
end MI2
