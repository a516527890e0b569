/-! QUICKEST AND LINE: both sides -/
theorem lK_ex {T : Tn} (hOK : tOK T) {nt : Int} (h01 : nt = 0 ∨ nt = 1) {a b : Int} (ha : 0 ≤ a ∧ a < tN T) (hb : 0 ≤ b ∧ b < tN T) : ∃ l, lK T nt a b 61 l := by
  have h := m_findLine (d := 0) (I := (dS T nt).1) (X := (dS T nt).2) (T := T) (nt := nt) (a := a) (b := b) ⟨⟨rfl, rfl, rfl, rfl, rfl, rfl, rfl, rfl, rfl⟩, rfl, hOK, rfl, h01⟩ ha hb
  obtain ⟨-, n, r, V, -, S', -, -, I', -, -, hf⟩ := h
  exact ⟨_, hf⟩
/-- the least pence by just so many steps -/
noncomputable def Lw (T : Tn) (nt a b : Int) : Nat → Int := Classical.epsilon (fun l => lK T nt a b 61 l)
theorem Lw_lK {T : Tn} (hOK : tOK T) {nt : Int} (h01 : nt = 0 ∨ nt = 1) {a b : Int} (ha : 0 ≤ a ∧ a < tN T) (hb : 0 ≤ b ∧ b < tN T) : lK T nt a b 61 (Lw T nt a b) := Classical.epsilon_spec (p := fun l => lK T nt a b 61 l) (lK_ex hOK h01 ha hb)
theorem lK_eq {T : Tn} (hw : tWF T) {nt a b : Int} (ha : 0 ≤ a ∧ a < tN T) {l l' : Nat → Int} (h : lK T nt a b 61 l) (h' : lK T nt a b 61 l') {j : Nat} (hj : j < 61) : l j = l' j := by
  have := (h j hj).eq (h' j hj) (fun v ⟨t, t1, t2⟩ => by have := (PW_range hw ha j t v t2).2; omega)
  omega
theorem Lw_range {T : Tn} (hOK : tOK T) {nt : Int} (h01 : nt = 0 ∨ nt = 1) {a b : Int} (ha : 0 ≤ a ∧ a < tN T) (hb : 0 ≤ b ∧ b < tN T) {j : Nat} (hj : j < 61) : 0 ≤ Lw T nt a b j ∧ Lw T nt a b j ≤ 100000000 := by
  obtain ⟨h1, h2, h3⟩ := Lw_lK hOK h01 ha hb j hj
  rcases h3 with e | ⟨t, t1, t2⟩
  · omega
  · have := (PW_range hOK.1 ha j t _ t2).2; omega
/-- as the class has it -/
noncomputable def LX (T : Tn) (nt a b : Int) (j : Nat) : Int := if Lw T nt a b j < 100000000 then Lw T nt a b j else 1073741824
theorem LX_of {T : Tn} (hOK : tOK T) {nt : Int} (h01 : nt = 0 ∨ nt = 1) {a b : Int} (ha : 0 ≤ a ∧ a < tN T) (hb : 0 ≤ b ∧ b < tN T) {j : Nat} (hj : j < 61) {v : Int} (h : MinOf (fun u => ∃ t : Int, t / 17 = b ∧ PW T nt a j t u) 1073741824 v) : v = LX T nt a b j := by
  have := (Lw_lK hOK h01 ha hb j hj).eq h (fun v ⟨t, t1, t2⟩ => by have := (PW_range hOK.1 ha j t v t2).2; omega)
  unfold LX
  rcases this with ⟨h1, h2, h3⟩ | ⟨h1, h2⟩
  · rw [if_pos h1]; omega
  · rw [if_neg (by omega)]; omega
/-- no way is cheaper than the cheapest -/
theorem D_PW {T : Tn} (hOK : tOK T) {nt : Int} (h01 : nt = 0 ∨ nt = 1) {a b : Int} (ho : tOpen T a = true) (hb : 0 ≤ b ∧ b < tN T) : ∀ (k : Nat) (t v : Int), PW T nt a k t v → D T nt (tMask T 2) b (17 * a + 16) ≤ D T nt (tMask T 2) b t + 1000 * v + k
  | 0, t, v, h => by obtain ⟨rfl, rfl⟩ := h; omega
  | k + 1, t, v, h => by
    have hPW := h
    obtain ⟨s, q, u, h1, h2, h3, h4, h5⟩ := h
    have hw := hOK.1
    have ih := D_PW hOK h01 ho hb k s u h1
    have hs := (PW_range hw (open_lt ho) k s u h1).1
    have ht := (PW_range hw (open_lt ho) (k + 1) t v hPW).1
    have hfx := D_fx hw h01 (el := tMask T 2) (by have := tMask_lt T 2; omega) hb
    have hos := PW_sq hw ho h1
    by_cases e : s / 17 = b
    · have e1 := (hfx s hs.1 hs.2).2.1 e
      have e2 := (hfx t ht.1 ht.2).1
      have hpr := tPrice4 hw (nt := nt) (r := mRun s q) (mE_run (T := T) (el := tMask T 2) (by omega))
      omega
    · have e1 := (hfx s hs.1 hs.2).2.2.2.1 e (open_house hw ⟨Int.ediv_nonneg hs.1 (by omega), by omega⟩ rfl hos) q h2.1 h2.2 (by omega)
      rw [h4] at e1
      omega
theorem pX_floor {T : Tn} (hOK : tOK T) {nt : Int} (h01 : nt = 0 ∨ nt = 1) {a b : Int} (ho : tOpen T a = true) (hob : tOpen T b = true) {j : Nat} (hj : j < 61) (hL : Lw T nt a b j < 100000000) : pX T nt b a ≤ Lw T nt a b j := by
  have hw := hOK.1
  have ha := open_lt ho
  have hb := open_lt hob
  obtain ⟨h1, h2, h3⟩ := Lw_lK hOK h01 ha hb j hj
  rcases h3 with e | ⟨t, t1, t2⟩
  · omega
  · have r := PW_range hw ha j t _ t2
    have e := D_PW hOK h01 ho hb j t _ t2
    have hfx := D_fx hw h01 (el := tMask T 2) (by have := tMask_lt T 2; omega) hb
    have e1 := (hfx t r.1.1 r.1.2).2.1 t1
    have hD : D T nt (tMask T 2) b (17 * a + 16) < 100000000 := by omega
    obtain ⟨p, k, e3, e4, e5, e6⟩ := DX_val hw h01 hb (by omega) (by omega) hD
    unfold pX
    rw [if_pos (by omega)]
    omega
theorem pX_range {T : Tn} (hOK : tOK T) {nt : Int} (h01 : nt = 0 ∨ nt = 1) {a b : Int} (ha : 0 ≤ a ∧ a < tN T) (hb : 0 ≤ b ∧ b < tN T) : 0 ≤ pX T nt b a ∧ pX T nt b a ≤ 1073741824 := by
  have hfx := (DX_fx hOK.1 h01 hb (17 * a + 16) (by omega) (by omega)).1
  unfold pX
  split <;> omega
/-- the first of so many -/
noncomputable def fK1 (P : Nat → Prop) [DecidablePred P] : Nat → Nat → Int
  | 0, _ => -9
  | m + 1, k => if P k then (k : Int) else fK1 P m (k + 1)
theorem fK1_none {P : Nat → Prop} [DecidablePred P] : ∀ m k : Nat, (∀ j : Nat, k ≤ j → j < k + m → ¬ P j) → fK1 P m k = -9
  | 0, _, _ => rfl
  | m + 1, k, h => by
    unfold fK1
    rw [if_neg (h k (by omega) (by omega))]
    exact fK1_none m (k + 1) (fun j h1 h2 => h j (by omega) (by omega))
/-- what quickest answers -/
noncomputable def Fqu (T : Tn) (nt a b p : Int) : Int := if (tOpen T a && tOpen T b) = true ∧ 0 ≤ p then fK1 (fun k => Lw T nt a b k < 100000000 ∧ Lw T nt a b k ≤ p) 61 0 else -1
/-- the corners of a line -/
def lnF (L : Nat → Int) (i what : Int) : Nat → Nat → Int → Int → Int
  | 0, _, n, _ => if i < 0 then n else -5
  | m + 1, k, n, fw => if L k < fw then (if n = i then (if what = 0 then (k : Int) else L k) else lnF L i what m (k + 1) (n + 1) (L k)) else lnF L i what m (k + 1) n fw
theorem lnF_none {L : Nat → Int} {i what n fw : Int} : ∀ m k : Nat, (∀ j : Nat, k ≤ j → j < k + m → ¬ L j < fw) → lnF L i what m k n fw = if i < 0 then n else -5
  | 0, _, _ => rfl
  | m + 1, k, h => by
    unfold lnF
    rw [if_neg (h k (by omega) (by omega))]
    exact lnF_none m (k + 1) (fun j h1 h2 => h j (by omega) (by omega))
noncomputable def Fln (T : Tn) (nt a b i what : Int) : Int := if (tOpen T a && tOpen T b) = true ∧ -1 ≤ i ∧ (0 ≤ what ∧ what ≤ 1) then lnF (Lw T nt a b) i what 61 0 0 100000000 else -1
section QM
variable {d : Nat} {T : Tn} {I : Nat → Nat → Int} {X : XX} {nt a b : Int} {Q : Option Value → QS → Prop}
-- method 131: StraightTaxModel.quickest.(III)I
theorem l_mqu (hB : MB I X T nt) (ha : 0 ≤ a ∧ a < tN T) (hb : 0 ≤ b ∧ b < tN T) (hl : lK T nt a b 61 (I 9)) (p : Int) (hp : inJ p) : ∀ (m k : Nat), k + m = 61 → K shM (d + 4) 131 24 [some (.ref 0), some (.int (J a)), some (.int (J b)), some (.int (J p)), some (.int (J (k : Int)))] [] (I, X) (fun r S2 => r = some (.int (J (fK1 (fun k => Lw T nt a b k < 100000000 ∧ Lw T nt a b k ≤ p) m k))) ∧ S2 = (I, X)) := by
  obtain ⟨hT, hR, hOK, hn, h01⟩ := id hB
  intro m
  induction m with
  | zero =>
    intro k hk
    have e : k = 61 := by omega
    subst e
    refine k_iload i_131_24 rfl ?_
    refine k_bipush i_131_26 (by decide) ?_
    refine k_ic_gt (t := 63) i_131_28 rfl (by omega) (by omega) (fun h => ?_) (fun h => ?_)
    · refine k_bipush i_131_63 (by decide) ?_
      refine k_iret i_131_65 qt_131 ?_
      exact ⟨rfl, rfl⟩
    · omega
  | succ m ih =>
    intro k hk
    have hLr := Lw_range hOK h01 ha hb (j := k) (by omega)
    have eL : (I, X).1 9 ((k : Int)).toNat = Lw T nt a b k := by
      show I 9 _ = _
      rw [show ((k : Int)).toNat = k by omega]
      exact lK_eq hOK.1 ha hl (Lw_lK hOK h01 ha hb) (by omega)
    refine k_iload i_131_24 rfl ?_
    refine k_bipush i_131_26 (by decide) ?_
    refine k_ic_gt (t := 63) i_131_28 rfl (by omega) (by omega) (fun h => ?_) (fun h => ?_)
    · omega
    · refine k_aload_n i_131_31 rfl ?_
      refine k_gfR i_131_32 f_12_51 (by first | rfl | assumption | (rw [hR]; rfl) | (dsimp only; rw [hR]; rfl)) (by decide) (by decide) (Or.inr ⟨_, rfl⟩) (by first | rfl | assumption | (rw [hR]; rfl) | (dsimp only; rw [hR]; rfl)) ?_
      refine k_iload i_131_35 rfl ?_
      refine k_iald i_131_37 rfl (by decide) (by omega) (by omega) ?_
      rw [eL]
      refine k_ldc (a := 100000000) i_131_38 n_12_202 (by decide) ?_
      refine k_ic_ge (t := 57) i_131_40 rfl (by omega) (by omega) (fun g => ?_) (fun g => ?_)
      · refine k_iinc i_131_57 rfl (Nat.le_of_ble_eq_true rfl) ?_
        dsimp only [q_st1, q_st2, q_unl]
        refine k_goto (t := 24) i_131_60 rfl ?_
        rw [show fK1 (fun k => Lw T nt a b k < 100000000 ∧ Lw T nt a b k ≤ p) (m + 1) k = fK1 (fun k => Lw T nt a b k < 100000000 ∧ Lw T nt a b k ≤ p) m (k + 1) from by
          show (if _ then _ else _) = _
          rw [if_neg (by omega)]]
        exact ih (k + 1) (by omega)
      · refine k_aload_n i_131_43 rfl ?_
        refine k_gfR i_131_44 f_12_51 (by first | rfl | assumption | (rw [hR]; rfl) | (dsimp only; rw [hR]; rfl)) (by decide) (by decide) (Or.inr ⟨_, rfl⟩) (by first | rfl | assumption | (rw [hR]; rfl) | (dsimp only; rw [hR]; rfl)) ?_
        refine k_iload i_131_47 rfl ?_
        refine k_iald i_131_49 rfl (by decide) (by omega) (by omega) ?_
        rw [eL]
        refine k_iload_n i_131_50 rfl ?_
        refine k_ic_gt (t := 57) i_131_51 rfl (by omega) (by omega) (fun g2 => ?_) (fun g2 => ?_)
        · refine k_iinc i_131_57 rfl (Nat.le_of_ble_eq_true rfl) ?_
          dsimp only [q_st1, q_st2, q_unl]
          refine k_goto (t := 24) i_131_60 rfl ?_
          rw [show fK1 (fun k => Lw T nt a b k < 100000000 ∧ Lw T nt a b k ≤ p) (m + 1) k = fK1 (fun k => Lw T nt a b k < 100000000 ∧ Lw T nt a b k ≤ p) m (k + 1) from by
            show (if _ then _ else _) = _
            rw [if_neg (by omega)]]
          exact ih (k + 1) (by omega)
        · refine k_iload i_131_54 rfl ?_
          refine k_iret i_131_56 qt_131 ?_
          refine ⟨?_, rfl⟩
          show _ = some (Value.int (J (if _ then _ else _)))
          rw [if_pos (by omega)]
theorem m_quickest (hB : MB I X T nt) (a b p : Int) (ha : inJ a) (hb : inJ b) (hp : inJ p) : KC shM (d + 4) 131 [.ref 0, .int (J a), .int (J b), .int (J p)] (I, X) (fun r S2 => r = some (.int (J (Fqu T nt a b p))) ∧ ∃ I', S2 = (I', X) ∧ ScM I I') := by
  obtain ⟨hT, hR, hOK, hn, h01⟩ := id hB
  have hw := hOK.1
  refine k_start ql_131 (Nat.le_of_ble_eq_true rfl) ?_
  simp only [q_en, List.replicate]
  refine k_aload_n i_131_0 rfl ?_
  refine k_iload_n i_131_1 rfl ?_
  refine k_iload_n i_131_2 rfl ?_
  refine k_vp2 i_131_3 c_12_210 qp_126 qo_126 (by first | rfl | assumption | (rw [hR]; rfl) | (dsimp only; rw [hR]; rfl)) (Nat.le_of_ble_eq_true rfl) (m_areOpen hT hw _ _ ha hb) ?_
  refine k_if_eqB (t := 13) i_131_6 rfl (fun h => ?_) (fun h => ?_)
  · refine k_iconst i_131_13 ?_
    refine k_iret i_131_14 qt_131 ?_
    refine ⟨?_, I, rfl, ScM.rf⟩
    unfold Fqu
    rw [if_neg (by rw [h]; simp)]
  · have ho : tOpen T a = true ∧ tOpen T b = true := by simpa using h
    have har := open_lt ho.1
    have hbr := open_lt ho.2
    refine k_iload_n i_131_9 rfl ?_
    refine k_if_ge (t := 15) i_131_10 rfl (by omega) (fun g => ?_) (fun g => ?_)
    · refine k_aload_n i_131_15 rfl ?_
      refine k_iload_n i_131_16 rfl ?_
      refine k_iload_n i_131_17 rfl ?_
      refine k_cv2 i_131_18 c_12_220 qp_132 qo_132 (by first | rfl | assumption | (rw [hR]; rfl) | (dsimp only; rw [hR]; rfl)) (Nat.le_of_ble_eq_true rfl) (m_findLine hB har hbr) (fun v S2 h => ?_)
      obtain ⟨rfl, I1, rfl, hS1, hl⟩ := h
      show K shM (d + 4) 131 21 _ [] _ _
      have hB1 := hB.scr hS1
      refine k_iconst i_131_21 ?_
      refine k_istore i_131_22 (Nat.le_of_ble_eq_true rfl) ?_
      dsimp only [q_st1, q_st2, q_unl]
      refine (l_mqu hB1 har hbr hl p hp 61 0 (by omega)).mono (fun r S2 hh => ?_)
      refine ⟨?_, I1, hh.2, hS1⟩
      rw [hh.1]
      unfold Fqu
      rw [if_pos ⟨by rw [ho.1, ho.2]; rfl, by omega⟩]
    · refine k_iconst i_131_13 ?_
      refine k_iret i_131_14 qt_131 ?_
      refine ⟨?_, I, rfl, ScM.rf⟩
      unfold Fqu
      rw [if_neg (by omega)]
-- method 133: StraightTaxModel.line.(IIII)I
theorem l_mln (hB : MB I X T nt) (ha : 0 ≤ a ∧ a < tN T) (hb : 0 ≤ b ∧ b < tN T) (hl : lK T nt a b 61 (I 9)) (i what : Int) (hi : inJ i) (hwt : 0 ≤ what ∧ what ≤ 1) : ∀ (m k : Nat) (n fw : Int), k + m = 61 → (0 ≤ n ∧ n ≤ k) → (0 ≤ fw ∧ fw ≤ 100000000) → K shM (d + 4) 133 43 [some (.ref 0), some (.int (J a)), some (.int (J b)), some (.int (J i)), some (.int (J what)), some (.int (J n)), some (.int (J fw)), some (.int (J (k : Int)))] [] (I, X) (fun r S2 => r = some (.int (J (lnF (Lw T nt a b) i what m k n fw))) ∧ S2 = (I, X)) := by
  obtain ⟨hT, hR, hOK, hn, h01⟩ := id hB
  intro m
  induction m with
  | zero =>
    intro k n fw hk hnr hfr
    have e : k = 61 := by omega
    subst e
    refine k_iload i_133_43 rfl ?_
    refine k_bipush i_133_45 (by decide) ?_
    refine k_ic_gt (t := 104) i_133_47 rfl (by omega) (by omega) (fun h => ?_) (fun h => ?_)
    · refine k_iload_n i_133_104 rfl ?_
      refine k_if_ge (t := 113) i_133_105 rfl (by omega) (fun g => ?_) (fun g => ?_)
      · refine k_bipush i_133_113 (by decide) ?_
        refine k_iret i_133_115 qt_133 ?_
        exact ⟨by unfold lnF; rw [if_neg (by omega)], rfl⟩
      · refine k_iload i_133_108 rfl ?_
        refine k_goto (t := 115) i_133_110 rfl ?_
        refine k_iret i_133_115 qt_133 ?_
        exact ⟨by unfold lnF; rw [if_pos (by omega)], rfl⟩
    · omega
  | succ m ih =>
    intro k n fw hk hnr hfr
    have hLr := Lw_range hOK h01 ha hb (j := k) (by omega)
    have eL : (I, X).1 9 ((k : Int)).toNat = Lw T nt a b k := by
      show I 9 _ = _
      rw [show ((k : Int)).toNat = k by omega]
      exact lK_eq hOK.1 ha hl (Lw_lK hOK h01 ha hb) (by omega)
    unfold lnF
    refine k_iload i_133_43 rfl ?_
    refine k_bipush i_133_45 (by decide) ?_
    refine k_ic_gt (t := 104) i_133_47 rfl (by omega) (by omega) (fun h => ?_) (fun h => ?_)
    · omega
    · refine k_aload_n i_133_50 rfl ?_
      refine k_gfR i_133_51 f_12_51 (by first | rfl | assumption | (rw [hR]; rfl) | (dsimp only; rw [hR]; rfl)) (by decide) (by decide) (Or.inr ⟨_, rfl⟩) (by first | rfl | assumption | (rw [hR]; rfl) | (dsimp only; rw [hR]; rfl)) ?_
      refine k_iload i_133_54 rfl ?_
      refine k_iald i_133_56 rfl (by decide) (by omega) (by omega) ?_
      rw [eL]
      refine k_iload i_133_57 rfl ?_
      refine k_ic_ge (t := 98) i_133_59 rfl (by omega) (by omega) (fun g => ?_) (fun g => ?_)
      · rw [if_neg (by omega)]
        refine k_iinc i_133_98 rfl (Nat.le_of_ble_eq_true rfl) ?_
        dsimp only [q_st1, q_st2, q_unl]
        refine k_goto (t := 43) i_133_101 rfl ?_
        exact ih (k + 1) n fw (by omega) (by omega) hfr
      · rw [if_pos (by omega)]
        refine k_iload i_133_62 rfl ?_
        refine k_iload_n i_133_64 rfl ?_
        refine k_ic_ne (t := 86) i_133_65 rfl (by omega) (by omega) (fun g2 => ?_) (fun g2 => ?_)
        · rw [if_neg g2]
          refine k_aload_n i_133_86 rfl ?_
          refine k_gfR i_133_87 f_12_51 (by first | rfl | assumption | (rw [hR]; rfl) | (dsimp only; rw [hR]; rfl)) (by decide) (by decide) (Or.inr ⟨_, rfl⟩) (by first | rfl | assumption | (rw [hR]; rfl) | (dsimp only; rw [hR]; rfl)) ?_
          refine k_iload i_133_90 rfl ?_
          refine k_iald i_133_92 rfl (by decide) (by omega) (by omega) ?_
          rw [eL]
          refine k_istore i_133_93 (Nat.le_of_ble_eq_true rfl) ?_
          dsimp only [q_st1, q_st2, q_unl]
          refine k_iinc i_133_95 rfl (Nat.le_of_ble_eq_true rfl) ?_
          dsimp only [q_st1, q_st2, q_unl]
          refine k_iinc i_133_98 rfl (Nat.le_of_ble_eq_true rfl) ?_
          dsimp only [q_st1, q_st2, q_unl]
          refine k_goto (t := 43) i_133_101 rfl ?_
          exact ih (k + 1) (n + 1) _ (by omega) (by omega) hLr
        · rw [if_pos (by omega)]
          refine k_iload i_133_68 rfl ?_
          refine k_if_ne (t := 78) i_133_70 rfl (by omega) (fun g3 => ?_) (fun g3 => ?_)
          · refine k_aload_n i_133_78 rfl ?_
            refine k_gfR i_133_79 f_12_51 (by first | rfl | assumption | (rw [hR]; rfl) | (dsimp only; rw [hR]; rfl)) (by decide) (by decide) (Or.inr ⟨_, rfl⟩) (by first | rfl | assumption | (rw [hR]; rfl) | (dsimp only; rw [hR]; rfl)) ?_
            refine k_iload i_133_82 rfl ?_
            refine k_iald i_133_84 rfl (by decide) (by omega) (by omega) ?_
            rw [eL]
            refine k_iret i_133_85 qt_133 ?_
            exact ⟨by rw [if_neg g3], rfl⟩
          · refine k_iload i_133_73 rfl ?_
            refine k_goto (t := 85) i_133_75 rfl ?_
            refine k_iret i_133_85 qt_133 ?_
            exact ⟨by rw [if_pos (by omega)], rfl⟩
theorem m_line (hB : MB I X T nt) (a b i what : Int) (ha : inJ a) (hb : inJ b) (hi : inJ i) (hwt : inJ what) : KC shM (d + 4) 133 [.ref 0, .int (J a), .int (J b), .int (J i), .int (J what)] (I, X) (fun r S2 => r = some (.int (J (Fln T nt a b i what))) ∧ ∃ I', S2 = (I', X) ∧ ScM I I') := by
  obtain ⟨hT, hR, hOK, hn, h01⟩ := id hB
  have hw := hOK.1
  have bad : ¬ ((tOpen T a && tOpen T b) = true ∧ -1 ≤ i ∧ (0 ≤ what ∧ what ≤ 1)) → K shM (d + 4) 133 25 [some (.ref 0), some (.int (J a)), some (.int (J b)), some (.int (J i)), some (.int (J what)), none, none, none] [] (I, X) (fun r S2 => r = some (.int (J (Fln T nt a b i what))) ∧ ∃ I', S2 = (I', X) ∧ ScM I I') := by
    intro hbad
    refine k_iconst i_133_25 ?_
    refine k_iret i_133_26 qt_133 ?_
    refine ⟨?_, I, rfl, ScM.rf⟩
    unfold Fln
    rw [if_neg hbad]
  refine k_start ql_133 (Nat.le_of_ble_eq_true rfl) ?_
  simp only [q_en, List.replicate]
  refine k_aload_n i_133_0 rfl ?_
  refine k_iload_n i_133_1 rfl ?_
  refine k_iload_n i_133_2 rfl ?_
  refine k_vp2 i_133_3 c_12_210 qp_126 qo_126 (by first | rfl | assumption | (rw [hR]; rfl) | (dsimp only; rw [hR]; rfl)) (Nat.le_of_ble_eq_true rfl) (m_areOpen hT hw _ _ ha hb) ?_
  refine k_if_eqB (t := 25) i_133_6 rfl (fun h => ?_) (fun h => ?_)
  · exact bad (by rw [h]; simp)
  · have ho : tOpen T a = true ∧ tOpen T b = true := by simpa using h
    have har := open_lt ho.1
    have hbr := open_lt ho.2
    refine k_iload_n i_133_9 rfl ?_
    refine k_iconst i_133_10 ?_
    refine k_ic_lt (t := 25) i_133_11 rfl (by omega) (by omega) (fun g => ?_) (fun g => ?_)
    · exact bad (by omega)
    · refine k_iload i_133_14 rfl ?_
      refine k_i2lJ i_133_16 (by omega) ?_
      refine k_lconstJ (a := 0) i_133_17 rfl ?_
      refine k_lconstJ (a := 1) i_133_18 rfl ?_
      refine k_sp3 i_133_19 c_12_72 (by decide) qp_100 (Nat.le_of_ble_eq_true rfl) (m_in _ _ _ (by omega) (by omega) (by omega)) ?_
      refine k_if_neB (t := 27) i_133_22 rfl (fun h => ?_) (fun h => ?_)
      · have g2 := of_decide_eq_true h
        refine k_aload_n i_133_27 rfl ?_
        refine k_iload_n i_133_28 rfl ?_
        refine k_iload_n i_133_29 rfl ?_
        refine k_cv2 i_133_30 c_12_220 qp_132 qo_132 (by first | rfl | assumption | (rw [hR]; rfl) | (dsimp only; rw [hR]; rfl)) (Nat.le_of_ble_eq_true rfl) (m_findLine hB har hbr) (fun v S2 h => ?_)
        obtain ⟨rfl, I1, rfl, hS1, hl⟩ := h
        show K shM (d + 4) 133 33 _ [] _ _
        have hB1 := hB.scr hS1
        refine k_iconst i_133_33 ?_
        refine k_istore i_133_34 (Nat.le_of_ble_eq_true rfl) ?_
        dsimp only [q_st1, q_st2, q_unl]
        refine k_ldc (a := 100000000) i_133_36 n_12_202 (by decide) ?_
        refine k_istore i_133_38 (Nat.le_of_ble_eq_true rfl) ?_
        dsimp only [q_st1, q_st2, q_unl]
        refine k_iconst i_133_40 ?_
        refine k_istore i_133_41 (Nat.le_of_ble_eq_true rfl) ?_
        dsimp only [q_st1, q_st2, q_unl]
        refine (l_mln hB1 har hbr hl i what hi g2 61 0 0 100000000 (by omega) (by omega) (by omega)).mono (fun r S2 hh => ?_)
        refine ⟨?_, I1, hh.2, hS1⟩
        rw [hh.1]
        unfold Fln
        rw [if_pos ⟨by rw [ho.1, ho.2]; rfl, by omega, g2⟩]
      · exact bad (fun z => by rw [decide_eq_true z.2.2] at h; cases h)
end QM
section QX
variable {d : Nat} {T : Tn} {I : Nat → Nat → Int} {X : XX} {h0 s0 w : Nat} {nt a b : Int} {Q : Option Value → QS → Prop}
-- method 78: StraightTax.isFlag.(I)Z
theorem e_isFlag (v : Int) (hv : inJ v) {sh : QH} {S : QS} : KP sh d 78 [.int (J v)] S (.int (J (bi (decide (0 ≤ v ∧ v ≤ 1))))) := by
  refine k_start ql_78 (Nat.le_of_ble_eq_true rfl) ?_
  simp only [q_en, List.replicate]
  refine k_iload_n i_78_0 rfl ?_
  refine k_if_eq (t := 9) i_78_1 rfl (by omega) (fun h1 => ?_) (fun h1 => ?_)
  · refine k_iconst i_78_9 ?_
    refine k_goto (t := 14) i_78_10 rfl ?_
    refine k_nret i_78_14 qt_78 (by first | exact bi_nar _ | rfl) ?_
    exact ⟨by first | rw [decide_eq_true (by omega)]; rfl | rw [decide_eq_false (by omega)]; rfl, rfl⟩
  · refine k_iload_n i_78_4 rfl ?_
    refine k_iconst i_78_5 ?_
    refine k_ic_ne (t := 13) i_78_6 rfl (by omega) (by omega) (fun h6 => ?_) (fun h6 => ?_)
    · refine k_iconst i_78_13 ?_
      refine k_nret i_78_14 qt_78 (by first | exact bi_nar _ | rfl) ?_
      exact ⟨by first | rw [decide_eq_true (by omega)]; rfl | rw [decide_eq_false (by omega)]; rfl, rfl⟩
    · refine k_iconst i_78_9 ?_
      refine k_goto (t := 14) i_78_10 rfl ?_
      refine k_nret i_78_14 qt_78 (by first | exact bi_nar _ | rfl) ?_
      exact ⟨by first | rw [decide_eq_true (by omega)]; rfl | rw [decide_eq_false (by omega)]; rfl, rfl⟩
-- method 83: StraightTax.quickest.(III)I
theorem l_xqu (hW : WX I X h0 s0 w T nt) (ho : tOpen T a = true) (hob : tOpen T b = true) (p : Int) (hp : inJ p) (p0 : 0 ≤ p) : ∀ (m k : Nat) (f : Nat → Int), k + m = 61 → (k ≠ 0 → in400 f ∧ WinOK T nt a f k) → K shX (d + 5) 83 61 [some (.ref 0), some (.int (J a)), some (.int (J b)), some (.int (J p)), some (.int (J (min p 1073741823))), some (.int (J (k : Int)))] [] (sr I 37 f, X) (fun r S2 => r = some (.int (J (fK1 (fun k => Lw T nt a b k < 100000000 ∧ Lw T nt a b k ≤ p) m k))) ∧ ∃ f', S2 = (sr I 37 f', X)) := by
  have hOK := hW.2.2.2.2.2.2.1
  have h01 := hW.2.2.2.2.2.1
  have hR := hW.1
  have ha := open_lt ho
  have hb := open_lt hob
  intro m
  induction m with
  | zero =>
    intro k f hk hf
    have e : k = 61 := by omega
    subst e
    refine k_iload i_83_61 rfl ?_
    refine k_bipush i_83_63 (by decide) ?_
    refine k_ic_gt (t := 93) i_83_65 rfl (by omega) (by omega) (fun h => ?_) (fun h => ?_)
    · refine k_bipush i_83_93 (by decide) ?_
      refine k_iret i_83_95 qt_83 ?_
      exact ⟨rfl, f, rfl⟩
    · omega
  | succ m ih =>
    intro k f hk hf
    have hLr := Lw_range hOK h01 ha hb (j := k) (by omega)
    refine k_iload i_83_61 rfl ?_
    refine k_bipush i_83_63 (by decide) ?_
    refine k_ic_gt (t := 93) i_83_65 rfl (by omega) (by omega) (fun h => ?_) (fun h => ?_)
    · omega
    · refine k_aload_n i_83_68 rfl ?_
      refine k_gfR i_83_69 f_11_47 (by first | rfl | assumption | (rw [hR]; rfl) | (dsimp only; rw [hR]; rfl)) (by decide) (by decide) (Or.inl ⟨_, rfl⟩) (by first | rfl | assumption | (rw [hR]; rfl) | (dsimp only; rw [hR]; rfl)) ?_
      refine k_iload i_83_72 rfl ?_
      refine k_iload_n i_83_74 rfl ?_
      refine k_iload_n i_83_75 rfl ?_
      refine k_cv3 i_83_76 c_11_213 qp_60 qo_60 (by first | rfl | assumption | (rw [hR]; rfl) | (dsimp only; rw [hR]; rfl)) (Nat.le_of_ble_eq_true rfl) (e_leastIn hW ho hob k (by omega) f hf) (fun v S2 h => ?_)
      obtain ⟨x, f', rfl, hx, rfl, g1, g2⟩ := h
      have ex := LX_of hOK h01 ha hb (by omega) hx
      have hxr : 0 ≤ x ∧ x ≤ 1073741824 := by rw [ex]; unfold LX; split <;> omega
      show K shX (d + 5) 83 79 _ [.int (J x)] _ _
      refine k_iload i_83_79 rfl ?_
      refine k_ic_gt (t := 87) i_83_81 rfl (by omega) (by omega) (fun g => ?_) (fun g => ?_)
      · refine k_iinc i_83_87 rfl (Nat.le_of_ble_eq_true rfl) ?_
        dsimp only [q_st1, q_st2, q_unl]
        refine k_goto (t := 61) i_83_90 rfl ?_
        rw [show fK1 (fun k => Lw T nt a b k < 100000000 ∧ Lw T nt a b k ≤ p) (m + 1) k = fK1 (fun k => Lw T nt a b k < 100000000 ∧ Lw T nt a b k ≤ p) m (k + 1) from by
          show (if _ then _ else _) = _
          rw [if_neg (by intro z; rw [ex] at g; unfold LX at g; rw [if_pos z.1] at g; omega)]]
        exact ih (k + 1) f' (by omega) (fun _ => ⟨g1, g2⟩)
      · refine k_iload i_83_84 rfl ?_
        refine k_iret i_83_86 qt_83 ?_
        refine ⟨?_, f', rfl⟩
        show _ = some (Value.int (J (if _ then _ else _)))
        rw [if_pos]
        rw [ex] at g
        unfold LX at g
        by_cases z : Lw T nt a b k < 100000000
        · rw [if_pos z] at g; exact ⟨z, by omega⟩
        · rw [if_neg z] at g; omega
theorem x_quickest (hB : XB I X h0 s0 w T nt) (a b p : Int) (ha : inJ a) (hb : inJ b) (hp : inJ p) : KC shX (d + 6) 83 [.ref 0, .int (J a), .int (J b), .int (J p)] (I, X) (fun r S2 => r = some (.int (J (Fqu T nt a b p))) ∧ ∃ I' w', S2 = (I', X.1, rX h0 s0 w') ∧ Scr I I') := by
  obtain ⟨hR, hh, hT, hX, hOK, hnt, h01, hz⟩ := hB
  have hw := hOK.1
  have hN := tN_le hw
  have same : ∃ I' w', (I, X) = (I', X.1, rX h0 s0 w') ∧ Scr I I' := ⟨I, w, by rw [← hR], Scr.rfl'⟩
  refine k_start ql_83 (Nat.le_of_ble_eq_true rfl) ?_
  simp only [q_en, List.replicate]
  refine k_aload_n i_83_0 rfl ?_
  refine k_iload_n i_83_1 rfl ?_
  refine k_iload_n i_83_2 rfl ?_
  refine k_vp2 i_83_3 c_11_183 qp_82 qo_82 (by first | rfl | assumption | (rw [hR]; rfl) | (dsimp only; rw [hR]; rfl)) (Nat.le_of_ble_eq_true rfl) (e_areEnds hR hT hw _ _ ha hb) ?_
  refine k_if_eqB (t := 13) i_83_6 rfl (fun h => ?_) (fun h => ?_)
  · refine k_iconst i_83_13 ?_
    refine k_iret i_83_14 qt_83 ?_
    refine ⟨?_, same⟩
    unfold Fqu
    rw [if_neg (by rw [h]; simp)]
  · have ho : tOpen T a = true ∧ tOpen T b = true := by simpa using h
    have har := open_lt ho.1
    have hbr := open_lt ho.2
    refine k_iload_n i_83_9 rfl ?_
    refine k_if_ge (t := 15) i_83_10 rfl (by omega) (fun g => ?_) (fun g => ?_)
    · refine k_aload_n i_83_15 rfl ?_
      refine k_gfR i_83_16 f_11_47 (by first | rfl | assumption | (rw [hR]; rfl) | (dsimp only; rw [hR]; rfl)) (by decide) (by decide) (Or.inl ⟨_, rfl⟩) (by first | rfl | assumption | (rw [hR]; rfl) | (dsimp only; rw [hR]; rfl)) ?_
      refine k_aload_n i_83_19 rfl ?_
      refine k_gfR i_83_20 f_11_54 (by first | rfl | assumption | (rw [hR]; rfl) | (dsimp only; rw [hR]; rfl)) (by decide) (by decide) (Or.inl ⟨_, rfl⟩) (by first | rfl | assumption | (rw [hR]; rfl) | (dsimp only; rw [hR]; rfl)) ?_
      refine k_aload_n i_83_23 rfl ?_
      refine k_gfR i_83_24 f_11_19 (by first | rfl | assumption | (rw [hR]; rfl) | (dsimp only; rw [hR]; rfl)) (by decide) (by decide) (Or.inl ⟨_, rfl⟩) (by first | rfl | assumption | (rw [hR]; rfl) | (dsimp only; rw [hR]; rfl)) ?_
      refine k_gfI i_83_27 f_11_99 rfl (by decide) (by decide) (Or.inr rfl) ?_
      rw [show (I, X).1 3 3 = nt from hnt]
      refine k_cv2 i_83_30 c_11_176 qp_47 qo_47 (by first | rfl | assumption | (rw [hR]; rfl) | (dsimp only; rw [hR]; rfl)) (Nat.le_of_ble_eq_true rfl) (e_look (d := d + 4) hh hR hT hX hOK h01 hz) (fun v S2 h => ?_)
      obtain ⟨rfl, I1, rfl, hS1, hW1⟩ := h
      show K shX (d + 6) 83 33 _ [] _ _
      have hR1 : (X.1, rX h0 s0 h0).2 = rX h0 s0 h0 := rfl
      refine k_iload_n i_83_33 rfl ?_
      refine k_ldc (a := 1073741823) i_83_34 n_11_204 (by decide) ?_
      refine k_sp2 i_83_36 c_11_205 (by decide) qp_155 (Nat.le_of_ble_eq_true rfl) (e_min _ _ (by omega) (by omega)) ?_
      refine k_istore i_83_39 (Nat.le_of_ble_eq_true rfl) ?_
      dsimp only [q_st1, q_st2, q_unl]
      refine k_aload_n i_83_41 rfl ?_
      refine k_gfR i_83_42 f_11_47 (by first | rfl | assumption | (rw [hR]; rfl) | (dsimp only; rw [hR]; rfl)) (by decide) (by decide) (Or.inl ⟨_, rfl⟩) (by first | rfl | assumption | (rw [hR]; rfl) | (dsimp only; rw [hR]; rfl)) ?_
      refine k_iload_n i_83_45 rfl ?_
      refine k_iload_n i_83_46 rfl ?_
      refine k_cv2 i_83_47 c_11_210 qp_58 qo_58 (by first | rfl | assumption | (rw [hR]; rfl) | (dsimp only; rw [hR]; rfl)) (Nat.le_of_ble_eq_true rfl) (e_leastPence hW1 hbr a (by omega) ho.1) (fun v S2 h => ?_)
      obtain ⟨rfl, I2, rfl, hS2, hA⟩ := h
      show K shX (d + 6) 83 50 _ [.int (J (pX T nt b a))] _ _
      have hpr := pX_range hOK h01 har hbr
      have eF : Fqu T nt a b p = fK1 (fun k => Lw T nt a b k < 100000000 ∧ Lw T nt a b k ≤ p) 61 0 := by
        unfold Fqu
        rw [if_pos ⟨by rw [ho.1, ho.2]; rfl, by omega⟩]
      rw [eF]
      refine k_iload i_83_50 rfl ?_
      refine k_ic_le (t := 58) i_83_52 rfl (by omega) (by omega) (fun g2 => ?_) (fun g2 => ?_)
      · refine k_iconst i_83_58 ?_
        refine k_istore i_83_59 (Nat.le_of_ble_eq_true rfl) ?_
        dsimp only [q_st1, q_st2, q_unl]
        have hl := l_xqu (d := d + 1) hA.1 ho.1 ho.2 p hp (by omega) 61 0 (I2 37) (by omega) (fun z => absurd rfl z)
        rw [sr_id] at hl
        refine hl.mono (fun r S2 hh => ⟨hh.1, ?_⟩)
        obtain ⟨f', e⟩ := hh.2
        exact ⟨_, h0, e, (hS1.trans hS2).trans (Scr.row (by omega))⟩
      · refine k_bipush i_83_55 (by decide) ?_
        refine k_iret i_83_57 qt_83 ?_
        refine ⟨?_, I2, h0, rfl, hS1.trans hS2⟩
        rw [fK1_none]
        rintro j - hj ⟨z1, z2⟩
        have := pX_floor hOK h01 ho.1 ho.2 (j := j) (by omega) z1
        omega
    · refine k_iconst i_83_13 ?_
      refine k_iret i_83_14 qt_83 ?_
      refine ⟨?_, same⟩
      unfold Fqu
      rw [if_neg (by omega)]
-- method 84: StraightTax.line.(IIII)I
theorem l_xln (hW : WX I X h0 s0 w T nt) (ho : tOpen T a = true) (hob : tOpen T b = true) (i what : Int) (hi : inJ i) (i1 : -1 ≤ i) (hwt : 0 ≤ what ∧ what ≤ 1) : ∀ (m k : Nat) (f : Nat → Int) (n fw lw : Int) (x9 : Option Value), lw = (if fw < 100000000 then fw else 1073741824) → k + m = 61 → (k ≠ 0 → in400 f ∧ WinOK T nt a f k) → (0 ≤ n ∧ n ≤ k) → (0 ≤ fw ∧ fw ≤ 100000000) → K shX (d + 5) 84 63 [some (.ref 0), some (.int (J a)), some (.int (J b)), some (.int (J i)), some (.int (J what)), some (.int (J (pX T nt b a))), some (.int (J lw)), some (.int (J n)), some (.int (J (k : Int))), x9] [] (sr I 37 f, X) (fun r S2 => r = some (.int (J (lnF (Lw T nt a b) i what m k n fw))) ∧ ∃ f', S2 = (sr I 37 f', X)) := by
  have hOK := hW.2.2.2.2.2.2.1
  have h01 := hW.2.2.2.2.2.1
  have hR := hW.1
  have ha := open_lt ho
  have hb := open_lt hob
  have hpr := pX_range hOK h01 ha hb
  have fin : ∀ (m k : Nat) (f : Nat → Int) (n fw lw : Int) (x9 : Option Value), (0 ≤ n ∧ n ≤ 61) → (∀ j : Nat, k ≤ j → j < k + m → ¬ Lw T nt a b j < fw) → K shX (d + 5) 84 129 [some (.ref 0), some (.int (J a)), some (.int (J b)), some (.int (J i)), some (.int (J what)), some (.int (J (pX T nt b a))), some (.int (J lw)), some (.int (J n)), some (.int (J (k : Int))), x9] [] (sr I 37 f, X) (fun r S2 => r = some (.int (J (lnF (Lw T nt a b) i what m k n fw))) ∧ ∃ f', S2 = (sr I 37 f', X)) := by
    intro m k f n fw lw x9 hn hL
    rw [lnF_none m k hL]
    refine k_iload_n i_84_129 rfl ?_
    refine k_iconst i_84_130 ?_
    refine k_ic_ne (t := 139) i_84_131 rfl (by omega) (by omega) (fun g => ?_) (fun g => ?_)
    · refine k_bipush i_84_139 (by decide) ?_
      refine k_iret i_84_141 qt_84 ?_
      exact ⟨by rw [if_neg (by omega)], f, rfl⟩
    · refine k_iload i_84_134 rfl ?_
      refine k_goto (t := 141) i_84_136 rfl ?_
      refine k_iret i_84_141 qt_84 ?_
      exact ⟨by rw [if_pos (by omega)], f, rfl⟩
  intro m
  induction m with
  | zero =>
    intro k f n fw lw x9 hlw0 hk hf hn hfr
    have e : k = 61 := by omega
    subst e
    refine k_iload i_84_63 rfl ?_
    refine k_bipush i_84_65 (by decide) ?_
    refine k_ic_gt (t := 129) i_84_67 rfl (by omega) (by omega) (fun h => ?_) (fun h => ?_)
    · exact fin 0 61 f n fw _ x9 (by omega) (fun j h1 h2 => by omega)
    · omega
  | succ m ih =>
    intro k f n fw lw x9 hlw0 hk hf hn hfr
    have hLr := Lw_range hOK h01 ha hb (j := k) (by omega)
    have hlw : (fw < 100000000 ∧ lw = fw) ∨ (fw = 100000000 ∧ lw = 1073741824) := by rw [hlw0]; split <;> omega
    refine k_iload i_84_63 rfl ?_
    refine k_bipush i_84_65 (by decide) ?_
    refine k_ic_gt (t := 129) i_84_67 rfl (by omega) (by omega) (fun h => ?_) (fun h => ?_)
    · omega
    · refine k_iload i_84_70 rfl ?_
      refine k_iload i_84_72 rfl ?_
      refine k_ic_le (t := 129) i_84_74 rfl (by omega) (by omega) (fun g => ?_) (fun g => ?_)
      · refine fin (m + 1) k f n fw _ x9 (by omega) (fun j h1 h2 h3 => ?_)
        have := pX_floor hOK h01 ho hob (j := j) (by omega) (by omega)
        omega
      · refine k_aload_n i_84_77 rfl ?_
        refine k_gfR i_84_78 f_11_47 (by first | rfl | assumption | (rw [hR]; rfl) | (dsimp only; rw [hR]; rfl)) (by decide) (by decide) (Or.inl ⟨_, rfl⟩) (by first | rfl | assumption | (rw [hR]; rfl) | (dsimp only; rw [hR]; rfl)) ?_
        refine k_iload i_84_81 rfl ?_
        refine k_iload_n i_84_83 rfl ?_
        refine k_iload_n i_84_84 rfl ?_
        refine k_cv3 i_84_85 c_11_213 qp_60 qo_60 (by first | rfl | assumption | (rw [hR]; rfl) | (dsimp only; rw [hR]; rfl)) (Nat.le_of_ble_eq_true rfl) (e_leastIn hW ho hob k (by omega) f hf) (fun v S2 h => ?_)
        obtain ⟨x, f', rfl, hx, rfl, g1, g2⟩ := h
        have ex := LX_of hOK h01 ha hb (by omega) hx
        have hxr : 0 ≤ x ∧ x ≤ 1073741824 := by rw [ex]; unfold LX; split <;> omega
        show K shX (d + 5) 84 88 _ [.int (J x)] _ _
        unfold lnF
        refine k_istore i_84_88 (Nat.le_of_ble_eq_true rfl) ?_
        dsimp only [q_st1, q_st2, q_unl]
        refine k_iload i_84_90 rfl ?_
        refine k_iload i_84_92 rfl ?_
        refine k_ic_ge (t := 123) i_84_94 rfl (by omega) (by omega) (fun g3 => ?_) (fun g3 => ?_)
        · rw [if_neg (by rw [ex] at g3; unfold LX at g3; intro z; rw [if_pos (by omega)] at g3; omega)]
          refine k_iinc i_84_123 rfl (Nat.le_of_ble_eq_true rfl) ?_
          dsimp only [q_st1, q_st2, q_unl]
          refine k_goto (t := 63) i_84_126 rfl ?_
          exact ih (k + 1) f' n fw lw _ hlw0 (by omega) (fun _ => ⟨g1, g2⟩) (by omega) hfr
        · have hlt : Lw T nt a b k < 100000000 := by
            by_cases z : Lw T nt a b k < 100000000
            · exact z
            · rw [ex] at g3; unfold LX at g3; rw [if_neg z] at g3; omega
          have exL : x = Lw T nt a b k := by rw [ex]; unfold LX; rw [if_pos hlt]
          rw [if_pos (by omega)]
          refine k_iload i_84_97 rfl ?_
          refine k_iload_n i_84_99 rfl ?_
          refine k_ic_ne (t := 116) i_84_100 rfl (by omega) (by omega) (fun g4 => ?_) (fun g4 => ?_)
          · rw [if_neg g4]
            refine k_iload i_84_116 rfl ?_
            refine k_istore i_84_118 (Nat.le_of_ble_eq_true rfl) ?_
            dsimp only [q_st1, q_st2, q_unl]
            refine k_iinc i_84_120 rfl (Nat.le_of_ble_eq_true rfl) ?_
            dsimp only [q_st1, q_st2, q_unl]
            refine k_iinc i_84_123 rfl (Nat.le_of_ble_eq_true rfl) ?_
            dsimp only [q_st1, q_st2, q_unl]
            refine k_goto (t := 63) i_84_126 rfl ?_
            exact ih (k + 1) f' (n + 1) (Lw T nt a b k) x (some (.int (J x))) (by rw [if_pos hlt]; exact exL) (by omega) (fun _ => ⟨g1, g2⟩) (by omega) hLr
          · rw [if_pos (by omega)]
            refine k_iload i_84_103 rfl ?_
            refine k_if_ne (t := 113) i_84_105 rfl (by omega) (fun g5 => ?_) (fun g5 => ?_)
            · refine k_iload i_84_113 rfl ?_
              refine k_iret i_84_115 qt_84 ?_
              exact ⟨by rw [if_neg g5, exL], f', rfl⟩
            · refine k_iload i_84_108 rfl ?_
              refine k_goto (t := 115) i_84_110 rfl ?_
              refine k_iret i_84_115 qt_84 ?_
              exact ⟨by rw [if_pos (by omega)], f', rfl⟩
theorem x_line (hB : XB I X h0 s0 w T nt) (a b i what : Int) (ha : inJ a) (hb : inJ b) (hi : inJ i) (hwt : inJ what) : KC shX (d + 6) 84 [.ref 0, .int (J a), .int (J b), .int (J i), .int (J what)] (I, X) (fun r S2 => r = some (.int (J (Fln T nt a b i what))) ∧ ∃ I' w', S2 = (I', X.1, rX h0 s0 w') ∧ Scr I I') := by
  obtain ⟨hR, hh, hT, hX, hOK, hnt, h01, hz⟩ := hB
  have hw := hOK.1
  have hN := tN_le hw
  have same : ∃ I' w', (I, X) = (I', X.1, rX h0 s0 w') ∧ Scr I I' := ⟨I, w, by rw [← hR], Scr.rfl'⟩
  have bad : ¬ ((tOpen T a && tOpen T b) = true ∧ -1 ≤ i ∧ (0 ≤ what ∧ what ≤ 1)) → K shX (d + 6) 84 22 [some (.ref 0), some (.int (J a)), some (.int (J b)), some (.int (J i)), some (.int (J what)), none, none, none, none, none] [] (I, X) (fun r S2 => r = some (.int (J (Fln T nt a b i what))) ∧ ∃ I' w', S2 = (I', X.1, rX h0 s0 w') ∧ Scr I I') := by
    intro hbad
    refine k_iconst i_84_22 ?_
    refine k_iret i_84_23 qt_84 ?_
    refine ⟨?_, same⟩
    unfold Fln
    rw [if_neg hbad]
  refine k_start ql_84 (Nat.le_of_ble_eq_true rfl) ?_
  simp only [q_en, List.replicate]
  refine k_aload_n i_84_0 rfl ?_
  refine k_iload_n i_84_1 rfl ?_
  refine k_iload_n i_84_2 rfl ?_
  refine k_vp2 i_84_3 c_11_183 qp_82 qo_82 (by first | rfl | assumption | (rw [hR]; rfl) | (dsimp only; rw [hR]; rfl)) (Nat.le_of_ble_eq_true rfl) (e_areEnds hR hT hw _ _ ha hb) ?_
  refine k_if_eqB (t := 22) i_84_6 rfl (fun h => ?_) (fun h => ?_)
  · exact bad (by rw [h]; simp)
  · have ho : tOpen T a = true ∧ tOpen T b = true := by simpa using h
    have har := open_lt ho.1
    have hbr := open_lt ho.2
    refine k_iload_n i_84_9 rfl ?_
    refine k_iconst i_84_10 ?_
    refine k_ic_lt (t := 22) i_84_11 rfl (by omega) (by omega) (fun g => ?_) (fun g => ?_)
    · exact bad (by omega)
    · refine k_iload i_84_14 rfl ?_
      refine k_sp1 i_84_16 c_11_170 (by decide) qp_78 (Nat.le_of_ble_eq_true rfl) (e_isFlag _ (by omega)) ?_
      refine k_if_neB (t := 24) i_84_19 rfl (fun h => ?_) (fun h => ?_)
      · have g2 := of_decide_eq_true h
        refine k_aload_n i_84_24 rfl ?_
        refine k_gfR i_84_25 f_11_47 (by first | rfl | assumption | (rw [hR]; rfl) | (dsimp only; rw [hR]; rfl)) (by decide) (by decide) (Or.inl ⟨_, rfl⟩) (by first | rfl | assumption | (rw [hR]; rfl) | (dsimp only; rw [hR]; rfl)) ?_
        refine k_aload_n i_84_28 rfl ?_
        refine k_gfR i_84_29 f_11_54 (by first | rfl | assumption | (rw [hR]; rfl) | (dsimp only; rw [hR]; rfl)) (by decide) (by decide) (Or.inl ⟨_, rfl⟩) (by first | rfl | assumption | (rw [hR]; rfl) | (dsimp only; rw [hR]; rfl)) ?_
        refine k_aload_n i_84_32 rfl ?_
        refine k_gfR i_84_33 f_11_19 (by first | rfl | assumption | (rw [hR]; rfl) | (dsimp only; rw [hR]; rfl)) (by decide) (by decide) (Or.inl ⟨_, rfl⟩) (by first | rfl | assumption | (rw [hR]; rfl) | (dsimp only; rw [hR]; rfl)) ?_
        refine k_gfI i_84_36 f_11_99 rfl (by decide) (by decide) (Or.inr rfl) ?_
        rw [show (I, X).1 3 3 = nt from hnt]
        refine k_cv2 i_84_39 c_11_176 qp_47 qo_47 (by first | rfl | assumption | (rw [hR]; rfl) | (dsimp only; rw [hR]; rfl)) (Nat.le_of_ble_eq_true rfl) (e_look (d := d + 4) hh hR hT hX hOK h01 hz) (fun v S2 h => ?_)
        obtain ⟨rfl, I1, rfl, hS1, hW1⟩ := h
        show K shX (d + 6) 84 42 _ [] _ _
        have hR1 : (X.1, rX h0 s0 h0).2 = rX h0 s0 h0 := rfl
        refine k_aload_n i_84_42 rfl ?_
        refine k_gfR i_84_43 f_11_47 (by first | rfl | assumption | (rw [hR]; rfl) | (dsimp only; rw [hR]; rfl)) (by decide) (by decide) (Or.inl ⟨_, rfl⟩) (by first | rfl | assumption | (rw [hR]; rfl) | (dsimp only; rw [hR]; rfl)) ?_
        refine k_iload_n i_84_46 rfl ?_
        refine k_iload_n i_84_47 rfl ?_
        refine k_cv2 i_84_48 c_11_210 qp_58 qo_58 (by first | rfl | assumption | (rw [hR]; rfl) | (dsimp only; rw [hR]; rfl)) (Nat.le_of_ble_eq_true rfl) (e_leastPence hW1 hbr a (by omega) ho.1) (fun v S2 h => ?_)
        obtain ⟨rfl, I2, rfl, hS2, hA⟩ := h
        show K shX (d + 6) 84 51 _ [.int (J (pX T nt b a))] _ _
        refine k_istore i_84_51 (Nat.le_of_ble_eq_true rfl) ?_
        dsimp only [q_st1, q_st2, q_unl]
        refine k_ldc (a := 1073741824) i_84_53 n_11_194 (by decide) ?_
        refine k_istore i_84_55 (Nat.le_of_ble_eq_true rfl) ?_
        dsimp only [q_st1, q_st2, q_unl]
        refine k_iconst i_84_57 ?_
        refine k_istore i_84_58 (Nat.le_of_ble_eq_true rfl) ?_
        dsimp only [q_st1, q_st2, q_unl]
        refine k_iconst i_84_60 ?_
        refine k_istore i_84_61 (Nat.le_of_ble_eq_true rfl) ?_
        dsimp only [q_st1, q_st2, q_unl]
        have eF : Fln T nt a b i what = lnF (Lw T nt a b) i what 61 0 0 100000000 := by
          unfold Fln
          rw [if_pos ⟨by rw [ho.1, ho.2]; rfl, by omega, g2⟩]
        rw [eF]
        have hl := l_xln (d := d + 1) hA.1 ho.1 ho.2 i what hi (by omega) g2 61 0 (I2 37) 0 100000000 1073741824 none (by rw [if_neg (by omega)]) (by omega) (fun z => absurd rfl z) (by omega) (by omega)
        rw [sr_id] at hl
        refine hl.mono (fun r S2 hh => ⟨hh.1, ?_⟩)
        obtain ⟨f', e⟩ := hh.2
        exact ⟨_, h0, e, (hS1.trans hS2).trans (Scr.row (by omega))⟩
      · exact bad (fun z => by rw [decide_eq_true z.2.2] at h; cases h)
end QX
