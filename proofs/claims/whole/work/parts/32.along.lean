/-! THE CLASS: the way itself -/
theorem AX.of_aim {I : Nat → Nat → Int} {X : XX} {h s w : Nat} {T : Tn} {nt b : Int} (hW : WX I X h s w T nt) {o n : Nat → Int} (h1 : inF o) (h2 : inF n) (h3 : ∀ c q : Int, 0 ≤ c → c < 20 → 0 ≤ q → q < 4 → pt o c q = eE T nt b (DX T nt b) c q) (h4 : ∀ c l : Int, 0 ≤ c → c < 20 → 0 ≤ l → l < 4 → pt n c l = eV T nt b (DX T nt b) c l) : AX (RI (q_up I 32 2 b) o n) X h s w T nt b := by
  refine ⟨hW.goal.RI, by rw [RI_n (by decide) (by decide)]; exact q_up_s, by rw [RI_35]; exact h1, by rw [RI_36]; exact h2, by rw [RI_35]; exact h3, by rw [RI_36]; exact h4⟩
/-- a state of the reference, as the class has it: square, last direction, run -/
def Rs (T : Tn) (s c l r : Int) : Prop := (0 ≤ c ∧ c < tN T) ∧ tOpen T c = true ∧ ((s = 17 * c + 16 ∧ l = -1 ∧ r = 0) ∨ ((0 ≤ l ∧ l < 4) ∧ (1 ≤ r ∧ r ≤ 4) ∧ s = gs T c l r))
theorem Rs.range {T : Tn} {s c l r : Int} (h : Rs T s c l r) : (0 ≤ s ∧ s < 17 * tN T) ∧ s / 17 = c ∧ (-1 ≤ l ∧ l < 4) ∧ (0 ≤ r ∧ r ≤ 4) := by
  obtain ⟨h1, h2, ⟨h3, h4, h5⟩ | ⟨h3, h4, h5⟩⟩ := h
  · omega
  · have g1 := gs_range (T := T) h1 h3 h4
    have g2 := gs_div (T := T) (c := c) h3 h4
    rw [← h5] at g1 g2
    exact ⟨g1, g2, by omega, by omega⟩
theorem Rs.run {T : Tn} {s c l r : Int} (h : Rs T s c l r) (q : Int) (hq : 0 ≤ q ∧ q < 4) : tRun T c l r q = mRun s q := by
  obtain ⟨h1, h2, ⟨h3, h4, h5⟩ | ⟨h3, h4, h5⟩⟩ := h
  · subst h3; subst h4; subst h5
    unfold tRun mRun
    rw [if_neg (by omega), if_neg (by omega)]
  · rw [h5, mRun_gs h1.1 h3 h4]
    unfold tRun
    by_cases e : q = l ∧ tElb T c = false
    · rw [if_pos e, if_pos ⟨e.2, e.1.symm⟩]
    · rw [if_neg e, if_neg (fun z => e ⟨z.2.symm, z.1⟩)]
theorem Rs.next {T : Tn} (hw : tWF T) {s c l r : Int} (h : Rs T s c l r) {q : Int} (hq : 0 ≤ q ∧ q < 4) (he : 0 ≤ mE T (tMask T 2) s q) : Rs T (mE T (tMask T 2) s q) (nx T c q) q (mRun s q) ∧ 0 ≤ nx T c q := by
  obtain ⟨h1, h2, h3, h4⟩ := h.range
  have h5 := mE_run he
  have h6 := mRun_le s q h1.1
  have e := mE_of hw h1 hq h5
  rw [h2] at e
  have h7 := nx_range hw c q
  by_cases hn : nx T c q < 0
  · rw [if_pos hn] at e; omega
  · rw [if_neg hn] at e
    exact ⟨⟨by omega, nx_open (by omega), Or.inr ⟨hq, by omega, e⟩⟩, by omega⟩
/-- the first of four -/
def fst4 (P : Int → Bool) : Int := if P 0 = true then 0 else if P 1 = true then 1 else if P 2 = true then 2 else 3
def eqE (T : Tn) (nt : Int) (el : Nat) (B : Int) (g : Int → Int) (s q : Int) : Bool := decide (0 ≤ mE T el s q ∧ g s = g (mE T el s q) + B * tPrice T nt (mRun s q) + 1)
def fD (T : Tn) (nt : Int) (el : Nat) (B : Int) (g : Int → Int) (s : Int) : Int := fst4 (eqE T nt el B g s)
theorem fst4_range (P : Int → Bool) : 0 ≤ fst4 P ∧ fst4 P < 4 := by unfold fst4; (repeat' split) <;> omega
theorem fst4_is {P : Int → Bool} (h : ∃ q : Int, (0 ≤ q ∧ q < 4) ∧ P q = true) : P (fst4 P) = true ∧ ∀ q : Int, 0 ≤ q → q < fst4 P → P q = false := by
  obtain ⟨q, hq, hp⟩ := h
  have hb : ∀ x : Int, ¬ P x = true → P x = false := fun x hx => by cases h : P x; rfl; exact absurd h hx
  unfold fst4
  by_cases h0 : P 0 = true
  · rw [if_pos h0]; exact ⟨h0, fun x x0 x1 => by omega⟩
  · rw [if_neg h0]
    by_cases h1 : P 1 = true
    · rw [if_pos h1]; exact ⟨h1, fun x x0 x1 => by rw [show x = 0 by omega]; exact hb 0 h0⟩
    · rw [if_neg h1]
      by_cases h2 : P 2 = true
      · rw [if_pos h2]
        refine ⟨h2, fun x x0 x1 => ?_⟩
        rcases (show x = 0 ∨ x = 1 by omega) with rfl | rfl
        · exact hb 0 h0
        · exact hb 1 h1
      · rw [if_neg h2]
        have h3 : P 3 = true := by
          rcases (show q = 0 ∨ q = 1 ∨ q = 2 ∨ q = 3 by omega) with rfl | rfl | rfl | rfl
          · exact absurd hp h0
          · exact absurd hp h1
          · exact absurd hp h2
          · exact hp
        refine ⟨h3, fun x x0 x1 => ?_⟩
        rcases (show x = 0 ∨ x = 1 ∨ x = 2 by omega) with rfl | rfl | rfl
        · exact hb 0 h0
        · exact hb 1 h1
        · exact hb 2 h2
theorem fst4_congr {P R : Int → Bool} (h : ∀ q : Int, 0 ≤ q → q < 4 → P q = R q) : fst4 P = fst4 R := by
  unfold fst4
  rw [h 0 (by omega) (by omega), h 1 (by omega) (by omega), h 2 (by omega) (by omega)]
/-- the way: its states -/
def pS (T : Tn) (nt : Int) (el : Nat) (B : Int) (g : Int → Int) (s : Int) : Nat → Int
  | 0 => s
  | k + 1 => mE T el (pS T nt el B g s k) (fD T nt el B g (pS T nt el B g s k))
section AL
variable {d : Nat} {T : Tn} {I : Nat → Nat → Int} {X : XX} {h0 s0 w : Nat} {nt b : Int} {Q : Option Value → QS → Prop}
-- method 53: StraightTax$Ways.burdenFrom.(I)I
theorem e_burdenFrom (hA : AX I X h0 s0 w T nt b) (hb : 0 ≤ b ∧ b < tN T) (a : Int) (ha : 0 ≤ a ∧ a < 20) (ho : tOpen T a = true) : KP shX (d + 2) 53 [.ref 32, .int (J a)] (I, X) (.int (J (DX T nt b (17 * a + 16)))) := by
  obtain ⟨hW, hg, ho1, hn1, hE, hV⟩ := id hA
  have hR := hW.1
  have hw := hW.2.2.2.2.2.2.1.1
  have hN := tN_le hw
  have h01 := hW.2.2.2.2.2.1
  have haN : a < tN T := by unfold tOpen tHas at ho; simp at ho; omega
  have hfx := DX_fx hw h01 hb
  refine k_start ql_53 (Nat.le_of_ble_eq_true rfl) ?_
  simp only [q_en, List.replicate]
  refine k_iload_n i_53_0 rfl ?_
  refine k_aload_n i_53_1 rfl ?_
  refine k_gfI i_53_2 f_10_22 (by first | rfl | assumption | (rw [hR]; rfl) | (dsimp only; rw [hR]; rfl)) (by decide) (by decide) (Or.inl rfl) ?_
  rw [show (I, X).1 32 2 = b from hg]
  refine k_ic_ne (t := 12) i_53_5 rfl (by omega) (by omega) (fun h => ?_) (fun h => ?_)
  · refine k_aload_n i_53_12 rfl ?_
    refine k_iload_n i_53_13 rfl ?_
    refine k_iconst i_53_14 ?_
    refine k_vp2 i_53_15 c_10_89 qp_52 qo_52 (by first | rfl | assumption | (rw [hR]; rfl) | (dsimp only; rw [hR]; rfl)) (Nat.le_of_ble_eq_true rfl) (e_turning hR a (-1) ha (by omega) (by intro j hj; have := ho1 j hj; omega)) ?_
    refine k_iret i_53_18 qt_53 ?_
    refine ⟨?_, rfl⟩
    congr 3
    rw [← tu_exact hw hfx ⟨ha.1, haN⟩ h ho]
    exact Int.le_antisymm (tuk_mono 4 (fun q b1 b2 => by rw [hE a q ha.1 ha.2 b1 (by omega)]; exact Int.le_refl _)) (tuk_mono 4 (fun q b1 b2 => by rw [hE a q ha.1 ha.2 b1 (by omega)]; exact Int.le_refl _))
  · refine k_iconst i_53_8 ?_
    refine k_goto (t := 18) i_53_9 rfl ?_
    refine k_iret i_53_18 qt_53 ?_
    refine ⟨?_, rfl⟩
    congr 3
    exact ((hfx (17 * a + 16) (by omega) (by omega)).2.1 (by omega)).symm
-- method 54: StraightTax$Ways.penceOf.(I)I
theorem e_penceOf {sh : QH} {S : QS} (v : Int) (hv : 0 ≤ v ∧ v < 2147483648) : KP sh d 54 [.int (J v)] S (.int (J (v / 1024))) := by
  refine k_start ql_54 (Nat.le_of_ble_eq_true rfl) ?_
  simp only [q_en, List.replicate]
  refine k_iload_n i_54_0 rfl ?_
  refine k_sipush i_54_1 (by decide) ?_
  refine k_idiv i_54_4 (by omega) (by omega) (by omega) (by omega) ?_
  refine k_iret i_54_5 qt_54 ?_
  exact ⟨rfl, rfl⟩
-- method 55: StraightTax$Ways.stepsOf.(I)I
theorem e_stepsOf {sh : QH} {S : QS} (v : Int) (hv : 0 ≤ v ∧ v < 2147483648) : KP sh d 55 [.int (J v)] S (.int (J (v % 1024))) := by
  refine k_start ql_55 (Nat.le_of_ble_eq_true rfl) ?_
  simp only [q_en, List.replicate]
  refine k_iload_n i_55_0 rfl ?_
  refine k_sipush i_55_1 (by decide) ?_
  refine k_irem i_55_4 (by omega) (by omega) (by omega) (by omega) ?_
  refine k_iret i_55_5 qt_55 ?_
  exact ⟨rfl, rfl⟩
/-- pence, as the class has them: no way 2^30 -/
noncomputable def pX (T : Tn) (nt b a : Int) : Int := if DX T nt b (17 * a + 16) < 1073741824 then DX T nt b (17 * a + 16) / 1024 else 1073741824
-- method 59: StraightTax$Ways.penceFrom.(I)I
theorem e_penceFrom (hA : AX I X h0 s0 w T nt b) (hb : 0 ≤ b ∧ b < tN T) (a : Int) (ha : 0 ≤ a ∧ a < 20) (ho : tOpen T a = true) : KP shX (d + 3) 59 [.ref 32, .int (J a)] (I, X) (.int (J (pX T nt b a))) := by
  have hW := hA.1
  have hw := hW.2.2.2.2.2.2.1.1
  have hN := tN_le hw
  have h01 := hW.2.2.2.2.2.1
  have haN : a < tN T := by unfold tOpen tHas at ho; simp at ho; omega
  have hfx := (DX_fx hw h01 hb (17 * a + 16) (by omega) (by omega)).1
  refine k_start ql_59 (Nat.le_of_ble_eq_true rfl) ?_
  simp only [q_en, List.replicate]
  refine k_aload_n i_59_0 rfl ?_
  refine k_iload_n i_59_1 rfl ?_
  refine k_vp1 i_59_2 c_10_97 qp_53 qo_53 (by first | rfl | assumption | (rw [hR]; rfl) | (dsimp only; rw [hR]; rfl)) (Nat.le_of_ble_eq_true rfl) (e_burdenFrom hA hb a ha ho) ?_
  refine k_istore_n i_59_5 (Nat.le_of_ble_eq_true rfl) ?_
  dsimp only [q_st1, q_st2, q_unl]
  refine k_iload_n i_59_6 rfl ?_
  refine k_ldc (a := 1073741824) i_59_7 n_10_64 (by decide) ?_
  refine k_ic_ge (t := 19) i_59_9 rfl (by omega) (by omega) (fun h => ?_) (fun h => ?_)
  · refine k_ldc (a := 1073741824) i_59_19 n_10_64 (by decide) ?_
    refine k_iret i_59_21 qt_59 ?_
    exact ⟨by unfold pX; rw [if_neg (by omega)], rfl⟩
  · refine k_iload_n i_59_12 rfl ?_
    refine k_sp1 i_59_13 c_10_101 (by decide) qp_54 (Nat.le_of_ble_eq_true rfl) (e_penceOf _ (by omega)) ?_
    refine k_goto (t := 21) i_59_16 rfl ?_
    refine k_iret i_59_21 qt_59 ?_
    exact ⟨by unfold pX; rw [if_pos (by omega)], rfl⟩
theorem ScrAim {I : Nat → Nat → Int} {o n : Nat → Int} {b : Int} : Scr I (RI (q_up I 32 2 b) o n) := Scr.up.trans Scr.RI
/-- aim, as what it is for -/
theorem e_aim' (hW : WX I X h0 s0 w T nt) (hb : 0 ≤ b ∧ b < tN T) : KC shX (d + 4) 49 [.ref 32, .int (J b)] (I, X) (fun r S2 => r = none ∧ ∃ I', S2 = (I', X) ∧ Scr I I' ∧ AX I' X h0 s0 w T nt b) := by
  have hw := hW.2.2.2.2.2.2.1.1
  have hN := tN_le hw
  have h01 := hW.2.2.2.2.2.1
  refine (e_aim hW (by omega) (xfx_of hw (DX_fx hw h01 hb))).mono (fun r S2 h => ?_)
  obtain ⟨h1, o, n, h2, h3, h4, h5, h6⟩ := h
  exact ⟨h1, _, h2, ScrAim, AX.of_aim hW h3 h4 h5 h6⟩
-- method 58: StraightTax$Ways.leastPence.(II)I
theorem e_leastPence (hW : WX I X h0 s0 w T nt) (hb : 0 ≤ b ∧ b < tN T) (a : Int) (ha : 0 ≤ a ∧ a < 20) (ho : tOpen T a = true) : KC shX (d + 5) 58 [.ref 32, .int (J a), .int (J b)] (I, X) (fun r S2 => r = some (.int (J (pX T nt b a))) ∧ ∃ I', S2 = (I', X) ∧ Scr I I' ∧ AX I' X h0 s0 w T nt b) := by
  refine k_start ql_58 (Nat.le_of_ble_eq_true rfl) ?_
  simp only [q_en, List.replicate]
  refine k_aload_n i_58_0 rfl ?_
  refine k_iload_n i_58_1 rfl ?_
  refine k_cv1 i_58_2 c_10_104 qp_49 qo_49 (by first | rfl | assumption | (rw [hR]; rfl) | (dsimp only; rw [hR]; rfl)) (Nat.le_of_ble_eq_true rfl) (e_aim' hW hb) (fun v S2 h => ?_)
  obtain ⟨rfl, I', rfl, hS, hA⟩ := h
  show K shX (d + 5) 58 5 _ [] _ _
  refine k_aload_n i_58_5 rfl ?_
  refine k_iload_n i_58_6 rfl ?_
  refine k_vp1 i_58_7 c_10_108 qp_59 qo_59 (by first | rfl | assumption | (rw [hR]; rfl) | (dsimp only; rw [hR]; rfl)) (Nat.le_of_ble_eq_true rfl) ((e_penceFrom (d := d + 1) hA hb a ha ho)) ?_
  refine k_iret i_58_10 qt_58 ?_
  exact ⟨rfl, I', rfl, hS, hA⟩
/-- what straightOn answers behind aim, from a state -/
theorem sO_state (hA : AX I X h0 s0 w T nt b) (hb : 0 ≤ b ∧ b < tN T) {s c l r q : Int} (hs : Rs T s c l r) (hq : 0 ≤ q ∧ q < 4) : sO T nt (pt (I 36)) q (4 - (mRun s q - 1).toNat) c = if 0 ≤ mE T (tMask T 2) s q then min 1073741824 (DX T nt b (mE T (tMask T 2) s q) + 1024 * tPrice T nt (mRun s q) + 1) else 1073741824 := by
  obtain ⟨hW, hg, ho1, hn1, hE, hV⟩ := id hA
  have hw := hW.2.2.2.2.2.2.1.1
  have hN := tN_le hw
  have h01 := hW.2.2.2.2.2.1
  have hfx := DX_fx hw h01 hb
  obtain ⟨h1, h2, h3, h4⟩ := hs.range
  have hc := hs.1
  have hr := mRun_le s q h1.1
  have eN : ∀ m c', sO T nt (pt (I 36)) q m c' = sO T nt (eV T nt b (DX T nt b)) q m c' := by
    intro m c'
    exact Int.le_antisymm (sO_mono hw (fun u u0 u1 => by rw [hV u q u0 (by omega) hq.1 hq.2]; exact Int.le_refl _) m c') (sO_mono hw (fun u u0 u1 => by rw [hV u q u0 (by omega) hq.1 hq.2]; exact Int.le_refl _) m c')
  rw [eN]
  by_cases h5 : mRun s q ≤ 4
  · have e := mE_of hw h1 hq h5
    rw [h2] at e
    obtain ⟨m, hm⟩ : ∃ m : Nat, 4 - (mRun s q - 1).toNat = m + 1 := ⟨3 - (mRun s q - 1).toNat, by omega⟩
    rw [hm, sO_exact hw hfx hq m c (by omega) hc.1 hc.2, show (4 : Int) - (m : Int) = mRun s q by omega]
    by_cases hn : nx T c q < 0
    · rw [if_pos hn] at e ⊢
      rw [e, if_neg (by omega)]
    · rw [if_neg hn] at e ⊢
      have h6 := nx_range hw c q
      have h7 := gs_range (T := T) (c := nx T c q) (q := q) (r := mRun s q) (by omega) hq (by omega)
      rw [e, if_pos h7.1]
      unfold W1
      congr 1
      omega
  · have e : mE T (tMask T 2) s q = -1 := by unfold mE; rw [if_pos (by omega)]
    rw [e, if_neg (by omega), show 4 - (mRun s q - 1).toNat = 0 by omega]
    rfl
-- method 57: StraightTax$Ways.firstOfBest.(IIII)I
theorem l_first (hA : AX I X h0 s0 w T nt b) (hb : 0 ≤ b ∧ b < tN T) {s c l r : Int} (hs : Rs T s c l r) (hcb : c ≠ b) (hF : DX T nt b s < 1073741824) : ∀ (m k : Nat), k + m = 4 → (k : Int) ≤ fD T nt (tMask T 2) 1024 (DX T nt b) s → K shX (d + 3) 57 3 [some (.ref 32), some (.int (J c)), some (.int (J l)), some (.int (J r)), some (.int (J (DX T nt b s))), some (.int (J (k : Int)))] [] (I, X) (fun r1 S2 => r1 = some (.int (J (fD T nt (tMask T 2) 1024 (DX T nt b) s))) ∧ S2 = (I, X)) := by
  obtain ⟨hW, hg, ho1, hn1, hE, hV⟩ := id hA
  obtain ⟨hR, hw4, hT, hX, hnt, h01, hOK, hwt⟩ := id hW
  obtain ⟨s1, s2, s3, q1, q2, a0, a1, a2, a3, a4, a5, a6, ag⟩ := id hT
  have hw := hOK.1
  have hN := tN_le hw
  have hfx := DX_fx hw h01 hb
  obtain ⟨g1, g2, g3, g4⟩ := hs.range
  have hc := hs.1
  have hfr := fst4_range (eqE T nt (tMask T 2) 1024 (DX T nt b) s)
  have hex : ∃ q : Int, (0 ≤ q ∧ q < 4) ∧ eqE T nt (tMask T 2) 1024 (DX T nt b) s q = true := by
    obtain ⟨q, p1, p2, p3⟩ := (hfx s g1.1 g1.2).2.2.2.2 (by rw [g2]; exact hcb) hF
    exact ⟨q, p1, decide_eq_true ⟨p2, p3⟩⟩
  have hfi := fst4_is hex
  have hDr := (hfx s g1.1 g1.2).1
  intro m
  induction m with
  | zero => intro k hk hle; unfold fD at hle; omega
  | succ m ih =>
    intro k hk hle
    have hq : (0 : Int) ≤ (k : Int) ∧ (k : Int) < 4 := by unfold fD at hle; omega
    have hrun := hs.run k hq
    have hr := mRun_le s k g1.1
    have hso := sO_state hA hb hs hq
    refine k_iload i_57_3 rfl ?_
    refine k_iconst i_57_5 ?_
    refine k_ic_ge (t := 44) i_57_6 rfl (by omega) (by omega) (fun h => ?_) (fun h => ?_)
    · omega
    · refine k_aload_n i_57_9 rfl ?_
      refine k_iload_n i_57_10 rfl ?_
      refine k_iload i_57_11 rfl ?_
      refine k_aload_n i_57_13 rfl ?_
      refine k_gfR i_57_14 f_10_12 (by first | rfl | assumption | (rw [hR]; rfl) | (dsimp only; rw [hR]; rfl)) (by decide) (by decide) (Or.inl ⟨_, rfl⟩) (by first | rfl | assumption | (rw [hR]; rfl) | (dsimp only; rw [hR]; rfl)) ?_
      refine k_iload_n i_57_17 rfl ?_
      refine k_iload_n i_57_18 rfl ?_
      refine k_iload_n i_57_19 rfl ?_
      refine k_iload i_57_20 rfl ?_
      refine k_vp4 i_57_22 c_10_60 qp_33 qo_33 (by first | rfl | assumption | (rw [hR]; rfl) | (dsimp only; rw [hR]; rfl)) (Nat.le_of_ble_eq_true rfl) (e_runOf hT hw _ _ _ _ (by omega) (by omega) (by omega)) ?_
      rw [hrun]
      refine k_iconst i_57_25 ?_
      refine k_isub i_57_26 ?_
      have hst := e_straightOn (d := d) hW c k (by omega) hq (mRun s k - 1).toNat (by omega) hn1
      rw [show (((mRun s k - 1).toNat : Nat) : Int) = mRun s k - 1 by omega, hso] at hst
      have hval : inJ (if 0 ≤ mE T (tMask T 2) s k then min 1073741824 (DX T nt b (mE T (tMask T 2) s k) + 1024 * tPrice T nt (mRun s k) + 1) else 1073741824) := by
        split
        · rename_i he
          have e1 := mE_range hw (el := tMask T 2) g1 hq
          have e2 := (hfx _ he e1.2).1
          have e3 := tPrice4 hw (nt := nt) (mE_run he)
          omega
        · omega
      refine k_vp3 i_57_27 c_10_82 qp_51 qo_51 (by first | rfl | assumption | (rw [hR]; rfl) | (dsimp only; rw [hR]; rfl)) (Nat.le_of_ble_eq_true rfl) hst ?_
      refine k_iload i_57_30 rfl ?_
      refine k_ic_ne (t := 38) i_57_32 rfl hval (by omega) (fun h => ?_) (fun h => ?_)
      · refine k_iinc i_57_38 rfl (Nat.le_of_ble_eq_true rfl) ?_
        dsimp only [q_st1, q_st2, q_unl]
        refine k_goto (t := 3) i_57_41 rfl ?_
        refine ih (k + 1) (by omega) ?_
        have hne : (k : Int) ≠ fD T nt (tMask T 2) 1024 (DX T nt b) s := by
          intro z
          have z1 := hfi.1
          have z2 : fst4 (eqE T nt (tMask T 2) 1024 (DX T nt b) s) = (k : Int) := z.symm
          rw [z2] at z1
          have z3 := of_decide_eq_true z1
          apply h
          rw [if_pos z3.1]
          omega
        omega
      · refine k_iload i_57_35 rfl ?_
        refine k_iret i_57_37 qt_57 ?_
        refine ⟨?_, rfl⟩
        have he : eqE T nt (tMask T 2) 1024 (DX T nt b) s k = true := by
          by_cases hm : 0 ≤ mE T (tMask T 2) s k
          · rw [if_pos hm] at h
            exact decide_eq_true ⟨hm, by omega⟩
          · rw [if_neg hm] at h; omega
        have hkf : (k : Int) = fD T nt (tMask T 2) 1024 (DX T nt b) s := by
          by_cases z : (k : Int) < fD T nt (tMask T 2) 1024 (DX T nt b) s
          · have := hfi.2 k hq.1 z
            rw [he] at this
            cases this
          · omega
        rw [hkf]
theorem e_firstOfBest (hA : AX I X h0 s0 w T nt b) (hb : 0 ≤ b ∧ b < tN T) {s c l r : Int} (hs : Rs T s c l r) (hcb : c ≠ b) (hF : DX T nt b s < 1073741824) : KP shX (d + 3) 57 [.ref 32, .int (J c), .int (J l), .int (J r), .int (J (DX T nt b s))] (I, X) (.int (J (fD T nt (tMask T 2) 1024 (DX T nt b) s))) := by
  refine k_start ql_57 (Nat.le_of_ble_eq_true rfl) ?_
  simp only [q_en, List.replicate]
  refine k_iconst i_57_0 ?_
  refine k_istore i_57_1 (Nat.le_of_ble_eq_true rfl) ?_
  dsimp only [q_st1, q_st2, q_unl]
  exact l_first hA hb hs hcb hF 4 0 (by omega) (fst4_range _).1
theorem pS_ok {T : Tn} (hw : tWF T) {nt : Int} (h01 : nt = 0 ∨ nt = 1) {b : Int} (hb : 0 ≤ b ∧ b < tN T) {a : Int} (ha : 0 ≤ a ∧ a < tN T) (ho : tOpen T a = true) (hF : DX T nt b (17 * a + 16) < 1073741824) : ∀ k : Nat, (k : Int) ≤ DX T nt b (17 * a + 16) % 1024 → ∃ c l r, Rs T (pS T nt (tMask T 2) 1024 (DX T nt b) (17 * a + 16) k) c l r ∧ DX T nt b (pS T nt (tMask T 2) 1024 (DX T nt b) (17 * a + 16) k) < 1073741824 ∧ DX T nt b (pS T nt (tMask T 2) 1024 (DX T nt b) (17 * a + 16) k) % 1024 = DX T nt b (17 * a + 16) % 1024 - k ∧ (k = 0 → c = a ∧ l = -1 ∧ r = 0) ∧ (∀ j : Nat, k = j + 1 → l = fD T nt (tMask T 2) 1024 (DX T nt b) (pS T nt (tMask T 2) 1024 (DX T nt b) (17 * a + 16) j)) := by
  have hfx := DX_fx hw h01 hb
  intro k
  induction k with
  | zero => intro _; exact ⟨a, -1, 0, ⟨ha, ho, Or.inl ⟨rfl, rfl, rfl⟩⟩, hF, by show _ = _ - ((0 : Nat) : Int); simp [pS], fun _ => ⟨rfl, rfl, rfl⟩, fun j hj => by omega⟩
  | succ k ih =>
    intro hk
    obtain ⟨c, l, r, h1, h2, h3, -, -⟩ := ih (by omega)
    obtain ⟨g1, g2, g3, g4⟩ := h1.range
    have hcb : c ≠ b := by
      intro z
      have := (hfx _ g1.1 g1.2).2.1 (by rw [g2]; exact z)
      rw [this] at h3
      omega
    have hex : ∃ q : Int, (0 ≤ q ∧ q < 4) ∧ eqE T nt (tMask T 2) 1024 (DX T nt b) (pS T nt (tMask T 2) 1024 (DX T nt b) (17 * a + 16) k) q = true := by
      obtain ⟨q, p1, p2, p3⟩ := (hfx _ g1.1 g1.2).2.2.2.2 (by rw [g2]; exact hcb) h2
      exact ⟨q, p1, decide_eq_true ⟨p2, p3⟩⟩
    have hfi := of_decide_eq_true (fst4_is hex).1
    have hfr := fst4_range (eqE T nt (tMask T 2) 1024 (DX T nt b) (pS T nt (tMask T 2) 1024 (DX T nt b) (17 * a + 16) k))
    obtain ⟨n1, n2⟩ := h1.next hw hfr hfi.1
    have hr2 := mE_range hw (el := tMask T 2) g1 hfr
    have hpr := tPrice4 hw (nt := nt) (mE_run hfi.1)
    have hv := (hfx _ hfi.1 hr2.2).1
    refine ⟨_, _, _, n1, ?_, ?_, fun z => by omega, fun j hj => ?_⟩
    · show DX T nt b (mE T (tMask T 2) _ (fst4 _)) < 1073741824
      omega
    · show DX T nt b (mE T (tMask T 2) _ (fst4 _)) % 1024 = _
      omega
    · have e : j = k := by omega
      subst e
      rfl
-- method 56: StraightTax$Ways.stepAlong.(II)I
theorem l_along (hA : AX I X h0 s0 w T nt b) (hb : 0 ≤ b ∧ b < tN T) (a : Int) (ha : 0 ≤ a ∧ a < tN T) (ho : tOpen T a = true) (i : Nat) (hF : DX T nt b (17 * a + 16) < 1073741824) (hi : (i : Int) < DX T nt b (17 * a + 16) % 1024) : ∀ (m k : Nat), k + m = i + 1 → ∀ (c l r : Int) (x8 : Option Value), Rs T (pS T nt (tMask T 2) 1024 (DX T nt b) (17 * a + 16) k) c l r → (∀ j : Nat, k = j + 1 → l = fD T nt (tMask T 2) 1024 (DX T nt b) (pS T nt (tMask T 2) 1024 (DX T nt b) (17 * a + 16) j)) → K shX (d + 4) 56 18 [some (.ref 32), some (.int (J a)), some (.int (J (i : Int))), some (.int (J c)), some (.int (J l)), some (.int (J r)), some (.int (J (DX T nt b (pS T nt (tMask T 2) 1024 (DX T nt b) (17 * a + 16) k)))), some (.int (J (k : Int))), x8] [] (I, X) (fun r1 S2 => r1 = some (.int (J (fD T nt (tMask T 2) 1024 (DX T nt b) (pS T nt (tMask T 2) 1024 (DX T nt b) (17 * a + 16) i)))) ∧ S2 = (I, X)) := by
  obtain ⟨hW, hg, ho1, hn1, hE, hV⟩ := id hA
  obtain ⟨hR, hw4, hT, hX, hnt, h01, hOK, hwt⟩ := id hW
  obtain ⟨s1, s2, s3, q1, q2, a0, a1, a2, a3, a4, a5, a6, ag⟩ := id hT
  have hw := hOK.1
  have hN := tN_le hw
  have hfx := DX_fx hw h01 hb
  have h323 : DX T nt b (17 * a + 16) % 1024 < 1024 := Int.emod_lt_of_pos _ (by omega)
  intro m
  induction m with
  | zero =>
    intro k hk c l r x8 hs hl
    refine k_iload i_56_18 rfl ?_
    refine k_iload_n i_56_20 rfl ?_
    refine k_ic_gt (t := 106) i_56_21 rfl (by omega) (by omega) (fun h => ?_) (fun h => ?_)
    · refine k_iload i_56_106 rfl ?_
      refine k_iret i_56_108 qt_56 ?_
      rw [hl i (by omega)]
      exact ⟨rfl, rfl⟩
    · omega
  | succ m ih =>
    intro k hk c l r x8 hs hl
    obtain ⟨c', l', r', h1, h2, h3, -, -⟩ := pS_ok hw h01 hb ha ho hF k (by omega)
    obtain ⟨g1, g2, g3, g4⟩ := hs.range
    have hcb : c ≠ b := by
      intro z
      have := (hfx _ g1.1 g1.2).2.1 (by rw [g2]; exact z)
      rw [this] at h3
      omega
    have hex : ∃ q : Int, (0 ≤ q ∧ q < 4) ∧ eqE T nt (tMask T 2) 1024 (DX T nt b) (pS T nt (tMask T 2) 1024 (DX T nt b) (17 * a + 16) k) q = true := by
      obtain ⟨q, p1, p2, p3⟩ := (hfx _ g1.1 g1.2).2.2.2.2 (by rw [g2]; exact hcb) h2
      exact ⟨q, p1, decide_eq_true ⟨p2, p3⟩⟩
    have hfi := of_decide_eq_true (fst4_is hex).1
    have hfr : 0 ≤ fD T nt (tMask T 2) 1024 (DX T nt b) (pS T nt (tMask T 2) 1024 (DX T nt b) (17 * a + 16) k) ∧ fD T nt (tMask T 2) 1024 (DX T nt b) (pS T nt (tMask T 2) 1024 (DX T nt b) (17 * a + 16) k) < 4 := fst4_range _
    obtain ⟨n1, n2⟩ := hs.next hw hfr hfi.1
    have hrun := hs.run _ hfr
    have hmr := mRun_le (pS T nt (tMask T 2) 1024 (DX T nt b) (17 * a + 16) k) (fD T nt (tMask T 2) 1024 (DX T nt b) (pS T nt (tMask T 2) 1024 (DX T nt b) (17 * a + 16) k)) g1.1
    have hfi2 : DX T nt b (pS T nt (tMask T 2) 1024 (DX T nt b) (17 * a + 16) k) = DX T nt b (pS T nt (tMask T 2) 1024 (DX T nt b) (17 * a + 16) (k + 1)) + 1024 * tPrice T nt (mRun (pS T nt (tMask T 2) 1024 (DX T nt b) (17 * a + 16) k) (fD T nt (tMask T 2) 1024 (DX T nt b) (pS T nt (tMask T 2) 1024 (DX T nt b) (17 * a + 16) k))) + 1 := hfi.2
    refine k_iload i_56_18 rfl ?_
    refine k_iload_n i_56_20 rfl ?_
    refine k_ic_gt (t := 106) i_56_21 rfl (by omega) (by omega) (fun h => ?_) (fun h => ?_)
    · omega
    · refine k_iload i_56_24 rfl ?_
      refine k_sipush i_56_26 (by decide) ?_
      refine k_ic_ge (t := 106) i_56_29 rfl (by omega) (by omega) (fun h => ?_) (fun h => ?_)
      · omega
      · refine k_aload_n i_56_32 rfl ?_
        refine k_iload_n i_56_33 rfl ?_
        refine k_iload i_56_34 rfl ?_
        refine k_iload i_56_36 rfl ?_
        refine k_iload i_56_38 rfl ?_
        refine k_vp4 i_56_40 c_10_111 qp_57 qo_57 (by first | rfl | assumption | (rw [hR]; rfl) | (dsimp only; rw [hR]; rfl)) (Nat.le_of_ble_eq_true rfl) (e_firstOfBest hA hb hs hcb h2) ?_
        refine k_istore i_56_43 (Nat.le_of_ble_eq_true rfl) ?_
        dsimp only [q_st1, q_st2, q_unl]
        refine k_aload_n i_56_45 rfl ?_
        refine k_gfR i_56_46 f_10_12 (by first | rfl | assumption | (rw [hR]; rfl) | (dsimp only; rw [hR]; rfl)) (by decide) (by decide) (Or.inl ⟨_, rfl⟩) (by first | rfl | assumption | (rw [hR]; rfl) | (dsimp only; rw [hR]; rfl)) ?_
        refine k_iload_n i_56_49 rfl ?_
        refine k_iload i_56_50 rfl ?_
        refine k_iload i_56_52 rfl ?_
        refine k_iload i_56_54 rfl ?_
        refine k_vp4 i_56_56 c_10_60 qp_33 qo_33 (by first | rfl | assumption | (rw [hR]; rfl) | (dsimp only; rw [hR]; rfl)) (Nat.le_of_ble_eq_true rfl) (e_runOf hT hw _ _ _ _ (by omega) (by omega) (by omega)) ?_
        rw [hrun]
        refine k_istore i_56_59 (Nat.le_of_ble_eq_true rfl) ?_
        dsimp only [q_st1, q_st2, q_unl]
        refine k_iload i_56_61 rfl ?_
        refine k_aload_n i_56_63 rfl ?_
        refine k_gfR i_56_64 f_10_12 (by first | rfl | assumption | (rw [hR]; rfl) | (dsimp only; rw [hR]; rfl)) (by decide) (by decide) (Or.inl ⟨_, rfl⟩) (by first | rfl | assumption | (rw [hR]; rfl) | (dsimp only; rw [hR]; rfl)) ?_
        refine k_iload i_56_67 rfl ?_
        refine k_aload_n i_56_69 rfl ?_
        refine k_gfI i_56_70 f_10_18 (by first | rfl | assumption | (rw [hR]; rfl) | (dsimp only; rw [hR]; rfl)) (by decide) (by decide) (Or.inr rfl) ?_
        rw [show (I, X).1 32 1 = nt from hnt]
        refine k_vp2 i_56_73 c_10_51 qp_35 qo_35 (by first | rfl | assumption | (rw [hR]; rfl) | (dsimp only; rw [hR]; rfl)) (Nat.le_of_ble_eq_true rfl) (e_price hT hw _ _ (by omega) h01) ?_
        refine k_sipush i_56_76 (by decide) ?_
        refine k_imul i_56_79 ?_
        refine k_iconst i_56_80 ?_
        refine k_iadd i_56_81 ?_
        refine k_isub i_56_82 ?_
        refine k_istore i_56_83 (Nat.le_of_ble_eq_true rfl) ?_
        dsimp only [q_st1, q_st2, q_unl]
        refine k_iload i_56_85 rfl ?_
        refine k_istore i_56_87 (Nat.le_of_ble_eq_true rfl) ?_
        dsimp only [q_st1, q_st2, q_unl]
        refine k_aload_n i_56_89 rfl ?_
        refine k_gfR i_56_90 f_10_12 (by first | rfl | assumption | (rw [hR]; rfl) | (dsimp only; rw [hR]; rfl)) (by decide) (by decide) (Or.inl ⟨_, rfl⟩) (by first | rfl | assumption | (rw [hR]; rfl) | (dsimp only; rw [hR]; rfl)) ?_
        refine k_iload_n i_56_93 rfl ?_
        refine k_iload i_56_94 rfl ?_
        refine k_vp2 i_56_96 c_10_56 qp_32 qo_32 (by first | rfl | assumption | (rw [hR]; rfl) | (dsimp only; rw [hR]; rfl)) (Nat.le_of_ble_eq_true rfl) (e_ahead hT hX _ _ (by omega) (by omega)) ?_
        rw [tAh_nx hw hs.1 hfr]
        refine k_istore_n i_56_99 (Nat.le_of_ble_eq_true rfl) ?_
        dsimp only [q_st1, q_st2, q_unl]
        refine k_iinc i_56_100 rfl (Nat.le_of_ble_eq_true rfl) ?_
        dsimp only [q_st1, q_st2, q_unl]
        refine k_goto (t := 18) i_56_103 rfl ?_
        have h4 := ih (k + 1) (by omega) _ _ _ (some (.int (J (fD T nt (tMask T 2) 1024 (DX T nt b) (pS T nt (tMask T 2) 1024 (DX T nt b) (17 * a + 16) k))))) n1 (fun j hj => by rw [show j = k by omega])
        rw [show DX T nt b (pS T nt (tMask T 2) 1024 (DX T nt b) (17 * a + 16) (k + 1)) = DX T nt b (pS T nt (tMask T 2) 1024 (DX T nt b) (17 * a + 16) k) - (tPrice T nt (mRun (pS T nt (tMask T 2) 1024 (DX T nt b) (17 * a + 16) k) (fD T nt (tMask T 2) 1024 (DX T nt b) (pS T nt (tMask T 2) 1024 (DX T nt b) (17 * a + 16) k))) * 1024 + 1) by omega] at h4
        exact h4
theorem e_stepAlong (hA : AX I X h0 s0 w T nt b) (hb : 0 ≤ b ∧ b < tN T) (a : Int) (ha : 0 ≤ a ∧ a < tN T) (ho : tOpen T a = true) (i : Nat) (hF : DX T nt b (17 * a + 16) < 1073741824) (hi : (i : Int) < DX T nt b (17 * a + 16) % 1024) : KP shX (d + 4) 56 [.ref 32, .int (J a), .int (J (i : Int))] (I, X) (.int (J (fD T nt (tMask T 2) 1024 (DX T nt b) (pS T nt (tMask T 2) 1024 (DX T nt b) (17 * a + 16) i)))) := by
  have hN := tN_le hA.1.2.2.2.2.2.2.1.1
  refine k_start ql_56 (Nat.le_of_ble_eq_true rfl) ?_
  simp only [q_en, List.replicate]
  refine k_iload_n i_56_0 rfl ?_
  refine k_istore_n i_56_1 (Nat.le_of_ble_eq_true rfl) ?_
  dsimp only [q_st1, q_st2, q_unl]
  refine k_iconst i_56_2 ?_
  refine k_istore i_56_3 (Nat.le_of_ble_eq_true rfl) ?_
  dsimp only [q_st1, q_st2, q_unl]
  refine k_iconst i_56_5 ?_
  refine k_istore i_56_6 (Nat.le_of_ble_eq_true rfl) ?_
  dsimp only [q_st1, q_st2, q_unl]
  refine k_aload_n i_56_8 rfl ?_
  refine k_iload_n i_56_9 rfl ?_
  refine k_vp1 i_56_10 c_10_97 qp_53 qo_53 (by first | rfl | assumption | (rw [hR]; rfl) | (dsimp only; rw [hR]; rfl)) (Nat.le_of_ble_eq_true rfl) (e_burdenFrom hA hb a (by omega) ho) ?_
  refine k_istore i_56_13 (Nat.le_of_ble_eq_true rfl) ?_
  dsimp only [q_st1, q_st2, q_unl]
  refine k_iconst i_56_15 ?_
  refine k_istore i_56_16 (Nat.le_of_ble_eq_true rfl) ?_
  dsimp only [q_st1, q_st2, q_unl]
  exact l_along hA hb a ha ho i hF hi (i + 1) 0 (by omega) a (-1) 0 none ⟨ha, ho, Or.inl ⟨rfl, rfl, rfl⟩⟩ (fun j hj => by omega)
end AL
