/-! THE CLASS: turned, comingIn, leastIn -/
def in400 (f : Nat → Int) : Prop := ∀ j : Nat, j < 400 → 0 ≤ f j ∧ f j ≤ 1073741824
def WinOK (T : Tn) (nt a : Int) (f : Nat → Int) (s : Nat) : Prop := ∀ j : Nat, j < s → s ≤ j + 4 → rowOK T nt a f j
theorem ix_lt {j : Nat} {c l : Int} (hc : 0 ≤ c ∧ c < 20) (hl : 0 ≤ l ∧ l < 4) : ix j c l < 400 := by unfold ix; omega
theorem ix_ne {j j' : Nat} {c l c' l' : Int} (hj : j % 5 ≠ j' % 5) (hc : 0 ≤ c ∧ c < 20) (hl : 0 ≤ l ∧ l < 4) (hc' : 0 ≤ c' ∧ c' < 20) (hl' : 0 ≤ l' ∧ l' < 4) : ix j c l ≠ ix j' c' l' := by unfold ix; omega
section LE
variable {d : Nat} {T : Tn} {I : Nat → Nat → Int} {X : XX} {h0 s0 w : Nat} {nt a b : Int} {Q : Option Value → QS → Prop}
-- method 62: StraightTax$Ways.turned.(III)I
theorem l_turned (hW : WX I X h0 s0 w T nt) (f : Nat → Int) (hf : in400 f) (s : Nat) (hs : s ≤ 60) (c q : Int) (hc : 0 ≤ c ∧ c < 20) (hq : -1 ≤ q ∧ q < 4) : ∀ (m k : Nat), k + m = 4 → K shX (d + 2) 62 19 [some (.ref 32), some (.int (J (s : Int))), some (.int (J c)), some (.int (J q)), some (.int (J ((s : Int) % 5 * 80 + c * 4))), some (.int (J (tnd (fun l => f (ix s c l)) (tElb T c) q k))), some (.int (J (k : Int)))] [] (sr I 37 f, X) (fun r S2 => r = some (.int (J (tnd (fun l => f (ix s c l)) (tElb T c) q 4))) ∧ S2 = (sr I 37 f, X)) := by
  obtain ⟨hR, hw4, hT, hX, hnt, h01, hOK, hwt⟩ := hW.row (c := 37) (f := f) (by omega)
  obtain ⟨s1, s2, s3, r1, r2, a0, a1, a2, a3, a4, a5, a6, ag⟩ := id hT
  have hw := hOK.1
  intro m
  induction m with
  | zero =>
    intro k hk
    have e : k = 4 := by omega
    subst e
    refine k_iload i_62_19 rfl ?_
    refine k_iconst i_62_21 ?_
    refine k_ic_ge (t := 65) i_62_22 rfl (by omega) (by omega) (fun h => ?_) (fun h => ?_)
    · refine k_iload i_62_65 rfl ?_
      refine k_iret i_62_67 qt_62 ?_
      exact ⟨rfl, rfl⟩
    · omega
  | succ m ih =>
    intro k hk
    have hi := ih (k + 1) (by omega)
    have hle := tnd_le (R := fun l => f (ix s c l)) (el := tElb T c) (q := q) k
    have hnn := tnd_nn (R := fun l => f (ix s c l)) (el := tElb T c) (q := q) (fun l l0 l1 => (hf _ (ix_lt hc ⟨l0, l1⟩)).1) k (by omega)
    have hfv := hf (ix s c k) (ix_lt hc (by omega))
    have eix : ((s : Int) % 5 * 80 + c * 4 + k).toNat = ix s c k := by unfold ix; omega
    have k42 : ¬ ((k : Int) = q ∧ tElb T c = false) → K shX (d + 2) 62 42 [some (.ref 32), some (.int (J (s : Int))), some (.int (J c)), some (.int (J q)), some (.int (J ((s : Int) % 5 * 80 + c * 4))), some (.int (J (tnd (fun l => f (ix s c l)) (tElb T c) q k))), some (.int (J (k : Int)))] [] (sr I 37 f, X) (fun r S2 => r = some (.int (J (tnd (fun l => f (ix s c l)) (tElb T c) q 4))) ∧ S2 = (sr I 37 f, X)) := by
      intro hne
      refine k_iload i_62_42 rfl ?_
      refine k_aload_n i_62_44 rfl ?_
      refine k_gfR i_62_45 f_10_39 (by first | rfl | assumption | (rw [hR]; rfl) | (dsimp only; rw [hR]; rfl)) (by decide) (by decide) (Or.inr ⟨_, rfl⟩) (by first | rfl | assumption | (rw [hR]; rfl) | (dsimp only; rw [hR]; rfl)) ?_
      refine k_iload i_62_48 rfl ?_
      refine k_iload i_62_50 rfl ?_
      refine k_iadd i_62_52 ?_
      refine k_iald i_62_53 rfl (by decide) (by omega) (by omega) ?_
      rw [show (sr I 37 f, X).1 37 ((s : Int) % 5 * 80 + c * 4 + k).toNat = f (ix s c k) from by show sr I 37 f 37 _ = _; rw [sr_s, eix]]
      refine k_sp2 i_62_54 c_10_92 (by decide) qp_155 (Nat.le_of_ble_eq_true rfl) (e_min _ _ (by omega) (by omega)) ?_
      refine k_istore i_62_57 (Nat.le_of_ble_eq_true rfl) ?_
      dsimp only [q_st1, q_st2, q_unl]
      refine k_iinc i_62_59 rfl (Nat.le_of_ble_eq_true rfl) ?_
      dsimp only [q_st1, q_st2, q_unl]
      refine k_goto (t := 19) i_62_62 rfl ?_
      rw [show tnd (fun l => f (ix s c l)) (tElb T c) q (k + 1) = min (tnd (fun l => f (ix s c l)) (tElb T c) q k) (f (ix s c k)) from by
        show (if _ then _ else _) = _
        rw [if_neg hne]] at hi
      exact hi
    refine k_iload i_62_19 rfl ?_
    refine k_iconst i_62_21 ?_
    refine k_ic_ge (t := 65) i_62_22 rfl (by omega) (by omega) (fun h => ?_) (fun h => ?_)
    · omega
    · refine k_iload i_62_25 rfl ?_
      refine k_iload_n i_62_27 rfl ?_
      refine k_ic_ne (t := 42) i_62_28 rfl (by omega) (by omega) (fun g => ?_) (fun g => ?_)
      · exact k42 (fun z => g z.1)
      · refine k_aload_n i_62_31 rfl ?_
        refine k_gfR i_62_32 f_10_12 (by first | rfl | assumption | (rw [hR]; rfl) | (dsimp only; rw [hR]; rfl)) (by decide) (by decide) (Or.inl ⟨_, rfl⟩) (by first | rfl | assumption | (rw [hR]; rfl) | (dsimp only; rw [hR]; rfl)) ?_
        refine k_iload_n i_62_35 rfl ?_
        refine k_vp1 i_62_36 c_10_86 qp_34 qo_34 (by first | rfl | assumption | (rw [hR]; rfl) | (dsimp only; rw [hR]; rfl)) (Nat.le_of_ble_eq_true rfl) (e_isElbow hT hw _ (by omega)) ?_
        refine k_if_eqB (t := 59) i_62_39 rfl (fun h => ?_) (fun h => ?_)
        · refine k_iinc i_62_59 rfl (Nat.le_of_ble_eq_true rfl) ?_
          dsimp only [q_st1, q_st2, q_unl]
          refine k_goto (t := 19) i_62_62 rfl ?_
          rw [show tnd (fun l => f (ix s c l)) (tElb T c) q (k + 1) = tnd (fun l => f (ix s c l)) (tElb T c) q k from by
            show (if _ then _ else _) = _
            rw [if_pos ⟨by omega, h⟩]] at hi
          exact hi
        · exact k42 (fun z => by rw [h] at z; exact absurd z.2 (by decide))
theorem e_turned (hW : WX I X h0 s0 w T nt) (f : Nat → Int) (hf : in400 f) (s : Nat) (hs : s ≤ 60) (c q : Int) (hc : 0 ≤ c ∧ c < 20) (hq : -1 ≤ q ∧ q < 4) : KP shX (d + 2) 62 [.ref 32, .int (J (s : Int)), .int (J c), .int (J q)] (sr I 37 f, X) (.int (J (tnd (fun l => f (ix s c l)) (tElb T c) q 4))) := by
  refine k_start ql_62 (Nat.le_of_ble_eq_true rfl) ?_
  simp only [q_en, List.replicate]
  refine k_iload_n i_62_0 rfl ?_
  refine k_iconst i_62_1 ?_
  refine k_irem i_62_2 (by omega) (by omega) (by omega) (by omega) ?_
  refine k_bipush i_62_3 (by decide) ?_
  refine k_imul i_62_5 ?_
  refine k_iload_n i_62_6 rfl ?_
  refine k_iconst i_62_7 ?_
  refine k_imul i_62_8 ?_
  refine k_iadd i_62_9 ?_
  refine k_istore i_62_10 (Nat.le_of_ble_eq_true rfl) ?_
  dsimp only [q_st1, q_st2, q_unl]
  refine k_ldc (a := 1073741824) i_62_12 n_10_64 (by decide) ?_
  refine k_istore i_62_14 (Nat.le_of_ble_eq_true rfl) ?_
  dsimp only [q_st1, q_st2, q_unl]
  refine k_iconst i_62_16 ?_
  refine k_istore i_62_17 (Nat.le_of_ble_eq_true rfl) ?_
  dsimp only [q_st1, q_st2, q_unl]
  exact l_turned hW f hf s hs c q hc hq 4 0 (by omega)
/-- what turned answers, of the rows f -/
def tV (T : Tn) (f : Nat → Int) (q : Int) (j : Nat) (c : Int) : Int := tnd (fun l => f (ix j c l)) (tElb T c) q 4
-- method 61: StraightTax$Ways.comingIn.(III)I
theorem l_coming (hW : WX I X h0 s0 w T nt) (f : Nat → Int) (hf : in400 f) (s : Nat) (hs : s ≤ 60) (c0 q : Int) (hq : 0 ≤ q ∧ q < 4) : ∀ (m r : Nat) (c least : Int), r + m = 5 → 1 ≤ r → (0 ≤ c ∧ c < tN T) → (0 ≤ least ∧ least ≤ 1073741824) → K shX (d + 3) 61 10 [some (.ref 32), some (.int (J (s : Int))), some (.int (J c0)), some (.int (J q)), some (.int (J least)), some (.int (J c)), some (.int (J (r : Int)))] [] (sr I 37 f, X) (fun r1 S2 => r1 = some (.int (J (min least (cI T nt q (tV T f q) s m c)))) ∧ S2 = (sr I 37 f, X)) := by
  obtain ⟨hR, hw4, hT, hX, hnt, h01, hOK, hwt⟩ := hW.row (c := 37) (f := f) (by omega)
  obtain ⟨s1, s2, s3, r1, r2, a0, a1, a2, a3, a4, a5, a6, ag⟩ := id hT
  have hw := hOK.1
  have hN := tN_le hw
  obtain ⟨o1, o2, o3, o4⟩ := opp_d q hq
  intro m
  induction m with
  | zero =>
    intro r c least hr r1 hc hl
    have e : r = 5 := by omega
    subst e
    refine k_iload i_61_10 rfl ?_
    refine k_iconst i_61_12 ?_
    refine k_ic_gt (t := 94) i_61_13 rfl (by omega) (by omega) (fun h => ?_) (fun h => ?_)
    · refine k_iload i_61_94 rfl ?_
      refine k_iret i_61_96 qt_61 ?_
      refine ⟨?_, rfl⟩
      rw [show cI T nt q (tV T f q) s 0 c = 1073741824 from rfl, Int.min_eq_left hl.2]
    · omega
  | succ m ih =>
    intro r c least hr r1 hc hl
    have har := tAh_range hw c (opp q)
    have er : 4 - m = r := by omega
    refine k_iload i_61_10 rfl ?_
    refine k_iconst i_61_12 ?_
    refine k_ic_gt (t := 94) i_61_13 rfl (by omega) (by omega) (fun h => ?_) (fun h => ?_)
    · omega
    · refine k_iload i_61_16 rfl ?_
      refine k_iload_n i_61_18 rfl ?_
      refine k_ic_gt (t := 94) i_61_19 rfl (by omega) (by omega) (fun g => ?_) (fun g => ?_)
      · refine k_iload i_61_94 rfl ?_
        refine k_iret i_61_96 qt_61 ?_
        refine ⟨?_, rfl⟩
        rw [show cI T nt q (tV T f q) s (m + 1) c = 1073741824 from by
          show (if s < 4 - m then 1073741824 else _) = 1073741824
          rw [if_pos (by omega)], Int.min_eq_left hl.2]
      · refine k_aload_n i_61_22 rfl ?_
        refine k_gfR i_61_23 f_10_12 (by first | rfl | assumption | (rw [hR]; rfl) | (dsimp only; rw [hR]; rfl)) (by decide) (by decide) (Or.inl ⟨_, rfl⟩) (by first | rfl | assumption | (rw [hR]; rfl) | (dsimp only; rw [hR]; rfl)) ?_
        refine k_iload i_61_26 rfl ?_
        refine k_iload_n i_61_28 rfl ?_
        refine k_iconst i_61_29 ?_
        refine k_iadd i_61_30 ?_
        refine k_iconst i_61_31 ?_
        refine k_irem i_61_32 (by omega) (by omega) (by omega) (by omega) ?_
        rw [show (q + 2) % 4 = opp q from rfl]
        refine k_vp2 i_61_33 c_10_56 qp_32 qo_32 (by first | rfl | assumption | (rw [hR]; rfl) | (dsimp only; rw [hR]; rfl)) (Nat.le_of_ble_eq_true rfl) (e_ahead hT hX _ _ (by omega) (by omega)) ?_
        refine k_istore i_61_36 (Nat.le_of_ble_eq_true rfl) ?_
        dsimp only [q_st1, q_st2, q_unl]
        refine k_iload i_61_38 rfl ?_
        refine k_iconst i_61_40 ?_
        have hcI : cI T nt q (tV T f q) s (m + 1) c = if tAh T c (opp q) < 0 then 1073741824 else min 1073741824 (min (tV T f q (s - r) (tAh T c (opp q)) + sm T nt r) (if tElb T (tAh T c (opp q)) = true then 1073741824 else cI T nt q (tV T f q) s m (tAh T c (opp q)))) := by
          show (if s < 4 - m then 1073741824 else _) = _
          rw [if_neg (by omega), er]
        refine k_ic_ne (t := 47) i_61_41 rfl (by omega) (by omega) (fun g2 => ?_) (fun g2 => ?_)
        · have hcl := cI_le (T := T) (nt := nt) (q := q) (V := tV T f q) (s := s) m (tAh T c (opp q))
          have hle := tnd_le (R := fun l => f (ix (s - r) (tAh T c (opp q)) l)) (el := tElb T (tAh T c (opp q))) (q := q) 4
          have hnn := tnd_nn (R := fun l => f (ix (s - r) (tAh T c (opp q)) l)) (el := tElb T (tAh T c (opp q))) (q := q) (fun l l0 l1 => (hf _ (ix_lt (by omega) ⟨l0, l1⟩)).1) 4 (by omega)
          have hsm := sm_range hw nt r (by omega)
          rw [hcI, if_neg (by omega)]
          refine k_iload i_61_47 rfl ?_
          refine k_aload_n i_61_49 rfl ?_
          refine k_iload_n i_61_50 rfl ?_
          refine k_iload i_61_51 rfl ?_
          refine k_isub i_61_53 ?_
          refine k_iload i_61_54 rfl ?_
          refine k_iload_n i_61_56 rfl ?_
          have ht := e_turned (d := d) hW f hf (s - r) (by omega) (tAh T c (opp q)) q (by omega) (by omega)
          rw [show ((s - r : Nat) : Int) = (s : Int) - r by omega] at ht
          refine k_vp3 i_61_57 c_10_117 qp_62 qo_62 (by first | rfl | assumption | (rw [hR]; rfl) | (dsimp only; rw [hR]; rfl)) (Nat.le_of_ble_eq_true rfl) ht ?_
          refine k_aload_n i_61_60 rfl ?_
          refine k_gfR i_61_61 f_10_26 (by first | rfl | assumption | (rw [hR]; rfl) | (dsimp only; rw [hR]; rfl)) (by decide) (by decide) (Or.inr ⟨_, rfl⟩) (by first | rfl | assumption | (rw [hR]; rfl) | (dsimp only; rw [hR]; rfl)) ?_
          refine k_iload i_61_64 rfl ?_
          refine k_iald i_61_66 rfl (by decide) (by omega) (by omega) ?_
          rw [show (sr I 37 f, X).1 33 ((r : Int)).toNat = sm T nt r from by rw [show ((r : Int)).toNat = r by omega]; exact (hwt r (by omega)).1]
          refine k_iadd i_61_67 ?_
          refine k_sp2 i_61_68 c_10_92 (by decide) qp_155 (Nat.le_of_ble_eq_true rfl) (e_min _ _ (by omega) (by omega)) ?_
          refine k_istore i_61_71 (Nat.le_of_ble_eq_true rfl) ?_
          dsimp only [q_st1, q_st2, q_unl]
          refine k_aload_n i_61_73 rfl ?_
          refine k_gfR i_61_74 f_10_12 (by first | rfl | assumption | (rw [hR]; rfl) | (dsimp only; rw [hR]; rfl)) (by decide) (by decide) (Or.inl ⟨_, rfl⟩) (by first | rfl | assumption | (rw [hR]; rfl) | (dsimp only; rw [hR]; rfl)) ?_
          refine k_iload i_61_77 rfl ?_
          refine k_vp1 i_61_79 c_10_86 qp_34 qo_34 (by first | rfl | assumption | (rw [hR]; rfl) | (dsimp only; rw [hR]; rfl)) (Nat.le_of_ble_eq_true rfl) (e_isElbow hT hw _ (by omega)) ?_
          unfold tV
          refine k_if_eqB (t := 88) i_61_82 rfl (fun h => ?_) (fun h => ?_)
          · refine k_iinc i_61_88 rfl (Nat.le_of_ble_eq_true rfl) ?_
            dsimp only [q_st1, q_st2, q_unl]
            refine k_goto (t := 10) i_61_91 rfl ?_
            refine (ih (r + 1) (tAh T c (opp q)) _ (by omega) (by omega) (by omega) (by omega)).mono (fun r1 S2 hh => ⟨?_, hh.2⟩)
            rw [hh.1, h]
            congr 3
            simp only [Bool.false_eq_true, if_false]
            unfold tV at hcl ⊢
            rw [h] at hle hnn
            omega
          · refine k_goto (t := 94) i_61_85 rfl ?_
            refine k_iload i_61_94 rfl ?_
            refine k_iret i_61_96 qt_61 ?_
            refine ⟨?_, rfl⟩
            rw [h]
            congr 3
            simp only [if_true]
            rw [h] at hle hnn
            omega
        · refine k_goto (t := 94) i_61_44 rfl ?_
          refine k_iload i_61_94 rfl ?_
          refine k_iret i_61_96 qt_61 ?_
          refine ⟨?_, rfl⟩
          rw [hcI, if_pos (by omega), Int.min_eq_left hl.2]
theorem e_comingIn (hW : WX I X h0 s0 w T nt) (f : Nat → Int) (hf : in400 f) (s : Nat) (hs : s ≤ 60) (c q : Int) (hc : 0 ≤ c ∧ c < tN T) (hq : 0 ≤ q ∧ q < 4) : KP shX (d + 3) 61 [.ref 32, .int (J (s : Int)), .int (J c), .int (J q)] (sr I 37 f, X) (.int (J (cI T nt q (tV T f q) s 4 c))) := by
  have hcl := cI_le (T := T) (nt := nt) (q := q) (V := tV T f q) (s := s) 4 c
  refine k_start ql_61 (Nat.le_of_ble_eq_true rfl) ?_
  simp only [q_en, List.replicate]
  refine k_ldc (a := 1073741824) i_61_0 n_10_64 (by decide) ?_
  refine k_istore i_61_2 (Nat.le_of_ble_eq_true rfl) ?_
  dsimp only [q_st1, q_st2, q_unl]
  refine k_iload_n i_61_4 rfl ?_
  refine k_istore i_61_5 (Nat.le_of_ble_eq_true rfl) ?_
  dsimp only [q_st1, q_st2, q_unl]
  refine k_iconst i_61_7 ?_
  refine k_istore i_61_8 (Nat.le_of_ble_eq_true rfl) ?_
  dsimp only [q_st1, q_st2, q_unl]
  refine (l_coming hW f hf s hs c q hq 4 1 c 1073741824 (by omega) (by omega) hc (by omega)).mono (fun r1 S2 hh => ⟨?_, hh.2⟩)
  rw [hh.1, Int.min_eq_right hcl]
theorem cI_nn {T : Tn} (hw : tWF T) {nt q : Int} {V : Nat → Int → Int} {s : Nat} (hV : ∀ j c, 0 ≤ c → c < tN T → 0 ≤ V j c) : ∀ m c, m ≤ 4 → 0 ≤ cI T nt q V s m c
  | 0, _, _ => by unfold cI; omega
  | m + 1, c, hm => by
    have h1 := tAh_range hw c (opp q)
    have h2 := sm_range hw nt (4 - m) (by omega)
    unfold cI
    split
    · omega
    · split
      · omega
      · have h3 := hV (s - (4 - m)) (tAh T c (opp q)) (by omega) (by omega)
        have h4 := cI_nn hw (nt := nt) (q := q) (s := s) hV m (tAh T c (opp q)) (by omega)
        split <;> omega
theorem tV_nn {T : Tn} (hw : tWF T) {f : Nat → Int} (hf : in400 f) {q : Int} (j : Nat) (c : Int) (c0 : 0 ≤ c) (c1 : c < tN T) : 0 ≤ tV T f q j c := by
  have hN := tN_le hw
  exact tnd_nn (fun l l0 l1 => (hf _ (ix_lt (by omega) ⟨l0, l1⟩)).1) 4 (by omega)
-- method 60: StraightTax$Ways.leastIn.(III)I
theorem l_least (hW : WX I X h0 s0 w T nt) (ho : tOpen T a = true) (k : Nat) (hs : k + 1 ≤ 60) (aa bb : Int)
    (hk : ∀ f : Nat → Int, in400 f → WinOK T nt a f (k + 2) → K shX (d + 4) 60 97 [some (.ref 32), some (.int (J ((k + 1 : Nat) : Int))), some (.int (J aa)), some (.int (J bb)), some (.int (J (((k + 1 : Nat) : Int) % 5 * 80))), some (.int (J (tN T * 4)))] [] (sr I 37 f, X) Q) :
    ∀ (m : Nat) (p : Int) (f : Nat → Int), 0 ≤ p → p ≤ tN T * 4 → (tN T * 4 - p).toNat = m → in400 f → WinOK T nt a f (k + 1) → (∀ c l : Int, tOpen T c = true → 0 ≤ l → l < 4 → c * 4 + l < p → MinOf (AR T nt a k c l) 1073741824 (f (ix (k + 1) c l))) → K shX (d + 4) 60 54 [some (.ref 32), some (.int (J ((k + 1 : Nat) : Int))), some (.int (J aa)), some (.int (J bb)), some (.int (J (((k + 1 : Nat) : Int) % 5 * 80))), some (.int (J p))] [] (sr I 37 f, X) Q := by
  have hw := hW.2.2.2.2.2.2.1.1
  have hN := tN_le hw
  intro m
  induction m with
  | zero =>
    intro p f p0 p1 hm hf hwin hrow
    have e : p = tN T * 4 := by omega
    subst e
    obtain ⟨hR, hw4, hT, hX, hnt, h01, hOK, hwt⟩ := hW.row (c := 37) (f := f) (by omega)
    obtain ⟨s1, s2, s3, r1, r2, a0, a1, a2, a3, a4, a5, a6, ag⟩ := id hT
    refine k_iload i_60_54 rfl ?_
    refine k_aload_n i_60_56 rfl ?_
    refine k_gfR i_60_57 f_10_12 (by first | rfl | assumption | (rw [hR]; rfl) | (dsimp only; rw [hR]; rfl)) (by decide) (by decide) (Or.inl ⟨_, rfl⟩) (by first | rfl | assumption | (rw [hR]; rfl) | (dsimp only; rw [hR]; rfl)) ?_
    refine k_vp0 i_60_60 c_10_71 qp_28 qo_28 (by first | rfl | assumption | (rw [hR]; rfl) | (dsimp only; rw [hR]; rfl)) (Nat.le_of_ble_eq_true rfl) (e_squares hT) ?_
    refine k_iconst i_60_63 ?_
    refine k_imul i_60_64 ?_
    refine k_ic_ge (t := 97) i_60_65 rfl (by omega) (by omega) (fun h => ?_) (fun h => ?_)
    · refine hk f hf (fun j hj hj2 => ?_)
      by_cases e : j = k + 1
      · subst e
        intro c l hc l0 l1
        have := open_lt hc
        exact hrow c l hc l0 l1 (by omega)
      · exact hwin j (by omega) (by omega)
    · omega
  | succ m ih =>
    intro p f p0 p1 hm hf hwin hrow
    obtain ⟨hR, hw4, hT, hX, hnt, h01, hOK, hwt⟩ := hW.row (c := 37) (f := f) (by omega)
    obtain ⟨s1, s2, s3, r1, r2, a0, a1, a2, a3, a4, a5, a6, ag⟩ := id hT
    refine k_iload i_60_54 rfl ?_
    refine k_aload_n i_60_56 rfl ?_
    refine k_gfR i_60_57 f_10_12 (by first | rfl | assumption | (rw [hR]; rfl) | (dsimp only; rw [hR]; rfl)) (by decide) (by decide) (Or.inl ⟨_, rfl⟩) (by first | rfl | assumption | (rw [hR]; rfl) | (dsimp only; rw [hR]; rfl)) ?_
    refine k_vp0 i_60_60 c_10_71 qp_28 qo_28 (by first | rfl | assumption | (rw [hR]; rfl) | (dsimp only; rw [hR]; rfl)) (Nat.le_of_ble_eq_true rfl) (e_squares hT) ?_
    refine k_iconst i_60_63 ?_
    refine k_imul i_60_64 ?_
    refine k_ic_ge (t := 97) i_60_65 rfl (by omega) (by omega) (fun h => ?_) (fun h => ?_)
    · omega
    · refine k_aload_n i_60_68 rfl ?_
      refine k_gfR i_60_69 f_10_39 (by first | rfl | assumption | (rw [hR]; rfl) | (dsimp only; rw [hR]; rfl)) (by decide) (by decide) (Or.inr ⟨_, rfl⟩) (by first | rfl | assumption | (rw [hR]; rfl) | (dsimp only; rw [hR]; rfl)) ?_
      refine k_iload i_60_72 rfl ?_
      refine k_iload i_60_74 rfl ?_
      refine k_iadd i_60_76 ?_
      refine k_aload_n i_60_77 rfl ?_
      refine k_iload_n i_60_78 rfl ?_
      refine k_iload i_60_79 rfl ?_
      refine k_iconst i_60_81 ?_
      refine k_idiv i_60_82 (by omega) (by omega) (by omega) (by omega) ?_
      refine k_iload i_60_83 rfl ?_
      refine k_iconst i_60_85 ?_
      refine k_irem i_60_86 (by omega) (by omega) (by omega) (by omega) ?_
      have hq : 0 ≤ p % 4 ∧ p % 4 < 4 := by omega
      refine k_vp3 i_60_87 c_10_114 qp_61 qo_61 (by first | rfl | assumption | (rw [hR]; rfl) | (dsimp only; rw [hR]; rfl)) (Nat.le_of_ble_eq_true rfl) (e_comingIn hW f hf (k + 1) hs (p / 4) (p % 4) (by omega) hq) ?_
      refine k_iast i_60_90 rfl (by decide) (by omega) (by omega) ?_
      dsimp only
      rw [sr_up]
      refine k_iinc i_60_91 rfl (Nat.le_of_ble_eq_true rfl) ?_
      dsimp only [q_st1, q_st2, q_unl]
      refine k_goto (t := 54) i_60_94 rfl ?_
      have eix : ((((k + 1 : Nat) : Int) % 5 * 80 + p)).toNat = ix (k + 1) (p / 4) (p % 4) := by unfold ix; omega
      rw [eix]
      have hcl := cI_le (T := T) (nt := nt) (q := p % 4) (V := tV T f (p % 4)) (s := k + 1) 4 (p / 4)
      have hcn := cI_nn hw (nt := nt) (q := p % 4) (V := tV T f (p % 4)) (s := k + 1) (fun j c c0 c1 => tV_nn hw hf j c c0 c1) 4 (p / 4) (by omega)
      refine ih (p + 1) _ (by omega) (by omega) (by omega) (fun j hj => ?_) (fun j hj hj2 => ?_) (fun c l hc l0 l1 hp => ?_)
      · unfold ud
        split
        · exact ⟨hcn, hcl⟩
        · exact hf j hj
      · intro c l hc l0 l1
        have hcr := open_lt hc
        have h2 := hwin j hj hj2 c l hc l0 l1
        cases j with
        | zero =>
          show ud f _ _ (ix 0 c l) = _
          rw [ud_n (ix_ne (by omega) (by omega) ⟨l0, l1⟩ (by omega) hq)]
          exact h2
        | succ j =>
          show MinOf _ _ (ud f _ _ (ix (j + 1) c l))
          rw [ud_n (ix_ne (by omega) (by omega) ⟨l0, l1⟩ (by omega) hq)]
          exact h2
      · have hcr := open_lt hc
        by_cases e : c = p / 4 ∧ l = p % 4
        · obtain ⟨rfl, rfl⟩ := e
          rw [ud_s]
          exact cI_AR hw ho hq (fun j c' hj hj2 hc' => turned_min hw ho (hwin j hj (by omega)) hc' (by omega)) hc
        · rw [ud_n (by unfold ix; omega)]
          exact hrow c l hc l0 l1 (by omega)
theorem l_least0 (hR : X.2 = rX h0 s0 w) (ha : 0 ≤ a ∧ a < 20) (bb : Int)
    (hk : ∀ f : Nat → Int, (∀ j : Nat, j < 400 → f j = if a * 4 ≤ (j : Int) ∧ (j : Int) < a * 4 + 4 then 0 else 1073741824) → K shX (d + 4) 60 97 [some (.ref 32), some (.int (J 0)), some (.int (J a)), some (.int (J bb)), some (.int (J (0 % 5 * 80))), some (.int (J 4))] [] (sr I 37 f, X) Q) :
    ∀ (m k : Nat) (f : Nat → Int), k + m = 4 → (∀ j : Nat, j < 400 → f j = if a * 4 ≤ (j : Int) ∧ (j : Int) < a * 4 + k then 0 else 1073741824) → K shX (d + 4) 60 24 [some (.ref 32), some (.int (J 0)), some (.int (J a)), some (.int (J bb)), some (.int (J (0 % 5 * 80))), some (.int (J (k : Int)))] [] (sr I 37 f, X) Q := by
  intro m
  induction m with
  | zero =>
    intro k f hk4 hf
    have e : k = 4 := by omega
    subst e
    refine k_iload i_60_24 rfl ?_
    refine k_iconst i_60_26 ?_
    refine k_ic_ge (t := 48) i_60_27 rfl (by omega) (by omega) (fun h => ?_) (fun h => ?_)
    · refine k_goto (t := 97) i_60_48 rfl ?_
      exact hk f hf
    · omega
  | succ m ih =>
    intro k f hk4 hf
    refine k_iload i_60_24 rfl ?_
    refine k_iconst i_60_26 ?_
    refine k_ic_ge (t := 48) i_60_27 rfl (by omega) (by omega) (fun h => ?_) (fun h => ?_)
    · omega
    · refine k_aload_n i_60_30 rfl ?_
      refine k_gfR i_60_31 f_10_39 (by first | rfl | assumption | (rw [hR]; rfl) | (dsimp only; rw [hR]; rfl)) (by decide) (by decide) (Or.inr ⟨_, rfl⟩) (by first | rfl | assumption | (rw [hR]; rfl) | (dsimp only; rw [hR]; rfl)) ?_
      refine k_iload_n i_60_34 rfl ?_
      refine k_iconst i_60_35 ?_
      refine k_imul i_60_36 ?_
      refine k_iload i_60_37 rfl ?_
      refine k_iadd i_60_39 ?_
      refine k_iconst i_60_40 ?_
      refine k_iast i_60_41 rfl (by decide) (by omega) (by omega) ?_
      dsimp only
      rw [sr_up]
      refine k_iinc i_60_42 rfl (Nat.le_of_ble_eq_true rfl) ?_
      dsimp only [q_st1, q_st2, q_unl]
      refine k_goto (t := 24) i_60_45 rfl ?_
      refine ih (k + 1) _ (by omega) (fun j hj => ?_)
      unfold ud
      split
      · rw [if_pos (by omega)]
      · rw [hf j hj]
        by_cases e : a * 4 ≤ (j : Int) ∧ (j : Int) < a * 4 + k
        · rw [if_pos e, if_pos (by omega)]
        · rw [if_neg e, if_neg (by omega)]
theorem e_leastIn (hW : WX I X h0 s0 w T nt) (ho : tOpen T a = true) (hob : tOpen T b = true) (s : Nat) (hs : s ≤ 60) (f : Nat → Int) (hf : s ≠ 0 → in400 f ∧ WinOK T nt a f s) : KC shX (d + 4) 60 [.ref 32, .int (J (s : Int)), .int (J a), .int (J b)] (sr I 37 f, X) (fun r S2 => ∃ v f', r = some (.int (J v)) ∧ MinOf (fun u => ∃ t : Int, t / 17 = b ∧ PW T nt a s t u) 1073741824 v ∧ S2 = (sr I 37 f', X) ∧ in400 f' ∧ WinOK T nt a f' (s + 1)) := by
  have hw := hW.2.2.2.2.2.2.1.1
  have hR := hW.1
  have hN := tN_le hw
  have har := open_lt ho
  have hbr := open_lt hob
  have fin : ∀ (f' : Nat → Int) (x4 x5 : Int), in400 f' → WinOK T nt a f' (s + 1) → K shX (d + 4) 60 97 [some (.ref 32), some (.int (J (s : Int))), some (.int (J a)), some (.int (J b)), some (.int (J x4)), some (.int (J x5))] [] (sr I 37 f', X) (fun r S2 => ∃ v f', r = some (.int (J v)) ∧ MinOf (fun u => ∃ t : Int, t / 17 = b ∧ PW T nt a s t u) 1073741824 v ∧ S2 = (sr I 37 f', X) ∧ in400 f' ∧ WinOK T nt a f' (s + 1)) := by
    intro f' x4 x5 h1 h2
    refine k_aload_n i_60_97 rfl ?_
    refine k_iload_n i_60_98 rfl ?_
    refine k_iload_n i_60_99 rfl ?_
    refine k_iconst i_60_100 ?_
    refine k_vp3 i_60_101 c_10_117 qp_62 qo_62 (by first | rfl | assumption | (rw [hR]; rfl) | (dsimp only; rw [hR]; rfl)) (Nat.le_of_ble_eq_true rfl) (e_turned (d := d + 1) hW f' h1 s hs b (-1) (by omega) (by omega)) ?_
    refine k_iret i_60_104 qt_60 ?_
    refine ⟨_, f', rfl, ?_, rfl, h1, h2⟩
    refine (turned_min hw ho (h2 s (by omega) (by omega)) hob (q := -1) (by omega)).iff (fun v => ?_)
    constructor
    · rintro ⟨t, t1, t2⟩; exact ⟨t, t2, t1, Or.inl rfl⟩
    · rintro ⟨t, t1, t2, -⟩; exact ⟨t, t2, t1⟩
  refine k_start ql_60 (Nat.le_of_ble_eq_true rfl) ?_
  simp only [q_en, List.replicate]
  refine k_iload_n i_60_0 rfl ?_
  refine k_iconst i_60_1 ?_
  refine k_irem i_60_2 (by omega) (by omega) (by omega) (by omega) ?_
  refine k_bipush i_60_3 (by decide) ?_
  refine k_imul i_60_5 ?_
  refine k_istore i_60_6 (Nat.le_of_ble_eq_true rfl) ?_
  dsimp only [q_st1, q_st2, q_unl]
  refine k_iload_n i_60_8 rfl ?_
  refine k_if_ne (t := 51) i_60_9 rfl (by omega) (fun g => ?_) (fun g => ?_)
  · obtain ⟨k, rfl⟩ : ∃ k : Nat, s = k + 1 := ⟨s - 1, by omega⟩
    obtain ⟨g1, g2⟩ := hf (by omega)
    refine k_iconst i_60_51 ?_
    refine k_istore i_60_52 (Nat.le_of_ble_eq_true rfl) ?_
    dsimp only [q_st1, q_st2, q_unl]
    exact l_least hW ho k hs a b (fun f' h1 h2 => fin f' _ _ h1 h2) (tN T * 4).toNat 0 f (by omega) (by omega) (by omega) g1 g2 (fun c l hc l0 l1 hp => by have := open_lt hc; omega)
  · have e : s = 0 := by omega
    subst e
    refine k_aload_n i_60_12 rfl ?_
    refine k_gfR i_60_13 f_10_39 (by first | rfl | assumption | (rw [hR]; rfl) | (dsimp only; rw [hR]; rfl)) (by decide) (by decide) (Or.inr ⟨_, rfl⟩) (by first | rfl | assumption | (rw [hR]; rfl) | (dsimp only; rw [hR]; rfl)) ?_
    refine k_ldc (a := 1073741824) i_60_16 n_10_64 (by decide) ?_
    refine k_cs2 i_60_18 c_10_65 (by decide) qp_158 (Nat.le_of_ble_eq_true rfl) (e_fill (n := 400) rfl (by decide) 1073741824) (fun v S2 h => ?_)
    obtain ⟨rfl, rfl⟩ := h
    show K shX (d + 4) 60 21 _ [] (q_fill (sr I 37 f) 37 400 1073741824, X) _
    rw [q_fill_sr, sr_sr]
    refine k_iconst i_60_21 ?_
    refine k_istore i_60_22 (Nat.le_of_ble_eq_true rfl) ?_
    dsimp only [q_st1, q_st2, q_unl]
    refine l_least0 hR (by omega) b (fun f' h1 => fin f' _ _ ?_ ?_) 4 0 _ (by omega) (fun j hj => ?_)
    · intro j hj
      rw [h1 j hj]
      split <;> omega
    · intro j hj hj2
      have e : j = 0 := by omega
      subst e
      intro c l hc l0 l1
      have hcr := open_lt hc
      show f' (ix 0 c l) = _
      rw [h1 _ (ix_lt (by omega) ⟨l0, l1⟩)]
      by_cases z : c = a
      · rw [if_pos z, if_pos (by unfold ix; omega)]
      · rw [if_neg z, if_neg (by unfold ix; omega)]
    · rw [if_pos hj, if_neg (by omega)]
end LE
