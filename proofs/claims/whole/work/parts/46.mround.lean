/-! ROUND: the reference -/
theorem ScM.up {I : Nat → Nat → Int} {c k : Nat} {v : Int} (hc : 7 ≤ c ∧ c ≤ 15) : ScM I (q_up I c k v) := fun c' hc' => by rw [← q_up_c (f := I) (k := k) (v := v) (c := c) (c' := c') (by omega)]
theorem pc_top {T : Tn} (hw : tWF T) {m : Nat} (hm : inT T m) : pc m (tN T).toNat = pc m 20 := by
  have hN := tN_le hw
  have key : ∀ j : Nat, pc m ((tN T).toNat + j) = pc m (tN T).toNat := by
    intro j
    induction j with
    | zero => rfl
    | succ j ih =>
      rw [show (tN T).toNat + (j + 1) = ((tN T).toNat + j) + 1 by omega, pc_S, ih, if_neg, Nat.add_zero]
      intro z
      have := hm _ z
      omega
  have := key (20 - (tN T).toNat)
  rw [show (tN T).toNat + (20 - (tN T).toNat) = 20 by omega] at this
  exact this.symm
theorem pc_mono2 {m i j : Nat} (h : i ≤ j) : pc m i ≤ pc m j := by
  induction j with
  | zero => have : i = 0 := by omega
            subst this; exact Nat.le_refl _
  | succ j ih =>
    by_cases e : i = j + 1
    · subst e; exact Nat.le_refl _
    · have := ih (by omega)
      rw [pc_S]; omega
theorem inT_of {T : Tn} {m : Nat} (h : m < 2 ^ (tN T).toNat) (hN : 0 ≤ tN T) : inT T m := by
  intro j hj
  have := two_pow_le_of_bit hj
  by_cases z : (j : Int) < tN T
  · exact z
  · have := Nat.pow_le_pow_right (n := 2) (by decide) (show (tN T).toNat ≤ j by omega)
    omega
/-- the squares of a round: the places, and behind them where it begins -/
noncomputable def Pq (m : Nat) (a : Int) (k : Nat) : Int := if k = pc m 20 then a else (pl m k : Int)
theorem Pq_n {m : Nat} {a : Int} : Pq m a (pc m 20) = a := by unfold Pq; rw [if_pos rfl]
theorem Pq_j {m : Nat} {a : Int} {j : Nat} (h : j < pc m 20) : Pq m a j = (pl m j : Int) := by unfold Pq; rw [if_neg (by omega)]
theorem okP_iff {T : Tn} (hw : tWF T) {m : Nat} (hm : m < 2 ^ (tN T).toNat) : okP T (m : Int) ↔ (m &&& tMask T 1 = 0 ∧ onk m 20 ≤ 4) := by
  have hN := tN_le hw
  have hi := inT_of hm (by omega)
  rw [onk_pc]
  constructor
  · rintro ⟨-, -, h3, h4⟩
    refine ⟨Nat.eq_of_testBit_eq (fun i => ?_), h3⟩
    rw [Nat.testBit_and, Nat.zero_testBit]
    cases e : m.testBit i
    · rfl
    · have h5 := hi i e
      have h6 := h4 i h5 e
      rw [tMask_bit, Bool.true_and]
      refine decide_eq_false (fun z => ?_)
      have h7 := open_house hw (c := (i : Int)) (s := 17 * (i : Int)) ⟨by omega, h5⟩ (by omega) h6
      apply h7
      unfold mHouse
      rw [show (17 * (i : Int) / 17).toNat = i by omega]
      exact z.2
  · rintro ⟨h1, h2⟩
    refine ⟨by omega, by omega, h2, fun c hc hb => ?_⟩
    have hb : m.testBit c = true := hb
    have h3 : (m &&& tMask T 1).testBit c = false := by rw [h1]; exact Nat.zero_testBit c
    rw [Nat.testBit_and, hb, Bool.true_and, tMask_bit] at h3
    have h4 := of_decide_eq_false h3
    unfold tOpen tHas tOn
    rw [decide_eq_true (⟨by omega, hc⟩ : 0 ≤ (c : Int) ∧ (c : Int) < tN T), Bool.true_and, if_pos ⟨by omega, by omega⟩]
    refine decide_eq_true ?_
    intro z
    exact h4 ⟨by omega, z⟩
theorem trr_S {c : Int → Int → Int} {p : Nat → Int} {a F : Int} {n f left : Nat} {u : Int} : trr c p a F n (f + 1) left u = if left = 0 then c u a else mnj (fun j => c u (p j) + trr c p a F n f (left - 2 ^ j) (p j)) left F n := rfl
section RO
variable {d : Nat} {T : Tn} {I : Nat → Nat → Int} {X : XX} {nt : Int} {Q : Option Value → QS → Prop}
-- method 137: StraightTaxModel.costOf.(III)I
theorem m_costOf (hB : MB I X T nt) {el : Nat} (hel : el < 2 ^ 31) (u v : Int) (hu : 0 ≤ u ∧ u < tN T) (hv : 0 ≤ v ∧ v < tN T) : KC shM (d + 4) 137 [.ref 0, .int (J u), .int (J v), .int (J (el : Int))] (I, X) (fun r S2 => r = some (.int (J (if D T nt el v (17 * u + 16) < 100000000 then D T nt el v (17 * u + 16) / 1000 else 100000000))) ∧ ∃ f, S2 = (sr I 7 f, X)) := by
  obtain ⟨hT, hR, hOK, hn, h01⟩ := id hB
  have hw := hOK.1
  have hN := tN_le hw
  refine k_start ql_137 (Nat.le_of_ble_eq_true rfl) ?_
  simp only [q_en, List.replicate]
  refine k_aload_n i_137_0 rfl ?_
  refine k_iload_n i_137_1 rfl ?_
  refine k_iload_n i_137_2 rfl ?_
  refine k_cv2 i_137_3 c_12_213 qp_127 qo_127 (by first | rfl | assumption | (rw [hR]; rfl) | (dsimp only; rw [hR]; rfl)) (Nat.le_of_ble_eq_true rfl) (m_findRest (S := (I, X)) hT hR hOK.1 hn h01 hel hv) (fun v S2 h => ?_)
  obtain ⟨rfl, f, rfl, hf⟩ := h
  show K shM (d + 4) 137 6 _ [] (sr I 7 f, X) _
  have hD := (D_fx hw h01 hel hv (17 * u + 16) (by omega) (by omega)).1
  refine k_aload_n i_137_6 rfl ?_
  refine k_gfR i_137_7 f_12_45 (by first | rfl | assumption | (rw [hR]; rfl) | (dsimp only; rw [hR]; rfl)) (by decide) (by decide) (Or.inr ⟨_, rfl⟩) (by first | rfl | assumption | (rw [hR]; rfl) | (dsimp only; rw [hR]; rfl)) ?_
  refine k_bipush i_137_10 (by decide) ?_
  refine k_iload_n i_137_12 rfl ?_
  refine k_imul i_137_13 ?_
  refine k_bipush i_137_14 (by decide) ?_
  refine k_iadd i_137_16 ?_
  refine k_iald i_137_17 rfl (by decide) (by omega) (by omega) ?_
  rw [show (sr I 7 f, X).1 7 (17 * u + 16).toNat = D T nt el v (17 * u + 16) from by
    show sr I 7 f 7 _ = _
    rw [sr_s]
    exact fx_eq hw (by decide) (hf.fx hw) (D_fx hw h01 hel hv) (by omega) (by omega)]
  refine k_istore i_137_18 (Nat.le_of_ble_eq_true rfl) ?_
  dsimp only [q_st1, q_st2, q_unl]
  refine k_iload i_137_20 rfl ?_
  refine k_ldc (a := 100000000) i_137_22 n_12_202 (by decide) ?_
  refine k_ic_lt (t := 32) i_137_24 rfl (by omega) (by omega) (fun g => ?_) (fun g => ?_)
  · rw [if_pos g]
    refine k_iload i_137_32 rfl ?_
    refine k_sipush i_137_34 (by decide) ?_
    refine k_idiv i_137_37 (by omega) (by omega) (by omega) (by omega) ?_
    refine k_iret i_137_38 qt_137 ?_
    exact ⟨rfl, f, rfl⟩
  · rw [if_neg g]
    refine k_ldc (a := 100000000) i_137_27 n_12_202 (by decide) ?_
    refine k_goto (t := 38) i_137_29 rfl ?_
    refine k_iret i_137_38 qt_137 ?_
    exact ⟨rfl, f, rfl⟩
-- method 135: StraightTaxModel.round.(II)I
theorem l_mro_a (hw : tWF T) (a : Int) (m : Nat) (hm : inT T m) (h4 : pc m 20 ≤ 4)
    (hk : ∀ (I' : Nat → Nat → Int), ScM I I' → (∀ c : Nat, m.testBit c = true → I' 10 (pc m c) = c) → K shM (d + 5) 135 95 [some (.ref 0), some (.int (J a)), some (.int (J (m : Int))), some (.int (J ((pc m 20 : Nat) : Int))), some (.int (J (tN T))), none, none, none] [] (I', X) Q) :
    ∀ (f c : Nat) (I' : Nat → Nat → Int), (c : Int) + f = tN T → MB I' X T nt → ScM I I' → (∀ c' : Nat, c' < c → m.testBit c' = true → I' 10 (pc m c') = c') → K shM (d + 5) 135 55 [some (.ref 0), some (.int (J a)), some (.int (J (m : Int))), some (.int (J ((pc m c : Nat) : Int))), some (.int (J (c : Int))), none, none, none] [] (I', X) Q := by
  have hN := tN_le hw
  have hm2 := inT_lt hw hm
  intro f
  induction f with
  | zero =>
    intro c I' hc hB hS hpl
    obtain ⟨hT, hR, hOK, hn, h01⟩ := id hB
    obtain ⟨a0, a1, a2, a3, a4, a5, a6, a7, a8⟩ := id hT
    have eN : (I', X).1 0 0 * (I', X).1 0 1 = tN T := by rw [a0, a1]; rfl
    refine k_iload i_135_55 rfl ?_
    refine k_aload_n i_135_57 rfl ?_
    refine k_gfI i_135_58 f_12_7 (by first | rfl | assumption | (rw [hR]; rfl) | (dsimp only; rw [hR]; rfl)) (by decide) (by decide) (Or.inl rfl) ?_
    refine k_aload_n i_135_61 rfl ?_
    refine k_gfI i_135_62 f_12_13 (by first | rfl | assumption | (rw [hR]; rfl) | (dsimp only; rw [hR]; rfl)) (by decide) (by decide) (Or.inl rfl) ?_
    refine k_imul i_135_65 ?_
    rw [eN]
    refine k_ic_ge (t := 95) i_135_66 rfl (by omega) (by omega) (fun h => ?_) (fun h => ?_)
    · rw [show c = (tN T).toNat by omega, pc_top hw hm, show (((tN T).toNat : Nat) : Int) = tN T by omega]
      exact hk I' hS (fun c' hb => hpl c' (by have := hm c' hb; omega) hb)
    · omega
  | succ f ih =>
    intro c I' hc hB hS hpl
    obtain ⟨hT, hR, hOK, hn, h01⟩ := id hB
    obtain ⟨a0, a1, a2, a3, a4, a5, a6, a7, a8⟩ := id hT
    have eN : (I', X).1 0 0 * (I', X).1 0 1 = tN T := by rw [a0, a1]; rfl
    refine k_iload i_135_55 rfl ?_
    refine k_aload_n i_135_57 rfl ?_
    refine k_gfI i_135_58 f_12_7 (by first | rfl | assumption | (rw [hR]; rfl) | (dsimp only; rw [hR]; rfl)) (by decide) (by decide) (Or.inl rfl) ?_
    refine k_aload_n i_135_61 rfl ?_
    refine k_gfI i_135_62 f_12_13 (by first | rfl | assumption | (rw [hR]; rfl) | (dsimp only; rw [hR]; rfl)) (by decide) (by decide) (Or.inl rfl) ?_
    refine k_imul i_135_65 ?_
    rw [eN]
    refine k_ic_ge (t := 95) i_135_66 rfl (by omega) (by omega) (fun h => ?_) (fun h => ?_)
    · omega
    · refine k_iload_n i_135_69 rfl ?_
      refine k_iload i_135_70 rfl ?_
      refine k_sp2 i_135_72 c_12_83 (by decide) qp_109 (Nat.le_of_ble_eq_true rfl) (m_has (by omega) _ (by omega) (by omega)) ?_
      rw [show ((c : Int)).toNat = c by omega]
      refine k_if_eqB (t := 89) i_135_75 rfl (fun h => ?_) (fun h => ?_)
      · refine k_iinc i_135_89 rfl (Nat.le_of_ble_eq_true rfl) ?_
        dsimp only [q_st1, q_st2, q_unl]
        refine k_goto (t := 55) i_135_92 rfl ?_
        have eS : pc m (c + 1) = pc m c := by simp [pc_S, h]
        rw [← eS]
        refine ih (c + 1) I' (by omega) hB hS (fun c' hc' hb => ?_)
        by_cases e : c' = c
        · subst e; rw [h] at hb; cases hb
        · exact hpl c' (by omega) hb
      · have hlt := pc_lt2 (j := 20) h (by omega)
        refine k_aload_n i_135_78 rfl ?_
        refine k_gfR i_135_79 f_12_54 (by first | rfl | assumption | (rw [hR]; rfl) | (dsimp only; rw [hR]; rfl)) (by decide) (by decide) (Or.inr ⟨_, rfl⟩) (by first | rfl | assumption | (rw [hR]; rfl) | (dsimp only; rw [hR]; rfl)) ?_
        refine k_iload_n i_135_82 rfl ?_
        refine k_iload i_135_83 rfl ?_
        refine k_iast i_135_85 rfl (by decide) (by omega) (by omega) ?_
        dsimp only
        refine k_iinc i_135_86 rfl (Nat.le_of_ble_eq_true rfl) ?_
        dsimp only [q_st1, q_st2, q_unl]
        refine k_iinc i_135_89 rfl (Nat.le_of_ble_eq_true rfl) ?_
        dsimp only [q_st1, q_st2, q_unl]
        refine k_goto (t := 55) i_135_92 rfl ?_
        have eS : pc m (c + 1) = pc m c + 1 := by simp [pc_S, h]
        rw [show ((pc m c : Nat) : Int) + 1 = ((pc m (c + 1) : Nat) : Int) by omega, show (((pc m c : Nat) : Int)).toNat = pc m c by omega]
        refine ih (c + 1) _ (by omega) (hB.scr (ScM.up (by omega))) (hS.trans (ScM.up (by omega))) (fun c' hc' hb => ?_)
        by_cases e : c' = c
        · subst e; rw [q_up_s]
        · have := pc_lt2 hb (show c' < c by omega)
          rw [q_up_n (by omega)]
          exact hpl c' (by omega) hb
/-- all pence between two of the squares -/
theorem l_mro_b (a : Int) (m : Nat) (h4 : pc m 20 ≤ 4) (hop : ∀ k : Nat, k ≤ pc m 20 → tOpen T (Pq m a k) = true)
    (hk : ∀ (I' : Nat → Nat → Int) (x5 : Option Value), MB I' X T nt → ScM I I' → (∀ k : Nat, k ≤ pc m 20 → I' 10 k = Pq m a k) → (∀ i j : Nat, i ≤ pc m 20 → j ≤ pc m 20 → I' 11 (5 * i + j) = pM T nt (Pq m a j) (Pq m a i)) → K shM (d + 5) 135 166 [some (.ref 0), some (.int (J a)), some (.int (J (m : Int))), some (.int (J ((pc m 20 : Nat) : Int))), some (.int (J ((pc m 20 : Nat) + 1 : Int))), x5, none, none] [] (I', X) Q) :
    ∀ (f i : Nat) (I' : Nat → Nat → Int) (x5 : Option Value), i + f = pc m 20 + 1 → MB I' X T nt → ScM I I' → (∀ k : Nat, k ≤ pc m 20 → I' 10 k = Pq m a k) → (∀ i' j : Nat, i' < i → j ≤ pc m 20 → I' 11 (5 * i' + j) = pM T nt (Pq m a j) (Pq m a i')) → K shM (d + 5) 135 105 [some (.ref 0), some (.int (J a)), some (.int (J (m : Int))), some (.int (J ((pc m 20 : Nat) : Int))), some (.int (J (i : Int))), x5, none, none] [] (I', X) Q := by
  intro f
  induction f with
  | zero =>
    intro i I' x5 hi hB hS hpl hbt
    have hR := hB.2.1
    refine k_iload i_135_105 rfl ?_
    refine k_iload_n i_135_107 rfl ?_
    refine k_ic_gt (t := 166) i_135_108 rfl (by omega) (by omega) (fun h => ?_) (fun h => ?_)
    · rw [show ((i : Nat) : Int) = ((pc m 20 : Nat) : Int) + 1 by omega]
      exact hk I' x5 hB hS hpl (fun i' j h1 h2 => hbt i' j (by omega) h2)
    · omega
  | succ f ih =>
    intro i I' x5 hi hB hS hpl hbt
    have hR := hB.2.1
    refine k_iload i_135_105 rfl ?_
    refine k_iload_n i_135_107 rfl ?_
    refine k_ic_gt (t := 166) i_135_108 rfl (by omega) (by omega) (fun h => ?_) (fun h => ?_)
    · omega
    · refine k_iconst i_135_111 ?_
      refine k_istore i_135_112 (Nat.le_of_ble_eq_true rfl) ?_
      dsimp only [q_st1, q_st2, q_unl]
      have inner : ∀ (g j : Nat) (I' : Nat → Nat → Int), j + g = pc m 20 + 1 → MB I' X T nt → ScM I I' → (∀ k : Nat, k ≤ pc m 20 → I' 10 k = Pq m a k) → (∀ i' j : Nat, i' < i → j ≤ pc m 20 → I' 11 (5 * i' + j) = pM T nt (Pq m a j) (Pq m a i')) → (∀ j' : Nat, j' < j → I' 11 (5 * i + j') = pM T nt (Pq m a j') (Pq m a i)) → K shM (d + 5) 135 114 [some (.ref 0), some (.int (J a)), some (.int (J (m : Int))), some (.int (J ((pc m 20 : Nat) : Int))), some (.int (J (i : Int))), some (.int (J (j : Int))), none, none] [] (I', X) Q := by
        intro g
        induction g with
        | zero =>
          intro j I' hj hB hS hpl hbt hrow
          have hR := hB.2.1
          refine k_iload i_135_114 rfl ?_
          refine k_iload_n i_135_116 rfl ?_
          refine k_ic_gt (t := 160) i_135_117 rfl (by omega) (by omega) (fun h => ?_) (fun h => ?_)
          · refine k_iinc i_135_160 rfl (Nat.le_of_ble_eq_true rfl) ?_
            dsimp only [q_st1, q_st2, q_unl]
            refine k_goto (t := 105) i_135_163 rfl ?_
            refine ih (i + 1) I' _ (by omega) hB hS hpl (fun i' j' h1 h2 => ?_)
            by_cases e : i' = i
            · subst e; exact hrow j' (by omega)
            · exact hbt i' j' (by omega) h2
          · omega
        | succ g ih2 =>
          intro j I' hj hB hS hpl hbt hrow
          obtain ⟨hT, hR, hOK, hn, h01⟩ := id hB
          obtain ⟨a0, a1, a2, a3, a4, a5, a6, a7, a8⟩ := id hT
          have hm2 := tMask_lt T 2
          refine k_iload i_135_114 rfl ?_
          refine k_iload_n i_135_116 rfl ?_
          refine k_ic_gt (t := 160) i_135_117 rfl (by omega) (by omega) (fun h => ?_) (fun h => ?_)
          · omega
          · refine k_aload_n i_135_120 rfl ?_
            refine k_gfR i_135_121 f_12_57 (by first | rfl | assumption | (rw [hR]; rfl) | (dsimp only; rw [hR]; rfl)) (by decide) (by decide) (Or.inr ⟨_, rfl⟩) (by first | rfl | assumption | (rw [hR]; rfl) | (dsimp only; rw [hR]; rfl)) ?_
            refine k_iconst i_135_124 ?_
            refine k_iload i_135_125 rfl ?_
            refine k_imul i_135_127 ?_
            refine k_iload i_135_128 rfl ?_
            refine k_iadd i_135_130 ?_
            refine k_aload_n i_135_131 rfl ?_
            refine k_aload_n i_135_132 rfl ?_
            refine k_gfR i_135_133 f_12_54 (by first | rfl | assumption | (rw [hR]; rfl) | (dsimp only; rw [hR]; rfl)) (by decide) (by decide) (Or.inr ⟨_, rfl⟩) (by first | rfl | assumption | (rw [hR]; rfl) | (dsimp only; rw [hR]; rfl)) ?_
            refine k_iload i_135_136 rfl ?_
            refine k_iald i_135_138 rfl (by decide) (by omega) (by omega) ?_
            rw [show (I', X).1 10 ((i : Int)).toNat = Pq m a i from by rw [show ((i : Int)).toNat = i by omega]; exact hpl i (by omega)]
            refine k_aload_n i_135_139 rfl ?_
            refine k_gfR i_135_140 f_12_54 (by first | rfl | assumption | (rw [hR]; rfl) | (dsimp only; rw [hR]; rfl)) (by decide) (by decide) (Or.inr ⟨_, rfl⟩) (by first | rfl | assumption | (rw [hR]; rfl) | (dsimp only; rw [hR]; rfl)) ?_
            refine k_iload i_135_143 rfl ?_
            refine k_iald i_135_145 rfl (by decide) (by omega) (by omega) ?_
            rw [show (I', X).1 10 ((j : Int)).toNat = Pq m a j from by rw [show ((j : Int)).toNat = j by omega]; exact hpl j (by omega)]
            refine k_aload_n i_135_146 rfl ?_
            refine k_gfI i_135_147 f_12_167 (by first | rfl | assumption | (rw [hR]; rfl) | (dsimp only; rw [hR]; rfl)) (by decide) (by decide) (Or.inl rfl) ?_
            rw [show (I', X).1 0 3 = (tMask T 2 : Int) from a3]
            refine k_cv3 i_135_150 c_12_226 qp_137 qo_137 (by first | rfl | assumption | (rw [hR]; rfl) | (dsimp only; rw [hR]; rfl)) (Nat.le_of_ble_eq_true rfl) (m_costOf hB (by omega) (Pq m a i) (Pq m a j) (open_lt (hop i (by omega))) (open_lt (hop j (by omega)))) (fun v S2 h => ?_)
            obtain ⟨rfl, f7, rfl⟩ := h
            show K shM (d + 5) 135 153 _ (.int (J (pM T nt (Pq m a j) (Pq m a i))) :: _) (sr I' 7 f7, X) _
            refine k_iast i_135_153 rfl (by decide) (by omega) (by omega) ?_
            dsimp only
            refine k_iinc i_135_154 rfl (Nat.le_of_ble_eq_true rfl) ?_
            dsimp only [q_st1, q_st2, q_unl]
            refine k_goto (t := 114) i_135_157 rfl ?_
            rw [show (5 * (i : Int) + (j : Int)).toNat = 5 * i + j by omega]
            have hsc : ScM I' (q_up (sr I' 7 f7) 11 (5 * i + j) (pM T nt (Pq m a j) (Pq m a i))) := (ScM.row (by omega)).trans (ScM.up (by omega))
            refine ih2 (j + 1) _ (by omega) (hB.scr hsc) (hS.trans hsc) (fun k hk => ?_) (fun i' j' h1 h2 => ?_) (fun j' hj' => ?_)
            · rw [q_up_n (by omega), sr_n (by omega)]; exact hpl k hk
            · rw [q_up_n (by omega), sr_n (by omega)]; exact hbt i' j' h1 h2
            · by_cases e : j' = j
              · subst e; rw [q_up_s]
              · rw [q_up_n (by omega), sr_n (by omega)]; exact hrow j' (by omega)
      exact inner (pc m 20 + 1) 0 I' (by omega) hB hS hpl hbt (fun j' hj' => by omega)
/-- the reference's mask without a place -/
theorem J_without : ∀ l : Nat, l < 16 → ∀ j : Nat, j < 4 → l.testBit j = true → J (l : Int) &&& (J ((2 ^ j : Nat) : Int) ^^^ J (-1)) = J ((l - 2 ^ j : Nat) : Int) := by decide +kernel
noncomputable abbrev trM (T : Tn) (nt a : Int) (m l : Nat) (u : Int) : Int := trr (fun u v => pM T nt v u) (fun j => (pl m j : Int)) a 100000000 (pc m 20) l l u
theorem pM_range (hw : tWF T) (h01 : nt = 0 ∨ nt = 1) {u v : Int} (hu : tOpen T u = true) (hv : tOpen T v = true) : 0 ≤ pM T nt v u ∧ pM T nt v u ≤ 100000000 := by
  rcases rc_pM hw h01 hu (open_lt hv) with z | z <;> omega
theorem trM_range (hw : tWF T) (h01 : nt = 0 ∨ nt = 1) {a : Int} {m : Nat} (hop : ∀ k : Nat, k ≤ pc m 20 → tOpen T (Pq m a k) = true) (l : Nat) {u : Int} (hu : tOpen T u = true) : 0 ≤ trM T nt a m l u ∧ trM T nt a m l u ≤ 100000000 := by
  have ha : tOpen T a = true := by have := hop (pc m 20) (Nat.le_refl _); rwa [Pq_n] at this
  have hp : ∀ j, j < pc m 20 → tOpen T ((pl m j : Nat) : Int) = true := fun j hj => by have := hop j (by omega); rwa [Pq_j hj] at this
  refine ⟨trr_nn (U := fun u => tOpen T u = true) (by decide) (fun u v hu hv => (pM_range hw h01 hu hv).1) hp ha l l u hu, ?_⟩
  cases l with
  | zero => exact (pM_range hw h01 hu ha).2
  | succ l =>
    show trr _ _ _ _ _ _ _ _ ≤ _
    unfold trr
    split
    · exact (pM_range hw h01 hu ha).2
    · exact (mnj_min _).1
theorem l_mro_c (hw : tWF T) (h01 : nt = 0 ∨ nt = 1) (a : Int) (m : Nat) (h4 : pc m 20 ≤ 4) (hop : ∀ k : Nat, k ≤ pc m 20 → tOpen T (Pq m a k) = true)
    (hk : ∀ (I' : Nat → Nat → Int) (x5 x6 x7 : Option Value), MB I' X T nt → ScM I I' → (∀ l k : Nat, l < 2 ^ (pc m 20) → k ≤ pc m 20 → I' 12 (5 * l + k) = trM T nt a m l (Pq m a k)) → K shM (d + 5) 135 299 [some (.ref 0), some (.int (J a)), some (.int (J (m : Int))), some (.int (J ((pc m 20 : Nat) : Int))), some (.int (J ((2 ^ (pc m 20) : Nat) : Int))), x5, x6, x7] [] (I', X) Q) :
    ∀ (f left : Nat) (I' : Nat → Nat → Int) (x5 x6 x7 : Option Value), left + f = 2 ^ (pc m 20) → MB I' X T nt → ScM I I' → (∀ i j : Nat, i ≤ pc m 20 → j ≤ pc m 20 → I' 11 (5 * i + j) = pM T nt (Pq m a j) (Pq m a i)) → (∀ l k : Nat, l < left → k ≤ pc m 20 → I' 12 (5 * l + k) = trM T nt a m l (Pq m a k)) → K shM (d + 5) 135 169 [some (.ref 0), some (.int (J a)), some (.int (J (m : Int))), some (.int (J ((pc m 20 : Nat) : Int))), some (.int (J (left : Int))), x5, x6, x7] [] (I', X) Q := by
  have h16 : 2 ^ (pc m 20) ≤ 16 := Nat.pow_le_pow_right (n := 2) (by decide) h4
  have ha : tOpen T a = true := by have := hop (pc m 20) (Nat.le_refl _); rwa [Pq_n] at this
  intro f
  induction f with
  | zero =>
    intro left I' x5 x6 x7 hl hB hS hbt hrd
    have hR := hB.2.1
    refine k_iload i_135_169 rfl ?_
    refine k_iconst i_135_171 ?_
    refine k_iload_n i_135_172 rfl ?_
    refine k_ishl i_135_173 (J_one (by omega) (by omega)) ?_
    rw [show (((pc m 20 : Nat) : Int)).toNat = pc m 20 by omega]
    refine k_ic_ge (t := 299) i_135_174 rfl (by omega) (by omega) (fun h => ?_) (fun h => ?_)
    · have e : left = 2 ^ (pc m 20) := by omega
      rw [e]
      exact hk I' x5 x6 x7 hB hS (fun l k h1 h2 => hrd l k (by omega) h2)
    · omega
  | succ f ih =>
    intro left I' x5 x6 x7 hl hB hS hbt hrd
    have hR := hB.2.1
    have hl16 : left < 16 := by omega
    refine k_iload i_135_169 rfl ?_
    refine k_iconst i_135_171 ?_
    refine k_iload_n i_135_172 rfl ?_
    refine k_ishl i_135_173 (J_one (by omega) (by omega)) ?_
    rw [show (((pc m 20 : Nat) : Int)).toNat = pc m 20 by omega]
    refine k_ic_ge (t := 299) i_135_174 rfl (by omega) (by omega) (fun h => ?_) (fun h => ?_)
    · omega
    · refine k_iconst i_135_177 ?_
      refine k_istore i_135_178 (Nat.le_of_ble_eq_true rfl) ?_
      dsimp only [q_st1, q_st2, q_unl]
      have rows : ∀ (g i : Nat) (I' : Nat → Nat → Int) (x6 x7 : Option Value), i + g = pc m 20 + 1 → MB I' X T nt → ScM I I' → (∀ i j : Nat, i ≤ pc m 20 → j ≤ pc m 20 → I' 11 (5 * i + j) = pM T nt (Pq m a j) (Pq m a i)) → (∀ l k : Nat, l < left → k ≤ pc m 20 → I' 12 (5 * l + k) = trM T nt a m l (Pq m a k)) → (∀ k : Nat, k < i → I' 12 (5 * left + k) = trM T nt a m left (Pq m a k)) → K shM (d + 5) 135 180 [some (.ref 0), some (.int (J a)), some (.int (J (m : Int))), some (.int (J ((pc m 20 : Nat) : Int))), some (.int (J (left : Int))), some (.int (J (i : Int))), x6, x7] [] (I', X) Q := by
        intro g
        induction g with
        | zero =>
          intro i I' x6 x7 hi hB hS hbt hrd hrow
          have hR := hB.2.1
          refine k_iload i_135_180 rfl ?_
          refine k_iload_n i_135_182 rfl ?_
          refine k_ic_gt (t := 293) i_135_183 rfl (by omega) (by omega) (fun h => ?_) (fun h => ?_)
          · refine k_iinc i_135_293 rfl (Nat.le_of_ble_eq_true rfl) ?_
            dsimp only [q_st1, q_st2, q_unl]
            refine k_goto (t := 169) i_135_296 rfl ?_
            refine ih (left + 1) I' _ _ _ (by omega) hB hS hbt (fun l k h1 h2 => ?_)
            by_cases e : l = left
            · subst e; exact hrow k (by omega)
            · exact hrd l k (by omega) h2
          · omega
        | succ g ih2 =>
          intro i I' x6 x7 hi hB hS hbt hrd hrow
          have hR := hB.2.1
          have hui := hop i (by omega)
          have fin : ∀ (best : Int) (x7 : Option Value), best = trM T nt a m left (Pq m a i) → K shM (d + 5) 135 273 [some (.ref 0), some (.int (J a)), some (.int (J (m : Int))), some (.int (J ((pc m 20 : Nat) : Int))), some (.int (J (left : Int))), some (.int (J (i : Int))), some (.int (J best)), x7] [] (I', X) Q := by
            intro best x7 hbest
            refine k_aload_n i_135_273 rfl ?_
            refine k_gfR i_135_274 f_12_60 (by first | rfl | assumption | (rw [hR]; rfl) | (dsimp only; rw [hR]; rfl)) (by decide) (by decide) (Or.inr ⟨_, rfl⟩) (by first | rfl | assumption | (rw [hR]; rfl) | (dsimp only; rw [hR]; rfl)) ?_
            refine k_iconst i_135_277 ?_
            refine k_iload i_135_278 rfl ?_
            refine k_imul i_135_280 ?_
            refine k_iload i_135_281 rfl ?_
            refine k_iadd i_135_283 ?_
            refine k_iload i_135_284 rfl ?_
            refine k_iast i_135_286 rfl (by decide) (by omega) (by omega) ?_
            dsimp only
            refine k_iinc i_135_287 rfl (Nat.le_of_ble_eq_true rfl) ?_
            dsimp only [q_st1, q_st2, q_unl]
            refine k_goto (t := 180) i_135_290 rfl ?_
            rw [show (5 * (left : Int) + (i : Int)).toNat = 5 * left + i by omega]
            refine ih2 (i + 1) _ _ _ (by omega) (hB.scr (ScM.up (by omega))) (hS.trans (ScM.up (by omega))) (fun i' j' h1 h2 => ?_) (fun l k h1 h2 => ?_) (fun k hk => ?_)
            · rw [q_up_n (by omega)]; exact hbt i' j' h1 h2
            · rw [q_up_n (by omega)]; exact hrd l k h1 h2
            · by_cases e : k = i
              · subst e; rw [q_up_s]; exact hbest
              · rw [q_up_n (by omega)]; exact hrow k (by omega)
          -- the least over the places left
          have loop : ∀ (g : Nat → Int) (st : Int), (∀ j, j < pc m 20 → left.testBit j = true → g j = pM T nt (Pq m a j) (Pq m a i) + trM T nt a m (left - 2 ^ j) (Pq m a j)) → (0 ≤ st ∧ st ≤ 100000000) → mnj g left st (pc m 20) = trM T nt a m left (Pq m a i) → ∀ (f j : Nat), j + f = pc m 20 → K shM (d + 5) 135 212 [some (.ref 0), some (.int (J a)), some (.int (J (m : Int))), some (.int (J ((pc m 20 : Nat) : Int))), some (.int (J (left : Int))), some (.int (J (i : Int))), some (.int (J (mnj g left st j))), some (.int (J (j : Int)))] [] (I', X) Q := by
            intro g st hg hst hend f
            induction f with
            | zero =>
              intro j hj
              have e : j = pc m 20 := by omega
              subst e
              refine k_iload i_135_212 rfl ?_
              refine k_iload_n i_135_214 rfl ?_
              refine k_ic_ge (t := 273) i_135_215 rfl (by omega) (by omega) (fun h => ?_) (fun h => ?_)
              · exact fin _ _ hend
              · omega
            | succ f ih3 =>
              intro j hj
              have hi3 := ih3 (j + 1) (by omega)
              have eS : mnj g left st (j + 1) = if left.testBit j = true then min (mnj g left st j) (g j) else mnj g left st j := rfl
              rw [eS] at hi3
              refine k_iload i_135_212 rfl ?_
              refine k_iload_n i_135_214 rfl ?_
              refine k_ic_ge (t := 273) i_135_215 rfl (by omega) (by omega) (fun h => ?_) (fun h => ?_)
              · omega
              · refine k_iload i_135_218 rfl ?_
                refine k_iload i_135_220 rfl ?_
                refine k_sp2 i_135_222 c_12_83 (by decide) qp_109 (Nat.le_of_ble_eq_true rfl) (m_has (by omega) _ (by omega) (by omega)) ?_
                rw [show ((j : Int)).toNat = j by omega]
                refine k_if_eqB (t := 267) i_135_225 rfl (fun h => ?_) (fun h => ?_)
                · rw [if_neg (by rw [h]; decide)] at hi3
                  refine k_iinc i_135_267 rfl (Nat.le_of_ble_eq_true rfl) ?_
                  dsimp only [q_st1, q_st2, q_unl]
                  refine k_goto (t := 212) i_135_270 rfl ?_
                  exact hi3
                · rw [if_pos h] at hi3
                  have hle := two_pow_le_of_bit h
                  have hpos := Nat.two_pow_pos j
                  have hgj := hg j (by omega) h
                  have hpr := pM_range hw h01 hui (hop j (by omega))
                  have htr := trM_range hw h01 hop (left - 2 ^ j) (hop j (by omega))
                  have hmr : 0 ≤ mnj g left st j ∧ mnj g left st j ≤ 100000000 := by
                    have h1 := mnj_min (g := g) (left := left) (F := st) j
                    refine ⟨?_, by have := h1.1; omega⟩
                    rcases h1.2.2 with z | ⟨k, z1, z2, z3⟩
                    · omega
                    · rw [z3, hg k (by omega) z2]
                      have y1 := pM_range hw h01 hui (hop k (by omega))
                      have y2 := trM_range hw h01 hop (left - 2 ^ k) (hop k (by omega))
                      omega
                  refine k_iload i_135_228 rfl ?_
                  refine k_aload_n i_135_230 rfl ?_
                  refine k_gfR i_135_231 f_12_57 (by first | rfl | assumption | (rw [hR]; rfl) | (dsimp only; rw [hR]; rfl)) (by decide) (by decide) (Or.inr ⟨_, rfl⟩) (by first | rfl | assumption | (rw [hR]; rfl) | (dsimp only; rw [hR]; rfl)) ?_
                  refine k_iconst i_135_234 ?_
                  refine k_iload i_135_235 rfl ?_
                  refine k_imul i_135_237 ?_
                  refine k_iload i_135_238 rfl ?_
                  refine k_iadd i_135_240 ?_
                  refine k_iald i_135_241 rfl (by decide) (by omega) (by omega) ?_
                  rw [show (I', X).1 11 (5 * (i : Int) + (j : Int)).toNat = pM T nt (Pq m a j) (Pq m a i) from by rw [show (5 * (i : Int) + (j : Int)).toNat = 5 * i + j by omega]; exact hbt i j (by omega) (by omega)]
                  refine k_aload_n i_135_242 rfl ?_
                  refine k_gfR i_135_243 f_12_60 (by first | rfl | assumption | (rw [hR]; rfl) | (dsimp only; rw [hR]; rfl)) (by decide) (by decide) (Or.inr ⟨_, rfl⟩) (by first | rfl | assumption | (rw [hR]; rfl) | (dsimp only; rw [hR]; rfl)) ?_
                  refine k_iconst i_135_246 ?_
                  refine k_iload i_135_247 rfl ?_
                  refine k_iconst i_135_249 ?_
                  refine k_iload i_135_250 rfl ?_
                  refine k_ishl i_135_252 (J_one (by omega) (by omega)) ?_
                  rw [show ((j : Int)).toNat = j by omega]
                  refine k_iconst i_135_253 ?_
                  refine k_ixor (c := (J ((2 ^ j : Nat) : Int) ^^^ J (-1)).toInt) i_135_254 (J_of _).symm ?_
                  refine k_iand (c := ((left - 2 ^ j : Nat) : Int)) i_135_255 (by rw [J_of]; exact J_without left hl16 j (by omega) h) ?_
                  refine k_imul i_135_256 ?_
                  refine k_iload i_135_257 rfl ?_
                  refine k_iadd i_135_259 ?_
                  refine k_iald i_135_260 rfl (by decide) (by omega) (by omega) ?_
                  rw [show (I', X).1 12 (5 * ((left - 2 ^ j : Nat) : Int) + (j : Int)).toNat = trM T nt a m (left - 2 ^ j) (Pq m a j) from by rw [show (5 * ((left - 2 ^ j : Nat) : Int) + (j : Int)).toNat = 5 * (left - 2 ^ j) + j by omega]; exact hrd (left - 2 ^ j) j (by omega) (by omega)]
                  refine k_iadd i_135_261 ?_
                  refine k_sp2 i_135_262 c_12_108 (by decide) qp_107 (Nat.le_of_ble_eq_true rfl) (m_lesser _ _ (by omega) (by omega)) ?_
                  refine k_istore i_135_265 (Nat.le_of_ble_eq_true rfl) ?_
                  dsimp only [q_st1, q_st2, q_unl]
                  refine k_iinc i_135_267 rfl (Nat.le_of_ble_eq_true rfl) ?_
                  dsimp only [q_st1, q_st2, q_unl]
                  refine k_goto (t := 212) i_135_270 rfl ?_
                  rw [hgj] at hi3
                  exact hi3
          refine k_iload i_135_180 rfl ?_
          refine k_iload_n i_135_182 rfl ?_
          refine k_ic_gt (t := 293) i_135_183 rfl (by omega) (by omega) (fun h => ?_) (fun h => ?_)
          · omega
          · refine k_iload i_135_186 rfl ?_
            refine k_if_ne (t := 205) i_135_188 rfl (by omega) (fun g0 => ?_) (fun g0 => ?_)
            · refine k_ldc (a := 100000000) i_135_205 n_12_202 (by decide) ?_
              refine k_istore i_135_207 (Nat.le_of_ble_eq_true rfl) ?_
              dsimp only [q_st1, q_st2, q_unl]
              refine k_iconst i_135_209 ?_
              refine k_istore i_135_210 (Nat.le_of_ble_eq_true rfl) ?_
              dsimp only [q_st1, q_st2, q_unl]
              obtain ⟨l', rfl⟩ : ∃ l', left = l' + 1 := ⟨left - 1, by omega⟩
              refine loop (fun j => pM T nt (pl m j) (Pq m a i) + trr (fun u v => pM T nt v u) (fun j => (pl m j : Int)) a 100000000 (pc m 20) l' (l' + 1 - 2 ^ j) (pl m j)) 100000000 (fun j hj hb => ?_) (by omega) ?_ (pc m 20) 0 (by omega)
              · have := two_pow_le_of_bit hb
                have := Nat.two_pow_pos j
                rw [Pq_j hj]
                congr 1
                exact trr_fuel _ _ _ _ (by omega) (by omega)
              · show _ = trr _ _ _ _ _ (l' + 1) _ _
                rw [trr_S, if_neg (by omega)]
            · have e0 : left = 0 := by omega
              subst e0
              refine k_aload_n i_135_191 rfl ?_
              refine k_gfR i_135_192 f_12_57 (by first | rfl | assumption | (rw [hR]; rfl) | (dsimp only; rw [hR]; rfl)) (by decide) (by decide) (Or.inr ⟨_, rfl⟩) (by first | rfl | assumption | (rw [hR]; rfl) | (dsimp only; rw [hR]; rfl)) ?_
              refine k_iconst i_135_195 ?_
              refine k_iload i_135_196 rfl ?_
              refine k_imul i_135_198 ?_
              refine k_iload_n i_135_199 rfl ?_
              refine k_iadd i_135_200 ?_
              refine k_iald i_135_201 rfl (by decide) (by omega) (by omega) ?_
              rw [show (I', X).1 11 (5 * (i : Int) + ((pc m 20 : Nat) : Int)).toNat = pM T nt a (Pq m a i) from by
                rw [show (5 * (i : Int) + ((pc m 20 : Nat) : Int)).toNat = 5 * i + pc m 20 by omega]
                have := hbt i (pc m 20) (by omega) (by omega)
                rw [Pq_n] at this
                exact this]
              refine k_goto (t := 207) i_135_202 rfl ?_
              refine k_istore i_135_207 (Nat.le_of_ble_eq_true rfl) ?_
              dsimp only [q_st1, q_st2, q_unl]
              refine k_iconst i_135_209 ?_
              refine k_istore i_135_210 (Nat.le_of_ble_eq_true rfl) ?_
              dsimp only [q_st1, q_st2, q_unl]
              have hz : ∀ k, mnj (fun _ => 0) 0 (pM T nt a (Pq m a i)) k = pM T nt a (Pq m a i) := by
                intro k
                induction k with
                | zero => rfl
                | succ k ihk => unfold mnj; rw [if_neg (by simp)]; exact ihk
              exact loop (fun _ => 0) (pM T nt a (Pq m a i)) (fun j hj hb => by simp at hb) (pM_range hw h01 hui ha) (hz _) (pc m 20) 0 (by omega)
      exact rows (pc m 20 + 1) 0 I' _ _ (by omega) hB hS hbt hrd (fun k hk => by omega)
theorem m_round (hB : MB I X T nt) (a s : Int) (ha : inJ a) (hs : inJ s) : KC shM (d + 5) 135 [.ref 0, .int (J a), .int (J s)] (I, X) (fun r S2 => r = some (.int (J (Fro T nt a s))) ∧ ∃ I', S2 = (I', X) ∧ ScM I I') := by
  obtain ⟨hT, hR, hOK, hn, h01⟩ := id hB
  obtain ⟨a0, a1, a2, a3, a4, a5, a6, a7, a8⟩ := id hT
  have hw := hOK.1
  have hN := tN_le hw
  have hm1 := tMask_lt T 1
  obtain ⟨Pw, hPw⟩ : ∃ Pw : Nat, Pw = 2 ^ (tN T).toNat := ⟨_, rfl⟩
  have hp20 : Pw ≤ 2 ^ 20 := by rw [hPw]; exact Nat.pow_le_pow_right (n := 2) (by decide) (by omega)
  have hp1 : 1 ≤ Pw := by rw [hPw]; exact Nat.two_pow_pos _
  have eN : (I, X).1 0 0 * (I, X).1 0 1 = tN T := by rw [a0, a1]; rfl
  have bad : ¬ (tOpen T a = true ∧ okP T s) → K shM (d + 5) 135 48 [some (.ref 0), some (.int (J a)), some (.int (J s)), none, none, none, none, none] [] (I, X) (fun r S2 => r = some (.int (J (Fro T nt a s))) ∧ ∃ I', S2 = (I', X) ∧ ScM I I') := by
    intro hbad
    refine k_iconst i_135_48 ?_
    refine k_iret i_135_49 qt_135 ?_
    refine ⟨?_, I, rfl, ScM.rf⟩
    unfold Fro
    rw [if_neg hbad]
  refine k_start ql_135 (Nat.le_of_ble_eq_true rfl) ?_
  simp only [q_en, List.replicate]
  refine k_aload_n i_135_0 rfl ?_
  refine k_iload_n i_135_1 rfl ?_
  refine k_vp1 i_135_2 c_12_182 qp_115 qo_115 (by first | rfl | assumption | (rw [hR]; rfl) | (dsimp only; rw [hR]; rfl)) (Nat.le_of_ble_eq_true rfl) (m_isOpen hT hw _ ha) ?_
  refine k_if_eqB (t := 48) i_135_5 rfl (fun h => ?_) (fun h => ?_)
  · exact bad (fun z => by rw [h] at z; cases z.1)
  · have ho := h
    refine k_iload_n i_135_8 rfl ?_
    refine k_i2lJ i_135_9 (by omega) ?_
    refine k_lconstJ (a := 0) i_135_10 rfl ?_
    refine k_iconst i_135_11 ?_
    refine k_aload_n i_135_12 rfl ?_
    refine k_gfI i_135_13 f_12_7 (by first | rfl | assumption | (rw [hR]; rfl) | (dsimp only; rw [hR]; rfl)) (by decide) (by decide) (Or.inl rfl) ?_
    refine k_aload_n i_135_16 rfl ?_
    refine k_gfI i_135_17 f_12_13 (by first | rfl | assumption | (rw [hR]; rfl) | (dsimp only; rw [hR]; rfl)) (by decide) (by decide) (Or.inl rfl) ?_
    refine k_imul i_135_20 ?_
    rw [eN]
    refine k_ishl i_135_21 (J_one (by omega) (by omega)) ?_
    rw [← hPw]
    refine k_iconst i_135_22 ?_
    refine k_isub i_135_23 ?_
    refine k_i2lJ i_135_24 (by omega) ?_
    refine k_sp3 i_135_25 c_12_72 (by decide) qp_100 (Nat.le_of_ble_eq_true rfl) (m_in _ _ _ (by omega) (by omega) (by omega)) ?_
    refine k_if_eqB (t := 48) i_135_28 rfl (fun h => ?_) (fun h => ?_)
    · exact bad (fun z => by
        have z1 := z.2.1
        have z2 := z.2.2.1
        rw [← hPw] at z2
        rw [decide_eq_true (by omega)] at h
        cases h)
    · have g := of_decide_eq_true h
      obtain ⟨m, rfl⟩ : ∃ m : Nat, s = m := ⟨s.toNat, by omega⟩
      have hm : m < 2 ^ (tN T).toNat := by rw [← hPw]; omega
      have hi := inT_of hm (by omega)
      have hok := okP_iff hw hm
      refine k_iload_n i_135_31 rfl ?_
      refine k_aload_n i_135_32 rfl ?_
      refine k_gfI i_135_33 f_12_80 (by first | rfl | assumption | (rw [hR]; rfl) | (dsimp only; rw [hR]; rfl)) (by decide) (by decide) (Or.inl rfl) ?_
      rw [show (I, X).1 0 2 = (tMask T 1 : Int) from a2]
      have hand : m &&& tMask T 1 < 2 ^ 20 := Nat.and_lt_two_pow m hm1
      refine k_iand i_135_36 (J_and _ _) ?_
      refine k_if_ne (t := 48) i_135_37 rfl (by omega) (fun g2 => ?_) (fun g2 => ?_)
      · exact bad (fun z => by have := (hok.mp z.2).1; omega)
      · refine k_iload_n i_135_40 rfl ?_
        refine k_sp1 i_135_41 c_12_223 (by decide) qp_136 (Nat.le_of_ble_eq_true rfl) (m_ones (by omega)) ?_
        have hon : onk m 20 ≤ 20 := by rw [onk_pc]; exact pc_le 20
        refine k_iconst i_135_44 ?_
        refine k_ic_le (t := 50) i_135_45 rfl (by omega) (by omega) (fun g3 => ?_) (fun g3 => ?_)
        · have hP : okP T (m : Int) := hok.mpr ⟨by omega, by omega⟩
          have h4 : pc m 20 ≤ 4 := hP.2.2.1
          have hop : ∀ k : Nat, k ≤ pc m 20 → tOpen T (Pq m a k) = true := by
            intro k hk
            by_cases e : k = pc m 20
            · rw [e, Pq_n]; exact ho
            · obtain ⟨c, c1, c2, c3⟩ := pl_ex 20 k (show k < pc m 20 by omega)
              rw [Pq_j (by omega), ← c3, pl_eq c2]
              exact hP.2.2.2 c (hi c c2) c2
          refine k_iconst i_135_50 ?_
          refine k_istore_n i_135_51 (Nat.le_of_ble_eq_true rfl) ?_
          dsimp only [q_st1, q_st2, q_unl]
          refine k_iconst i_135_52 ?_
          refine k_istore i_135_53 (Nat.le_of_ble_eq_true rfl) ?_
          dsimp only [q_st1, q_st2, q_unl]
          refine l_mro_a hw a m hi h4 (fun I1 hS1 hpl => ?_) (tN T).toNat 0 I (by omega) hB ScM.rf (fun c' hc' => by omega)
          have hB1 := hB.scr hS1
          refine k_aload_n i_135_95 rfl ?_
          refine k_gfR i_135_96 f_12_54 (by first | rfl | assumption | (rw [hR]; rfl) | (dsimp only; rw [hR]; rfl)) (by decide) (by decide) (Or.inr ⟨_, rfl⟩) (by first | rfl | assumption | (rw [hR]; rfl) | (dsimp only; rw [hR]; rfl)) ?_
          refine k_iload_n i_135_99 rfl ?_
          refine k_iload_n i_135_100 rfl ?_
          refine k_iast i_135_101 rfl (by decide) (by omega) (by omega) ?_
          dsimp only
          rw [show (((pc m 20 : Nat) : Int)).toNat = pc m 20 by omega]
          refine k_iconst i_135_102 ?_
          refine k_istore i_135_103 (Nat.le_of_ble_eq_true rfl) ?_
          dsimp only [q_st1, q_st2, q_unl]
          refine l_mro_b (I := I) a m h4 hop (fun I2 x5 hB2 hS2 _ hbt => ?_) (pc m 20 + 1) 0 _ _ (by omega) (hB1.scr (ScM.up (by omega))) (hS1.trans (ScM.up (by omega))) (fun k hk => ?_) (fun i' j h1 => by omega)
          · refine k_iconst i_135_166 ?_
            refine k_istore i_135_167 (Nat.le_of_ble_eq_true rfl) ?_
            dsimp only [q_st1, q_st2, q_unl]
            refine l_mro_c (I := I) hw h01 a m h4 hop (fun I3 y5 y6 y7 hB3 hS3 hrd => ?_) (2 ^ (pc m 20)) 0 I2 _ _ _ (by omega) hB2 hS2 hbt (fun l k h1 => by omega)
            have h16 : 2 ^ (pc m 20) ≤ 16 := Nat.pow_le_pow_right (n := 2) (by decide) h4
            have hpos := Nat.two_pow_pos (pc m 20)
            have hR3 := hB3.2.1
            have htr := trM_range hw h01 hop (2 ^ (pc m 20) - 1) ho
            refine k_aload_n i_135_299 rfl ?_
            refine k_gfR i_135_300 f_12_60 (by first | rfl | assumption | (rw [hR]; rfl) | (dsimp only; rw [hR]; rfl)) (by decide) (by decide) (Or.inr ⟨_, rfl⟩) (by first | rfl | assumption | (rw [hR]; rfl) | (dsimp only; rw [hR]; rfl)) ?_
            refine k_iconst i_135_303 ?_
            refine k_iconst i_135_304 ?_
            refine k_iload_n i_135_305 rfl ?_
            refine k_ishl i_135_306 (J_one (by omega) (by omega)) ?_
            rw [show (((pc m 20 : Nat) : Int)).toNat = pc m 20 by omega]
            refine k_iconst i_135_307 ?_
            refine k_isub i_135_308 ?_
            refine k_imul i_135_309 ?_
            refine k_iload_n i_135_310 rfl ?_
            refine k_iadd i_135_311 ?_
            refine k_iald i_135_312 rfl (by decide) (by omega) (by omega) ?_
            rw [show (I3, X).1 12 (5 * (((2 ^ (pc m 20) : Nat) : Int) - 1) + ((pc m 20 : Nat) : Int)).toNat = rdR T nt a m from by
              rw [show (5 * (((2 ^ (pc m 20) : Nat) : Int) - 1) + ((pc m 20 : Nat) : Int)).toNat = 5 * (2 ^ (pc m 20) - 1) + pc m 20 by omega]
              have := hrd (2 ^ (pc m 20) - 1) (pc m 20) (by omega) (by omega)
              rw [Pq_n] at this
              exact this]
            have hrr : 0 ≤ rdR T nt a m ∧ rdR T nt a m ≤ 100000000 := htr
            have eF : Fro T nt a m = if rdR T nt a m < 100000000 then rdR T nt a m else -9 := by
              unfold Fro
              rw [if_pos ⟨ho, hP⟩]
              rfl
            rw [eF]
            refine k_istore i_135_313 (Nat.le_of_ble_eq_true rfl) ?_
            dsimp only [q_st1, q_st2, q_unl]
            refine k_iload i_135_315 rfl ?_
            refine k_ldc (a := 100000000) i_135_317 n_12_202 (by decide) ?_
            refine k_ic_lt (t := 327) i_135_319 rfl (by omega) (by omega) (fun g5 => ?_) (fun g5 => ?_)
            · refine k_iload i_135_327 rfl ?_
              refine k_iret i_135_329 qt_135 ?_
              exact ⟨by rw [if_pos g5], I3, rfl, hS3⟩
            · refine k_bipush i_135_322 (by decide) ?_
              refine k_goto (t := 329) i_135_324 rfl ?_
              refine k_iret i_135_329 qt_135 ?_
              exact ⟨by rw [if_neg g5], I3, rfl, hS3⟩
          · by_cases e : k = pc m 20
            · subst e; rw [q_up_s, Pq_n]
            · obtain ⟨c, c1, c2, c3⟩ := pl_ex 20 k (show k < pc m 20 by omega)
              rw [q_up_n (by omega), Pq_j (by omega), ← c3, pl_eq c2]
              exact hpl c c2
        · exact bad (fun z => by have := (hok.mp z.2).2; omega)
end RO
