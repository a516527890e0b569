/-! THE CLASS: makesLess, aim -/
def RI (I : Nat → Nat → Int) (o n : Nat → Int) : Nat → Nat → Int := sr (sr I 35 o) 36 n
theorem RI_35 {I : Nat → Nat → Int} {o n : Nat → Int} : RI I o n 35 = o := by simp [RI, sr]
theorem RI_36 {I : Nat → Nat → Int} {o n : Nat → Int} : RI I o n 36 = n := by simp [RI, sr]
theorem RI_n {I : Nat → Nat → Int} {o n : Nat → Int} {c : Nat} (h1 : c ≠ 35) (h2 : c ≠ 36) : RI I o n c = I c := by simp [RI, sr, h1, h2]
theorem RI_u35 {I : Nat → Nat → Int} {o n : Nat → Int} {k : Nat} {v : Int} : q_up (RI I o n) 35 k v = RI I (ud o k v) n := by
  funext c j
  unfold q_up RI sr ud
  by_cases h1 : c = 36
  · subst h1; simp
  · by_cases h2 : c = 35
    · subst h2; by_cases h3 : j = k <;> simp [h3]
    · simp [h1, h2]
theorem RI_u36 {I : Nat → Nat → Int} {o n : Nat → Int} {k : Nat} {v : Int} : q_up (RI I o n) 36 k v = RI I o (ud n k v) := by
  funext c j
  unfold q_up RI sr ud
  by_cases h1 : c = 36
  · subst h1; by_cases h3 : j = k <;> simp [h3]
  · simp [h1]
theorem WX.RI {I : Nat → Nat → Int} {X : XX} {h s w : Nat} {T : Tn} {nt : Int} {o n : Nat → Int} (hw : WX I X h s w T nt) : WX (RI I o n) X h s w T nt := (hw.row (by omega)).row (by omega)
/-- rows in their bounds -/
def inF (o : Nat → Int) : Prop := ∀ j : Nat, j < 80 → 0 ≤ o j ∧ o j ≤ 1073741824
theorem ud_same {f : Nat → Int} {k : Nat} {v : Int} (h : f k = v) : ud f k v = f := by
  funext j
  unfold ud
  split
  · rename_i e; rw [e, h]
  · rfl
def mlO (T : Tn) (nt : Int) (o n : Nat → Int) (c : Int) : Nat → (Nat → Int)
  | 0 => o
  | k + 1 => ud (mlO T nt o n c k) (c * 4 + k).toNat (min (o (c * 4 + k).toNat) (sO T nt (pt n) k 4 c))
def mlL (T : Tn) (nt : Int) (o n : Nat → Int) (c : Int) : Nat → Bool
  | 0 => false
  | k + 1 => mlL T nt o n c k || decide (sO T nt (pt n) k 4 c < o (c * 4 + k).toNat)
def mlN (T : Tn) (o n : Nat → Int) (c : Int) : Nat → (Nat → Int)
  | 0 => n
  | k + 1 => ud (mlN T o n c k) (c * 4 + k).toNat (tu (pt o) c (if tElb T c = true then -1 else k))
theorem mlO_above {T : Tn} {nt : Int} {o n : Nat → Int} {c : Int} (hc : 0 ≤ c) : ∀ (k j : Nat), (∀ i : Nat, i < k → j ≠ (c * 4 + i).toNat) → mlO T nt o n c k j = o j
  | 0, j, _ => rfl
  | k + 1, j, h => by
    unfold mlO
    rw [ud_n (h k (by omega))]
    exact mlO_above hc k j (fun i hi => h i (by omega))
theorem mlO_at {T : Tn} {nt : Int} {o n : Nat → Int} {c : Int} (hc : 0 ≤ c) : ∀ (k i : Nat), i < k → mlO T nt o n c k (c * 4 + i).toNat = min (o (c * 4 + i).toNat) (sO T nt (pt n) i 4 c)
  | 0, i, h => by omega
  | k + 1, i, h => by
    unfold mlO
    by_cases e : i = k
    · subst e; rw [ud_s]
    · rw [ud_n (by omega)]
      exact mlO_at hc k i (by omega)
theorem sO_nn {T : Tn} (hw : tWF T) {nt : Int} {N : Int → Int → Int} {q : Int} (hN : ∀ c, 0 ≤ c → c < tN T → 0 ≤ N c q) : ∀ m c, m ≤ 4 → 0 ≤ sO T nt N q m c
  | 0, c, _ => by unfold sO; omega
  | m + 1, c, hm => by
    have h1 := tAh_range hw c q
    have h2 := tPrice4 hw (nt := nt) (r := 4 - (m : Int)) (by omega)
    unfold sO
    split
    · omega
    · rename_i hn
      have h3 := hN (tAh T c q) (by omega) (by omega)
      have h4 := sO_nn hw (nt := nt) hN m (tAh T c q) (by omega)
      unfold W1
      split <;> omega
theorem inF.pt {T : Tn} (hw : tWF T) {n : Nat → Int} (h : inF n) {q : Int} (hq : 0 ≤ q ∧ q < 4) : ∀ c, 0 ≤ c → c < tN T → 0 ≤ pt n c q := by
  intro c h0 h1
  have hN := tN_le hw
  exact (h (c * 4 + q).toNat (by omega)).1
theorem tuk_nn {o : Nat → Int} (h : inF o) {c but : Int} (hc : 0 ≤ c ∧ c < 20) : ∀ k : Nat, k ≤ 4 → 0 ≤ tuk (pt o) c but k
  | 0, _ => by unfold tuk; omega
  | k + 1, hk => by
    have h1 := tuk_nn h (but := but) hc k (by omega)
    have h2 := h (c * 4 + k).toNat (by omega)
    have h3 : pt o c k = o (c * 4 + k).toNat := rfl
    unfold tuk
    split <;> omega
theorem mlO_inF {T : Tn} (hw : tWF T) {nt : Int} {o n : Nat → Int} (ho : inF o) (hn : inF n) {c : Int} (hc : 0 ≤ c ∧ c < 20) (k : Nat) (hk : k ≤ 4) : inF (mlO T nt o n c k) := by
  intro j hj
  by_cases h : ∃ i : Nat, i < k ∧ j = (c * 4 + i).toNat
  · obtain ⟨i, hi, rfl⟩ := h
    rw [mlO_at hc.1 k i hi]
    have h1 := ho (c * 4 + i).toNat hj
    have h2 := sO_nn hw (nt := nt) (N := pt n) (q := i) (hn.pt hw (by omega)) 4 c (by omega)
    omega
  · rw [mlO_above hc.1 k j (fun i hi z => h ⟨i, hi, z⟩)]
    exact ho j hj
theorem mlN_inF {T : Tn} {o n : Nat → Int} (ho : inF o) (hn : inF n) {c : Int} (hc : 0 ≤ c ∧ c < 20) : ∀ k : Nat, inF (mlN T o n c k)
  | 0 => hn
  | k + 1 => by
    intro j hj
    unfold mlN ud
    split
    · exact ⟨tuk_nn ho hc 4 (by omega), tuk_le 4⟩
    · exact mlN_inF ho hn hc k j hj
section AM
variable {d : Nat} {T : Tn} {I : Nat → Nat → Int} {X : XX} {h0 s0 w : Nat} {nt b : Int} {Q : Option Value → QS → Prop}
-- method 50: StraightTax$Ways.makesLess.(I)Z
theorem l_ml1 (hW : WX I X h0 s0 w T nt) (o n : Nat → Int) (ho : inF o) (hn : inF n) (c : Int) (hc : 0 ≤ c ∧ c < 20)
    (hk : ∀ x4 : Option Value, K shX (d + 3) 50 74 [some (.ref 32), some (.int (J c)), some (.int (J (bi (mlL T nt o n c 4)))), some (.int (J 4)), x4] [] (RI I (mlO T nt o n c 4) n, X) Q) :
    ∀ (m k : Nat), k + m = 4 → ∀ x4 : Option Value, K shX (d + 3) 50 25 [some (.ref 32), some (.int (J c)), some (.int (J (bi (mlL T nt o n c k)))), some (.int (J (k : Int))), x4] [] (RI I (mlO T nt o n c k) n, X) Q := by
  have hw := hW.2.2.2.2.2.2.1.1
  have hR := hW.1
  intro m
  induction m with
  | zero =>
    intro k hk4 x4
    have e : k = 4 := by omega
    subst e
    refine k_iload_n i_50_25 rfl ?_
    refine k_iconst i_50_26 ?_
    refine k_ic_ge (t := 74) i_50_27 rfl (by omega) (by omega) (fun h => ?_) (fun h => ?_)
    · exact hk x4
    · omega
  | succ m ih =>
    intro k hk4 x4
    have hi := ih (k + 1) (by omega)
    have hsl := sO_le (T := T) (nt := nt) (N := pt n) (q := (k : Int)) 4 c
    have hsn := sO_nn hw (nt := nt) (N := pt n) (q := (k : Int)) (hn.pt hw (by omega)) 4 c (by omega)
    have hoj := ho (c * 4 + k).toNat (by omega)
    have hab : mlO T nt o n c k (c * 4 + k).toNat = o (c * 4 + k).toNat := mlO_above hc.1 k _ (fun i hik => by omega)
    refine k_iload_n i_50_25 rfl ?_
    refine k_iconst i_50_26 ?_
    refine k_ic_ge (t := 74) i_50_27 rfl (by omega) (by omega) (fun h => ?_) (fun h => ?_)
    · omega
    · refine k_aload_n i_50_30 rfl ?_
      refine k_iload_n i_50_31 rfl ?_
      refine k_iload_n i_50_32 rfl ?_
      refine k_iconst i_50_33 ?_
      have hso := e_straightOn (d := d) (hW.RI (o := mlO T nt o n c k) (n := n)) c k hc (by omega) 0 (by omega) (by rw [RI_36]; exact hn)
      rw [RI_36, show (4 - 0 : Nat) = 4 from rfl] at hso
      refine k_vp3 i_50_34 c_10_82 qp_51 qo_51 (by first | rfl | assumption | (rw [hR]; rfl) | (dsimp only; rw [hR]; rfl)) (Nat.le_of_ble_eq_true rfl) hso ?_
      refine k_istore i_50_37 (Nat.le_of_ble_eq_true rfl) ?_
      dsimp only [q_st1, q_st2, q_unl]
      refine k_iload i_50_39 rfl ?_
      refine k_aload_n i_50_41 rfl ?_
      refine k_gfR i_50_42 f_10_33 (by first | rfl | assumption | (rw [hR]; rfl) | (dsimp only; rw [hR]; rfl)) (by decide) (by decide) (Or.inr ⟨_, rfl⟩) (by first | rfl | assumption | (rw [hR]; rfl) | (dsimp only; rw [hR]; rfl)) ?_
      refine k_iload_n i_50_45 rfl ?_
      refine k_iconst i_50_46 ?_
      refine k_imul i_50_47 ?_
      refine k_iload_n i_50_48 rfl ?_
      refine k_iadd i_50_49 ?_
      refine k_iald i_50_50 rfl (by decide) (by omega) (by omega) ?_
      rw [show (RI I (mlO T nt o n c k) n, X).1 35 (c * 4 + k).toNat = o (c * 4 + k).toNat from by
        show RI I (mlO T nt o n c k) n 35 _ = _
        rw [RI_35, hab]]
      refine k_ic_ge (t := 68) i_50_51 rfl (by omega) (by omega) (fun g => ?_) (fun g => ?_)
      · refine k_iinc i_50_68 rfl (Nat.le_of_ble_eq_true rfl) ?_
        dsimp only [q_st1, q_st2, q_unl]
        refine k_goto (t := 25) i_50_71 rfl ?_
        have h2 := hi (some (.int (J (sO T nt (pt n) k 4 c))))
        rw [show mlL T nt o n c (k + 1) = mlL T nt o n c k from by
          show (_ || decide _) = _
          rw [decide_eq_false (by omega), Bool.or_false]] at h2
        rw [show mlO T nt o n c (k + 1) = mlO T nt o n c k from by
          show ud _ _ _ = _
          exact ud_same (by rw [hab]; omega)] at h2
        exact h2
      · refine k_aload_n i_50_54 rfl ?_
        refine k_gfR i_50_55 f_10_33 (by first | rfl | assumption | (rw [hR]; rfl) | (dsimp only; rw [hR]; rfl)) (by decide) (by decide) (Or.inr ⟨_, rfl⟩) (by first | rfl | assumption | (rw [hR]; rfl) | (dsimp only; rw [hR]; rfl)) ?_
        refine k_iload_n i_50_58 rfl ?_
        refine k_iconst i_50_59 ?_
        refine k_imul i_50_60 ?_
        refine k_iload_n i_50_61 rfl ?_
        refine k_iadd i_50_62 ?_
        refine k_iload i_50_63 rfl ?_
        refine k_iast i_50_65 rfl (by decide) (by omega) (by omega) ?_
        dsimp only
        rw [RI_u35]
        refine k_iconst i_50_66 ?_
        refine k_istore_n i_50_67 (Nat.le_of_ble_eq_true rfl) ?_
        dsimp only [q_st1, q_st2, q_unl]
        refine k_iinc i_50_68 rfl (Nat.le_of_ble_eq_true rfl) ?_
        dsimp only [q_st1, q_st2, q_unl]
        refine k_goto (t := 25) i_50_71 rfl ?_
        have h2 := hi (some (.int (J (sO T nt (pt n) k 4 c))))
        rw [show mlL T nt o n c (k + 1) = true from by
          show (_ || decide _) = _
          rw [decide_eq_true (by omega), Bool.or_true]] at h2
        rw [show mlO T nt o n c (k + 1) = ud (mlO T nt o n c k) (c * 4 + k).toNat (sO T nt (pt n) k 4 c) from by
          show ud _ _ _ = _
          rw [Int.min_eq_right (by omega)]] at h2
        exact h2
theorem l_ml2 (hW : WX I X h0 s0 w T nt) (o n : Nat → Int) (ho : inF o) (c : Int) (hc : 0 ≤ c ∧ c < 20) (x4 : Option Value)
    (hk : Q (some (.int (J (bi true)))) (RI I o (mlN T o n c 4), X)) :
    ∀ (m k : Nat), k + m = 4 → K shX (d + 3) 50 76 [some (.ref 32), some (.int (J c)), some (.int (J (bi true))), some (.int (J (k : Int))), x4] [] (RI I o (mlN T o n c k), X) Q := by
  have hw := hW.2.2.2.2.2.2.1.1
  have hR := hW.1
  intro m
  induction m with
  | zero =>
    intro k hk4
    have e : k = 4 := by omega
    subst e
    refine k_iload_n i_50_76 rfl ?_
    refine k_if_eqB (t := 122) i_50_77 rfl (fun h => ?_) (fun h => ?_)
    · cases h
    · refine k_iload_n i_50_80 rfl ?_
      refine k_iconst i_50_81 ?_
      refine k_ic_ge (t := 122) i_50_82 rfl (by omega) (by omega) (fun h => ?_) (fun h => ?_)
      · refine k_iload_n i_50_122 rfl ?_
        refine k_nret i_50_123 qt_50 (by first | exact bi_nar _ | rfl) ?_
        exact hk
      · omega
  | succ m ih =>
    intro k hk4
    have hi := ih (k + 1) (by omega)
    have hWn := hW.RI (o := o) (n := mlN T o n c k)
    obtain ⟨-, hw4, hT, hX, hnt, h01, hOK, hwt⟩ := id hWn
    obtain ⟨s1, s2, s3, r1, r2, a0, a1, a2, a3, a4, a5, a6, ag⟩ := id hT
    have fin : ∀ l : Int, l = (if tElb T c = true then -1 else (k : Int)) → K shX (d + 3) 50 112 [some (.ref 32), some (.int (J c)), some (.int (J (bi true))), some (.int (J (k : Int))), x4] [.int (J l), .int (J c), .ref 32, .int (J (c * 4 + k)), .ref 36] (RI I o (mlN T o n c k), X) Q := by
      intro l hl
      have htu := e_turning (d := d + 1) (I := RI I o (mlN T o n c k)) (X := X) hR c l hc (by rw [hl]; split <;> omega) (by rw [RI_35]; intro j hj; have := ho j hj; omega)
      rw [RI_35] at htu
      refine k_vp2 i_50_112 c_10_89 qp_52 qo_52 (by first | rfl | assumption | (rw [hR]; rfl) | (dsimp only; rw [hR]; rfl)) (Nat.le_of_ble_eq_true rfl) htu ?_
      refine k_iast i_50_115 rfl (by decide) (by omega) (by omega) ?_
      dsimp only
      rw [RI_u36]
      refine k_iinc i_50_116 rfl (Nat.le_of_ble_eq_true rfl) ?_
      dsimp only [q_st1, q_st2, q_unl]
      refine k_goto (t := 76) i_50_119 rfl ?_
      rw [show mlN T o n c (k + 1) = ud (mlN T o n c k) (c * 4 + k).toNat (tu (pt o) c l) from by rw [hl]; rfl] at hi
      exact hi
    refine k_iload_n i_50_76 rfl ?_
    refine k_if_eqB (t := 122) i_50_77 rfl (fun h => ?_) (fun h => ?_)
    · cases h
    · refine k_iload_n i_50_80 rfl ?_
      refine k_iconst i_50_81 ?_
      refine k_ic_ge (t := 122) i_50_82 rfl (by omega) (by omega) (fun g => ?_) (fun g => ?_)
      · omega
      · refine k_aload_n i_50_85 rfl ?_
        refine k_gfR i_50_86 f_10_36 (by first | rfl | assumption | (rw [hR]; rfl) | (dsimp only; rw [hR]; rfl)) (by decide) (by decide) (Or.inr ⟨_, rfl⟩) (by first | rfl | assumption | (rw [hR]; rfl) | (dsimp only; rw [hR]; rfl)) ?_
        refine k_iload_n i_50_89 rfl ?_
        refine k_iconst i_50_90 ?_
        refine k_imul i_50_91 ?_
        refine k_iload_n i_50_92 rfl ?_
        refine k_iadd i_50_93 ?_
        refine k_aload_n i_50_94 rfl ?_
        refine k_iload_n i_50_95 rfl ?_
        refine k_aload_n i_50_96 rfl ?_
        refine k_gfR i_50_97 f_10_12 (by first | rfl | assumption | (rw [hR]; rfl) | (dsimp only; rw [hR]; rfl)) (by decide) (by decide) (Or.inl ⟨_, rfl⟩) (by first | rfl | assumption | (rw [hR]; rfl) | (dsimp only; rw [hR]; rfl)) ?_
        refine k_iload_n i_50_100 rfl ?_
        refine k_vp1 i_50_101 c_10_86 qp_34 qo_34 (by first | rfl | assumption | (rw [hR]; rfl) | (dsimp only; rw [hR]; rfl)) (Nat.le_of_ble_eq_true rfl) (e_isElbow hT hw _ (by omega)) ?_
        refine k_if_eqB (t := 111) i_50_104 rfl (fun h => ?_) (fun h => ?_)
        · refine k_iload_n i_50_111 rfl ?_
          exact fin _ (by rw [h]; rfl)
        · refine k_iconst i_50_107 ?_
          refine k_goto (t := 112) i_50_108 rfl ?_
          exact fin _ (by rw [h]; rfl)
/-- one square's turn -/
def mlZ (T : Tn) (nt b : Int) (o n : Nat → Int) (c : Int) : Bool × (Nat → Int) × (Nat → Int) := if c = b ∨ tOpen T c = false then (false, o, n) else (mlL T nt o n c 4, mlO T nt o n c 4, if mlL T nt o n c 4 = true then mlN T (mlO T nt o n c 4) n c 4 else n)
theorem e_makesLess (hW : WX I X h0 s0 w T nt) (hb : I 32 2 = b) (hbr : inJ b) (o n : Nat → Int) (ho : inF o) (hn : inF n) (c : Int) (hc : 0 ≤ c ∧ c < 20) : KC shX (d + 3) 50 [.ref 32, .int (J c)] (RI I o n, X) (fun r S2 => r = some (.int (J (bi (mlZ T nt b o n c).1))) ∧ S2 = (RI I (mlZ T nt b o n c).2.1 (mlZ T nt b o n c).2.2, X)) := by
  have hw := hW.2.2.2.2.2.2.1.1
  have hR := hW.1
  have hWn := hW.RI (o := o) (n := n)
  obtain ⟨-, hw4, hT, hX, hnt, h01, hOK, hwt⟩ := id hWn
  obtain ⟨s1, s2, s3, r1, r2, a0, a1, a2, a3, a4, a5, a6, ag⟩ := id hT
  refine k_start ql_50 (Nat.le_of_ble_eq_true rfl) ?_
  simp only [q_en, List.replicate]
  refine k_iload_n i_50_0 rfl ?_
  refine k_aload_n i_50_1 rfl ?_
  refine k_gfI i_50_2 f_10_22 (by first | rfl | assumption | (rw [hR]; rfl) | (dsimp only; rw [hR]; rfl)) (by decide) (by decide) (Or.inl rfl) ?_
  rw [show (RI I o n, X).1 32 2 = b from by show RI I o n 32 2 = b; rw [RI_n (by decide) (by decide)]; exact hb]
  refine k_ic_eq (t := 19) i_50_5 rfl (by omega) (by omega) (fun hcb => ?_) (fun hcb => ?_)
  · refine k_iconst i_50_19 ?_
    refine k_nret i_50_20 qt_50 (by first | exact bi_nar _ | rfl) ?_
    unfold mlZ
    rw [if_pos (Or.inl hcb)]
    exact ⟨rfl, rfl⟩
  · refine k_aload_n i_50_8 rfl ?_
    refine k_gfR i_50_9 f_10_12 (by first | rfl | assumption | (rw [hR]; rfl) | (dsimp only; rw [hR]; rfl)) (by decide) (by decide) (Or.inl ⟨_, rfl⟩) (by first | rfl | assumption | (rw [hR]; rfl) | (dsimp only; rw [hR]; rfl)) ?_
    refine k_iload_n i_50_12 rfl ?_
    refine k_vp1 i_50_13 c_10_79 qp_26 qo_26 (by first | rfl | assumption | (rw [hR]; rfl) | (dsimp only; rw [hR]; rfl)) (Nat.le_of_ble_eq_true rfl) (e_isOpen hT hw _ (by omega)) ?_
    refine k_if_neB (t := 21) i_50_16 rfl (fun h => ?_) (fun h => ?_)
    · have hz : ¬ (c = b ∨ tOpen T c = false) := fun z => by rcases z with z | z; exact hcb z; rw [h] at z; cases z
      refine k_iconst i_50_21 ?_
      refine k_istore_n i_50_22 (Nat.le_of_ble_eq_true rfl) ?_
      dsimp only [q_st1, q_st2, q_unl]
      refine k_iconst i_50_23 ?_
      refine k_istore_n i_50_24 (Nat.le_of_ble_eq_true rfl) ?_
      dsimp only [q_st1, q_st2, q_unl]
      have ho' := mlO_inF hw (nt := nt) ho hn hc 4 (by omega)
      refine l_ml1 hW o n ho hn c hc (fun x4 => ?_) 4 0 (by omega) none
      refine k_iconst i_50_74 ?_
      refine k_istore_n i_50_75 (Nat.le_of_ble_eq_true rfl) ?_
      dsimp only [q_st1, q_st2, q_unl]
      unfold mlZ
      rw [if_neg hz]
      dsimp only
      cases hl : mlL T nt o n c 4 with
      | true =>
        rw [if_pos rfl]
        exact l_ml2 hW (mlO T nt o n c 4) n ho' c hc x4 ⟨rfl, rfl⟩ 4 0 (by omega)
      | false =>
        rw [if_neg (by decide)]
        refine k_iload_n i_50_76 rfl ?_
        refine k_if_eqB (t := 122) i_50_77 rfl (fun h => ?_) (fun h => ?_)
        · refine k_iload_n i_50_122 rfl ?_
          refine k_nret i_50_123 qt_50 (by first | exact bi_nar _ | rfl) ?_
          exact ⟨rfl, rfl⟩
        · cases h
    · refine k_iconst i_50_19 ?_
      refine k_nret i_50_20 qt_50 (by first | exact bi_nar _ | rfl) ?_
      unfold mlZ
      rw [if_pos (Or.inr h)]
      exact ⟨rfl, rfl⟩
end AM
