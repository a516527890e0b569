/-! THE TOWN, 3: loops -/
/-- a row filled with one value, as far as n -/
def q_fill (f : Nat → Nat → Int) (c n : Nat) (v : Int) : Nat → Nat → Int := fun c' k => if c' = c ∧ k < n then v else f c' k
theorem q_fill_0 (f : Nat → Nat → Int) (c : Nat) (v : Int) : q_fill f c 0 v = f := by
  funext c' k
  simp [q_fill]
theorem q_fill_S (f : Nat → Nat → Int) (c n : Nat) (v : Int) : q_up (q_fill f c n v) c n v = q_fill f c (n + 1) v := by
  funext c' k
  unfold q_up q_fill
  by_cases h1 : c' = c
  · by_cases h2 : k = n
    · subst h1; subst h2; simp
    · have : (k < n + 1) = (k < n) := by simp; omega
      simp [h1, h2, this]
  · simp [h1]
section TW3
variable {sh : QH} {S : QS} {t d : Nat} {T : Tn}
-- method 158: java/util/Arrays.fill.([II)V
theorem l_fill {a n : Nat} (hs : sh[a]? = some (100, n)) (hn : n < 100000) (v : Int) (Q : Option Value → QS → Prop) (f : Nat → Nat → Int) (X : (Nat → Nat → Int64) × (Nat → Nat → Option Nat)) (hq : Q none (q_fill f a n v, X)) : ∀ (m : Nat) (i : Int), 0 ≤ i → i ≤ n → (n - i).toNat ≤ m → K sh d 158 5 [some (.ref a), some (.int (J v)), some (.int (J i)), some (.int (J (n : Int)))] [] (q_fill f a i.toNat v, X) Q := by
  intro m
  induction m with
  | zero =>
    intro i h0 h1 h2
    have e : i = n := by omega
    subst e
    refine k_iload_n i_158_5 rfl ?_
    refine k_iload_n i_158_6 rfl ?_
    refine k_ic_ge (t := 20) i_158_7 rfl (by omega) (by omega) (fun h => ?_) (fun h => ?_)
    · refine k_vret i_158_20 qt_158 ?_
      rw [show ((n : Int)).toNat = n by omega]
      exact hq
    · omega
  | succ m ih =>
    intro i h0 h1 h2
    refine k_iload_n i_158_5 rfl ?_
    refine k_iload_n i_158_6 rfl ?_
    refine k_ic_ge (t := 20) i_158_7 rfl (by omega) (by omega) (fun h => ?_) (fun h => ?_)
    · refine k_vret i_158_20 qt_158 ?_
      have e : i = n := by omega
      rw [e, show ((n : Int)).toNat = n by omega]
      exact hq
    · refine k_aload_n i_158_10 rfl ?_
      refine k_iload_n i_158_11 rfl ?_
      refine k_iload_n i_158_12 rfl ?_
      refine k_iast i_158_13 hs (by omega) h0 (by omega) ?_
      refine k_iinc i_158_14 rfl (Nat.le_of_ble_eq_true rfl) ?_
      dsimp only [q_st1, q_st2, q_unl]
      refine k_goto (t := 5) i_158_17 rfl ?_
      rw [q_fill_S, show i.toNat + 1 = (i + 1).toNat by omega]
      exact ih (i + 1) (by omega) (by omega) (by omega)
theorem e_fill {a n : Nat} (hs : sh[a]? = some (100, n)) (hn : n < 100000) (v : Int) : KC sh d 158 [.ref a, .int (J v)] S (fun r S2 => r = none ∧ S2 = (q_fill S.1 a n v, S.2)) := by
  refine k_start ql_158 (Nat.le_of_ble_eq_true rfl) ?_
  simp only [q_en, List.replicate]
  refine k_iconst i_158_0 ?_
  refine k_istore_n i_158_1 (Nat.le_of_ble_eq_true rfl) ?_
  dsimp only [q_st1, q_st2, q_unl]
  refine k_aload_n i_158_2 rfl ?_
  refine k_alen i_158_3 (by first | rfl | assumption | (rw [hR]; rfl) | (dsimp only; rw [hR]; rfl)) ?_
  refine k_istore_n i_158_4 (Nat.le_of_ble_eq_true rfl) ?_
  dsimp only [q_st1, q_st2, q_unl]
  have h := l_fill (d := d) hs hn v (fun r S2 => r = none ∧ S2 = (q_fill S.1 a n v, S.2)) S.1 S.2 ⟨rfl, rfl⟩ n 0 (by omega) (by omega) (by omega)
  rw [show (0 : Int).toNat = 0 from rfl, q_fill_0] at h
  exact h
-- method 86: StraightTax.isIn.(II)Z
theorem e_isIn {m : Nat} (hm : m < 2 ^ 31) (c : Int) (h0 : 0 ≤ c) (h1 : c < 32) : KP sh d 86 [.int (J (m : Int)), .int (J c)] S (.int (J (bi (m.testBit c.toNat)))) := by
  obtain ⟨k, rfl⟩ : ∃ k : Nat, c = k := ⟨c.toNat, by omega⟩
  refine k_start ql_86 (Nat.le_of_ble_eq_true rfl) ?_
  simp only [q_en, List.replicate]
  refine k_iload_n i_86_0 rfl ?_
  refine k_iload_n i_86_1 rfl ?_
  refine k_ishr i_86_2 (J_shr hm (by omega)) ?_
  refine k_iconst i_86_3 ?_
  have hk : k < 32 := by omega
  refine k_iand (c := bi (m.testBit k)) i_86_4 (by rw [← J_shr hm hk]; exact J_bit hm hk) ?_
  refine k_if_eqB (t := 12) i_86_5 rfl (fun h => ?_) (fun h => ?_)
  · refine k_iconst i_86_12 ?_
    refine k_nret i_86_13 qt_86 (by first | exact bi_nar _ | rfl) ?_
    exact ⟨by rw [show (((k : Int)).toNat) = k by omega, h]; rfl, rfl⟩
  · refine k_iconst i_86_8 ?_
    refine k_goto (t := 13) i_86_9 rfl ?_
    refine k_nret i_86_13 qt_86 (by first | exact bi_nar _ | rfl) ?_
    exact ⟨by rw [show (((k : Int)).toNat) = k by omega, h]; rfl, rfl⟩
/-- how many squares below k have a thing -/
def tCnt (T : Tn) (x : Int) : Nat → Int
  | 0 => 0
  | k + 1 => tCnt T x k + (if tOn T k = x then 1 else 0)
theorem tCnt_range (T : Tn) (x : Int) : ∀ k, 0 ≤ tCnt T x k ∧ tCnt T x k ≤ k
  | 0 => by simp [tCnt]
  | k + 1 => by
    have := tCnt_range T x k
    unfold tCnt
    split <;> omega
-- method 39: StraightTax$Town.countOf.(I)I
theorem l_countOf (hT : TAt sh S t T) (hw : tWF T) (x : Int) (hx : inJ x) (Q : Option Value → QS → Prop) (hq : Q (some (.int (J (tCnt T x (tN T).toNat)))) S) : ∀ (m : Nat) (i : Int), 0 ≤ i → i ≤ tN T → (tN T - i).toNat ≤ m → K sh (d + 2) 39 4 [some (.ref t), some (.int (J x)), some (.int (J (tCnt T x i.toNat))), some (.int (J i))] [] S Q := by
  obtain ⟨s1, s2, s3, r1, r2, a0, a1, a2, a3, a4, a5, a6, ag⟩ := id hT
  have hN := tN_le hw
  intro m
  induction m with
  | zero =>
    intro i h0 h1 h2
    have e : i = tN T := by omega
    subst e
    refine k_iload_n i_39_4 rfl ?_
    refine k_aload_n i_39_5 rfl ?_
    refine k_vp0 i_39_6 c_7_67 qp_28 qo_28 (by first | rfl | assumption | (rw [hR]; rfl) | (dsimp only; rw [hR]; rfl)) (Nat.le_of_ble_eq_true rfl) (e_squares hT) ?_
    refine k_ic_ge (t := 30) i_39_9 rfl (by omega) (by omega) (fun h => ?_) (fun h => ?_)
    · refine k_iload_n i_39_30 rfl ?_
      refine k_iret i_39_31 qt_39 ?_
      exact hq
    · omega
  | succ m ih =>
    intro i h0 h1 h2
    have hon := tOn_le hw i
    have hcr := tCnt_range T x i.toNat
    refine k_iload_n i_39_4 rfl ?_
    refine k_aload_n i_39_5 rfl ?_
    refine k_vp0 i_39_6 c_7_67 qp_28 qo_28 (by first | rfl | assumption | (rw [hR]; rfl) | (dsimp only; rw [hR]; rfl)) (Nat.le_of_ble_eq_true rfl) (e_squares hT) ?_
    refine k_ic_ge (t := 30) i_39_9 rfl (by omega) (by omega) (fun h => ?_) (fun h => ?_)
    · refine k_iload_n i_39_30 rfl ?_
      refine k_iret i_39_31 qt_39 ?_
      rw [show i = tN T by omega]
      exact hq
    · refine k_aload_n i_39_12 rfl ?_
      refine k_iload_n i_39_13 rfl ?_
      refine k_vp1 i_39_14 c_7_77 qp_29 qo_29 (by first | rfl | assumption | (rw [hR]; rfl) | (dsimp only; rw [hR]; rfl)) (Nat.le_of_ble_eq_true rfl) (e_thingOn hT _ (by omega)) ?_
      refine k_iload_n i_39_17 rfl ?_
      have eS : tCnt T x (i + 1).toNat = tCnt T x i.toNat + (if tOn T i = x then 1 else 0) := by
        rw [show (i + 1).toNat = i.toNat + 1 by omega]
        show tCnt T x i.toNat + (if tOn T (i.toNat : Int) = x then 1 else 0) = _
        rw [show ((i.toNat : Nat) : Int) = i by omega]
      have hi := ih (i + 1) (by omega) (by omega) (by omega)
      refine k_ic_ne (t := 24) i_39_18 rfl (by omega) (by omega) (fun g => ?_) (fun g => ?_)
      · refine k_iinc i_39_24 rfl (Nat.le_of_ble_eq_true rfl) ?_
        dsimp only [q_st1, q_st2, q_unl]
        refine k_goto (t := 4) i_39_27 rfl ?_
        rw [eS, if_neg g, Int.add_zero] at hi
        exact hi
      · refine k_iinc i_39_21 rfl (Nat.le_of_ble_eq_true rfl) ?_
        dsimp only [q_st1, q_st2, q_unl]
        refine k_iinc i_39_24 rfl (Nat.le_of_ble_eq_true rfl) ?_
        dsimp only [q_st1, q_st2, q_unl]
        refine k_goto (t := 4) i_39_27 rfl ?_
        rw [eS, if_pos (by omega)] at hi
        exact hi
theorem e_countOf (hT : TAt sh S t T) (hw : tWF T) (x : Int) (hx : inJ x) : KP sh (d + 2) 39 [.ref t, .int (J x)] S (.int (J (tCnt T x (tN T).toNat))) := by
  have hN := tN_le hw
  refine k_start ql_39 (Nat.le_of_ble_eq_true rfl) ?_
  simp only [q_en, List.replicate]
  refine k_iconst i_39_0 ?_
  refine k_istore_n i_39_1 (Nat.le_of_ble_eq_true rfl) ?_
  dsimp only [q_st1, q_st2, q_unl]
  refine k_iconst i_39_2 ?_
  refine k_istore_n i_39_3 (Nat.le_of_ble_eq_true rfl) ?_
  dsimp only [q_st1, q_st2, q_unl]
  exact l_countOf hT hw x hx (fun r S2 => r = some (.int (J (tCnt T x (tN T).toNat))) ∧ S2 = S) ⟨rfl, rfl⟩ (tN T).toNat 0 (by omega) (by omega) (by omega)
-- method 31: StraightTax$Town.put.(II)V
theorem e_put (hT : TAt sh S t T) (c x : Int) (hc : 0 ≤ c ∧ c < 20) : KC sh (d + 1) 31 [.ref t, .int (J c), .int (J x)] S (fun r S2 => r = none ∧ S2 = (q_up S.1 (t + 1) c.toNat x, S.2)) := by
  obtain ⟨s1, s2, s3, r1, r2, a0, a1, a2, a3, a4, a5, a6, ag⟩ := id hT
  refine k_start ql_31 (Nat.le_of_ble_eq_true rfl) ?_
  simp only [q_en, List.replicate]
  refine k_iload_n i_31_0 rfl ?_
  refine k_sp1 i_31_1 c_7_71 (by decide) qp_30 (Nat.le_of_ble_eq_true rfl) (e_isHeld _ (by omega)) ?_
  refine k_if_eqB (t := 14) i_31_4 rfl (fun h => ?_) (fun h => ?_)
  · exact absurd h (by simp [tHeld]; omega)
  · refine k_aload_n i_31_7 rfl ?_
    refine k_gfR i_31_8 f_7_9 (by first | rfl | assumption | (rw [hR]; rfl) | (dsimp only; rw [hR]; rfl)) (by decide) (by decide) (Or.inr ⟨_, rfl⟩) (by first | rfl | assumption | (rw [hR]; rfl) | (dsimp only; rw [hR]; rfl)) ?_
    refine k_iload_n i_31_11 rfl ?_
    refine k_iload_n i_31_12 rfl ?_
    refine k_iast i_31_13 (by first | rfl | assumption | (rw [hR]; rfl) | (dsimp only; rw [hR]; rfl)) (by decide) (by omega) (by omega) ?_
    refine k_vret i_31_14 qt_31 ?_
    exact ⟨rfl, rfl⟩
end TW3
