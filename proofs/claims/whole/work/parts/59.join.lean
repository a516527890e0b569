/-! THE TOWN, 4: begin, join -/
def T00 : Tn := (4, 3, 1, 1, 2, 0, 0, fun _ => 0)
theorem T00_ok : tOK T00 := ⟨⟨by decide, by decide, by decide, by decide, by decide, by decide, by decide, fun c => by show (0 : Int) ≤ 0 ∧ (0 : Int) ≤ 2; decide⟩, fun c _ => rfl⟩
def bgn (I : Nat → Nat → Int) (t : Nat) : Nat → Nat → Int := q_fill (q_up (q_up (q_up (q_up (q_up (q_up (q_up I t 0 4) t 1 3) t 2 1) t 3 1) t 4 2) t 5 0) t 6 0) (t + 1) 20 0
def jn (T : Tn) (I : Nat → Nat → Int) (t k : Nat) : Nat → Nat → Int := fun c i => if c = t + 2 ∧ i < 80 then (if i < k then nx T ((i / 4 : Nat) : Int) ((i % 4 : Nat) : Int) else -1) else I c i
theorem jn_o {T : Tn} {I : Nat → Nat → Int} {t k c : Nat} (h : c ≠ t + 2) : jn T I t k c = I c := by
  funext i
  exact if_neg (fun y => h y.1)
theorem jn_step {T : Tn} {I : Nat → Nat → Int} {t c e : Nat} {v : Int} (he : e < 4) (hc : c < 20) (hv : v = nx T (c : Int) (e : Int)) : q_up (jn T I t (c * 4 + e)) (t + 2) (c * 4 + e) v = jn T I t (c * 4 + e + 1) := by
  funext c' i
  unfold q_up
  by_cases z : c' = t + 2 ∧ i = c * 4 + e
  · rw [if_pos z]
    unfold jn
    rw [if_pos (by omega), if_pos (by omega), show i / 4 = c by omega, show i % 4 = e by omega]
    exact hv
  · rw [if_neg z]
    unfold jn
    by_cases y : c' = t + 2 ∧ i < 80
    · rw [if_pos y, if_pos y]
      by_cases x : i < c * 4 + e
      · rw [if_pos x, if_pos (by omega)]
      · rw [if_neg x, if_neg (by omega)]
    · rw [if_neg y, if_neg y]
theorem jn_skip {T : Tn} {I : Nat → Nat → Int} {t c e : Nat} (he : e < 4) (hc : c < 20) (hv : nx T (c : Int) (e : Int) = -1) : jn T I t (c * 4 + e) = jn T I t (c * 4 + e + 1) := by
  rw [← jn_step he hc hv.symm]
  funext c' i
  unfold q_up
  by_cases z : c' = t + 2 ∧ i = c * 4 + e
  · rw [if_pos z]
    unfold jn
    rw [if_pos (by omega), if_neg (by omega)]
  · rw [if_neg z]
theorem dxx_r (e : Int) : -1 ≤ dxx e ∧ dxx e ≤ 1 := by
  unfold dxx
  split
  · omega
  · split <;> omega
theorem dyy_r (e : Int) : -1 ≤ dyy e ∧ dyy e ≤ 1 := by
  unfold dyy
  split
  · omega
  · split <;> omega
section TJ
variable {sh : QH} {t d : Nat} {T : Tn} {I : Nat → Nat → Int} {X : XX}
-- method 23: StraightTax$Town.begin.()V
theorem e_begin (s1 : sh[t]? = some (7, 9)) (s2 : sh[t + 1]? = some (100, 20)) (r1 : X.2 t 7 = some (t + 1)) : KC sh (d + 1) 23 [.ref t] (I, X) (fun r S2 => r = none ∧ S2 = (bgn I t, X)) := by
  refine k_start ql_23 (Nat.le_of_ble_eq_true rfl) ?_
  simp only [q_en, List.replicate]
  refine k_aload_n i_23_0 rfl ?_
  refine k_iconst i_23_1 ?_
  refine k_pfI i_23_2 f_7_24 (by first | rfl | assumption | (rw [hR]; rfl) | (dsimp only; rw [hR]; rfl)) (by decide) rfl ?_
  refine k_aload_n i_23_5 rfl ?_
  refine k_iconst i_23_6 ?_
  refine k_pfI i_23_7 f_7_28 (by first | rfl | assumption | (rw [hR]; rfl) | (dsimp only; rw [hR]; rfl)) (by decide) rfl ?_
  refine k_aload_n i_23_10 rfl ?_
  refine k_iconst i_23_11 ?_
  refine k_pfI i_23_12 f_7_31 (by first | rfl | assumption | (rw [hR]; rfl) | (dsimp only; rw [hR]; rfl)) (by decide) rfl ?_
  refine k_aload_n i_23_15 rfl ?_
  refine k_iconst i_23_16 ?_
  refine k_pfI i_23_17 f_7_34 (by first | rfl | assumption | (rw [hR]; rfl) | (dsimp only; rw [hR]; rfl)) (by decide) rfl ?_
  refine k_aload_n i_23_20 rfl ?_
  refine k_iconst i_23_21 ?_
  refine k_pfI i_23_22 f_7_37 (by first | rfl | assumption | (rw [hR]; rfl) | (dsimp only; rw [hR]; rfl)) (by decide) rfl ?_
  refine k_aload_n i_23_25 rfl ?_
  refine k_iconst i_23_26 ?_
  refine k_pfZ i_23_27 f_7_40 (by first | rfl | assumption | (rw [hR]; rfl) | (dsimp only; rw [hR]; rfl)) (by decide) rfl (by first | exact bi_01 _ | omega) ?_
  refine k_aload_n i_23_30 rfl ?_
  refine k_iconst i_23_31 ?_
  refine k_pfI i_23_32 f_7_44 (by first | rfl | assumption | (rw [hR]; rfl) | (dsimp only; rw [hR]; rfl)) (by decide) rfl ?_
  refine k_aload_n i_23_35 rfl ?_
  refine k_gfR i_23_36 f_7_9 (by first | rfl | assumption | (rw [hR]; rfl) | (dsimp only; rw [hR]; rfl)) (by decide) (by decide) (Or.inr ⟨_, rfl⟩) (by first | rfl | assumption | (rw [hR]; rfl) | (dsimp only; rw [hR]; rfl)) ?_
  refine k_iconst i_23_39 ?_
  refine k_cs2 i_23_40 c_7_47 (by decide) qp_158 (Nat.le_of_ble_eq_true rfl) (e_fill s2 (by decide) 0) (fun v S2 h => ?_)
  obtain ⟨rfl, rfl⟩ := h
  show K sh (d + 1) 23 43 _ [] _ _
  refine k_vret i_23_43 qt_23 ?_
  exact ⟨rfl, rfl⟩
theorem bgn_o {c : Nat} (h1 : c ≠ t) (h2 : c ≠ t + 1) : bgn I t c = I c := by
  funext i
  unfold bgn q_fill
  rw [if_neg (fun y => h2 y.1)]
  rw [q_up_o h1, q_up_o h1, q_up_o h1, q_up_o h1, q_up_o h1, q_up_o h1, q_up_o h1]
theorem bgn_t {k : Nat} : bgn I t t k = (q_up (q_up (q_up (q_up (q_up (q_up (q_up I t 0 4) t 1 3) t 2 1) t 3 1) t 4 2) t 5 0) t 6 0) t k := by
  unfold bgn q_fill
  exact if_neg (by omega)
theorem bgn_at (s1 : sh[t]? = some (7, 9)) (s2 : sh[t + 1]? = some (100, 20)) (s3 : sh[t + 2]? = some (100, 80)) (r1 : X.2 t 7 = some (t + 1)) (r2 : X.2 t 8 = some (t + 2)) : TAt sh (bgn I t, X) t T00 := by
  refine ⟨s1, s2, s3, r1, r2, ?_, ?_, ?_, ?_, ?_, ?_, ?_, fun c hc => ?_⟩
  · show bgn I t t 0 = 4
    rw [bgn_t, q_up_n (by omega), q_up_n (by omega), q_up_n (by omega), q_up_n (by omega), q_up_n (by omega), q_up_n (by omega), q_up_s]
  · show bgn I t t 1 = 3
    rw [bgn_t, q_up_n (by omega), q_up_n (by omega), q_up_n (by omega), q_up_n (by omega), q_up_n (by omega), q_up_s]
  · show bgn I t t 2 = 1
    rw [bgn_t, q_up_n (by omega), q_up_n (by omega), q_up_n (by omega), q_up_n (by omega), q_up_s]
  · show bgn I t t 3 = 1
    rw [bgn_t, q_up_n (by omega), q_up_n (by omega), q_up_n (by omega), q_up_s]
  · show bgn I t t 4 = 2
    rw [bgn_t, q_up_n (by omega), q_up_n (by omega), q_up_s]
  · show bgn I t t 5 = 0
    rw [bgn_t, q_up_n (by omega), q_up_s]
  · show bgn I t t 6 = 0
    rw [bgn_t, q_up_s]
  · show bgn I t (t + 1) c = 0
    unfold bgn q_fill
    exact if_pos ⟨rfl, hc⟩
-- method 24: StraightTax$Town.join.()V
theorem l_join3 (hT : TAt sh (I, X) t T) (hw : tWF T) (hs0 : sh[1000]? = none) (hs1 : sh[1001]? = none) {y x c : Nat} (hx : (x : Int) < tW T) (hy : (y : Int) < tH T) (hc : (c : Int) = (y : Int) * tW T + (x : Int)) {Q : Option Value → QS → Prop} (hk : ∀ v4, K sh (d + 3) 24 87 [some (.ref t), some (.int (J (y : Int))), some (.int (J (x : Int))), some (.int (J ((4 : Nat) : Int))), v4] [] (jn T I t (c * 4 + 4), X) Q) : ∀ (m e : Nat) (v4 : Option Value), e + m = 4 → K sh (d + 3) 24 30 [some (.ref t), some (.int (J (y : Int))), some (.int (J (x : Int))), some (.int (J (e : Int))), v4] [] (jn T I t (c * 4 + e), X) Q := by
  obtain ⟨s1, s2, s3, q1, q2, a0, a1, a2, a3, a4, a5, a6, ag⟩ := id hT
  have hN := tN_le hw
  have hxy : tSq T x y = (c : Int) := by unfold tSq; rw [if_pos (by omega), hc]
  have hcr := tSq_range hw (x : Int) (y : Int)
  have hu : (c : Int) / tW T = (y : Int) ∧ (c : Int) % tW T = (x : Int) := (Int.ediv_emod_unique (by have := hw.1; omega)).mpr ⟨by rw [hc, Int.mul_comm, Int.add_comm], by omega, hx⟩
  intro m
  induction m with
  | zero =>
    intro e v4 he
    have e4 : e = 4 := by omega
    subst e4
    refine k_iload_n i_24_30 rfl ?_
    refine k_iconst i_24_31 ?_
    refine k_ic_ge (t := 87) i_24_32 rfl (by omega) (by omega) (fun g => ?_) (fun g => ?_)
    · exact hk v4
    · omega
  | succ m ih =>
    intro e v4 he
    have hT' : TAt sh (jn T I t (c * 4 + e), X) t T := hT.same (jn_o (by omega)) (jn_o (by omega)) rfl
    have d1 := dxx_r (e : Int)
    have d2 := dyy_r (e : Int)
    have hwd := hw.1
    have hwh := hw.2.1
    have htr := tSq_range hw ((x : Int) + dxx (e : Int)) ((y : Int) + dyy (e : Int))
    have hnx : nx T (c : Int) (e : Int) = if tOpen T (tSq T ((x : Int) + dxx (e : Int)) ((y : Int) + dyy (e : Int))) = true then tSq T ((x : Int) + dxx (e : Int)) ((y : Int) + dyy (e : Int)) else -1 := by
      unfold nx
      rw [hu.1, hu.2]
    have he4 : e = 0 ∨ e = 1 ∨ e = 2 ∨ e = 3 := by omega
    refine k_iload_n i_24_30 rfl ?_
    refine k_iconst i_24_31 ?_
    refine k_ic_ge (t := 87) i_24_32 rfl (by omega) (by omega) (fun g => ?_) (fun g => ?_)
    · omega
    · refine k_aload_n i_24_35 rfl ?_
      refine k_iload_n i_24_36 rfl ?_
      refine k_gs i_24_37 s_7_53 ?_
      refine k_iload_n i_24_40 rfl ?_
      refine k_ialdR (v := dxx (e : Int)) i_24_41 hs0 rfl rfl (by omega) (by omega) (by rcases he4 with rfl | rfl | rfl | rfl <;> decide) ?_
      refine k_iadd i_24_42 ?_
      refine k_iload_n i_24_43 rfl ?_
      refine k_gs i_24_44 s_7_56 ?_
      refine k_iload_n i_24_47 rfl ?_
      refine k_ialdR (v := dyy (e : Int)) i_24_48 hs1 rfl rfl (by omega) (by omega) (by rcases he4 with rfl | rfl | rfl | rfl <;> decide) ?_
      refine k_iadd i_24_49 ?_
      refine k_vp2 i_24_50 c_7_59 qp_25 qo_25 (by first | rfl | assumption | (rw [hR]; rfl) | (dsimp only; rw [hR]; rfl)) (Nat.le_of_ble_eq_true rfl) (e_squareAt hT' hw _ _ (by omega) (by omega)) ?_
      refine k_istore i_24_53 (Nat.le_of_ble_eq_true rfl) ?_
      dsimp only [q_st1, q_st2, q_unl]
      refine k_aload_n i_24_55 rfl ?_
      refine k_iload i_24_56 rfl ?_
      refine k_vp1 i_24_58 c_7_63 qp_26 qo_26 (by first | rfl | assumption | (rw [hR]; rfl) | (dsimp only; rw [hR]; rfl)) (Nat.le_of_ble_eq_true rfl) (e_isOpen hT' hw _ (by omega)) ?_
      refine k_if_eqB (t := 81) i_24_61 rfl (fun h => ?_) (fun h => ?_)
      · rw [jn_skip (by omega) (by omega) (by rw [hnx, if_neg (by rw [h]; decide)])]
        refine k_iinc i_24_81 rfl (Nat.le_of_ble_eq_true rfl) ?_
        dsimp only [q_st1, q_st2, q_unl]
        refine k_goto (t := 30) i_24_84 rfl ?_
        exact ih (e + 1) _ (by omega)
      · refine k_aload_n i_24_64 rfl ?_
        refine k_gfR i_24_65 f_7_15 (by first | rfl | assumption | (rw [hR]; rfl) | (dsimp only; rw [hR]; rfl)) (by decide) (by decide) (Or.inr ⟨_, rfl⟩) (by first | rfl | assumption | (rw [hR]; rfl) | (dsimp only; rw [hR]; rfl)) ?_
        refine k_aload_n i_24_68 rfl ?_
        refine k_iload_n i_24_69 rfl ?_
        refine k_iload_n i_24_70 rfl ?_
        refine k_vp2 i_24_71 c_7_59 qp_25 qo_25 (by first | rfl | assumption | (rw [hR]; rfl) | (dsimp only; rw [hR]; rfl)) (Nat.le_of_ble_eq_true rfl) (e_squareAt hT' hw _ _ (by omega) (by omega)) ?_
        rw [hxy]
        refine k_iconst i_24_74 ?_
        refine k_imul i_24_75 ?_
        refine k_iload_n i_24_76 rfl ?_
        refine k_iadd i_24_77 ?_
        refine k_iload i_24_78 rfl ?_
        refine k_iast i_24_80 (by first | rfl | assumption | (rw [hR]; rfl) | (dsimp only; rw [hR]; rfl)) (by decide) (by omega) (by omega) ?_
        rw [show ((c : Int) * 4 + (e : Int)).toNat = c * 4 + e by omega]
        dsimp only
        rw [jn_step (by omega) (by omega) (by rw [hnx, if_pos h])]
        refine k_iinc i_24_81 rfl (Nat.le_of_ble_eq_true rfl) ?_
        dsimp only [q_st1, q_st2, q_unl]
        refine k_goto (t := 30) i_24_84 rfl ?_
        exact ih (e + 1) _ (by omega)
theorem l_join2 (hT : TAt sh (I, X) t T) (hw : tWF T) (hs0 : sh[1000]? = none) (hs1 : sh[1001]? = none) {y : Nat} (hy : (y : Int) < tH T) {Q : Option Value → QS → Prop} (hk : ∀ (c : Nat) v2 v3 v4, (c : Int) = ((y : Int) + 1) * tW T → K sh (d + 3) 24 93 [some (.ref t), some (.int (J (y : Int))), v2, v3, v4] [] (jn T I t (c * 4), X) Q) : ∀ (m x c : Nat) (v3 v4 : Option Value), (x : Int) + m = tW T → (c : Int) = (y : Int) * tW T + (x : Int) → K sh (d + 3) 24 20 [some (.ref t), some (.int (J (y : Int))), some (.int (J (x : Int))), v3, v4] [] (jn T I t (c * 4), X) Q := by
  obtain ⟨s1, s2, s3, q1, q2, a0, a1, a2, a3, a4, a5, a6, ag⟩ := id hT
  have hwd := hw.1
  intro m
  induction m with
  | zero =>
    intro x c v3 v4 hx hc
    refine k_iload_n i_24_20 rfl ?_
    refine k_aload_n i_24_21 rfl ?_
    refine k_gfV (a := (tW T)) i_24_22 f_7_24 (by first | rfl | assumption | (rw [hR]; rfl) | (dsimp only; rw [hR]; rfl)) (by decide) (by decide) (Or.inl rfl) (by dsimp only; rw [jn_o (by omega)]; exact a0) ?_
    refine k_ic_ge (t := 93) i_24_25 rfl (by omega) (by omega) (fun g => ?_) (fun g => ?_)
    · refine hk c _ _ _ ?_
      rw [hc, Int.add_mul]
      omega
    · omega
  | succ m ih =>
    intro x c v3 v4 hx hc
    refine k_iload_n i_24_20 rfl ?_
    refine k_aload_n i_24_21 rfl ?_
    refine k_gfV (a := (tW T)) i_24_22 f_7_24 (by first | rfl | assumption | (rw [hR]; rfl) | (dsimp only; rw [hR]; rfl)) (by decide) (by decide) (Or.inl rfl) (by dsimp only; rw [jn_o (by omega)]; exact a0) ?_
    refine k_ic_ge (t := 93) i_24_25 rfl (by omega) (by omega) (fun g => ?_) (fun g => ?_)
    · omega
    · refine k_iconst i_24_28 ?_
      refine k_istore_n i_24_29 (Nat.le_of_ble_eq_true rfl) ?_
      dsimp only [q_st1, q_st2, q_unl]
      refine l_join3 hT hw hs0 hs1 (by omega) hy hc (fun v4 => ?_) 4 0 v4 rfl
      refine k_iinc i_24_87 rfl (Nat.le_of_ble_eq_true rfl) ?_
      dsimp only [q_st1, q_st2, q_unl]
      refine k_goto (t := 20) i_24_90 rfl ?_
      have h := ih (x + 1) (c + 1) (some (.int (J ((4 : Nat) : Int)))) v4 (by omega) (by omega)
      rw [show (c + 1) * 4 = c * 4 + 4 by omega] at h
      exact h
theorem l_join1 (hT : TAt sh (I, X) t T) (hw : tWF T) (hs0 : sh[1000]? = none) (hs1 : sh[1001]? = none) : ∀ (m y c : Nat) (v2 v3 v4 : Option Value), (y : Int) + m = tH T → (c : Int) = (y : Int) * tW T → K sh (d + 3) 24 10 [some (.ref t), some (.int (J (y : Int))), v2, v3, v4] [] (jn T I t (c * 4), X) (fun r S2 => r = none ∧ S2 = (jn T I t ((tN T).toNat * 4), X)) := by
  obtain ⟨s1, s2, s3, q1, q2, a0, a1, a2, a3, a4, a5, a6, ag⟩ := id hT
  have hwd := hw.2.1
  have hwd1 := hw.1
  intro m
  induction m with
  | zero =>
    intro y c v2 v3 v4 hx hc
    refine k_iload_n i_24_10 rfl ?_
    refine k_aload_n i_24_11 rfl ?_
    refine k_gfV (a := (tH T)) i_24_12 f_7_28 (by first | rfl | assumption | (rw [hR]; rfl) | (dsimp only; rw [hR]; rfl)) (by decide) (by decide) (Or.inl rfl) (by dsimp only; rw [jn_o (by omega)]; exact a1) ?_
    refine k_ic_ge (t := 99) i_24_15 rfl (by omega) (by omega) (fun g => ?_) (fun g => ?_)
    · refine k_vret i_24_99 qt_24 ?_
      refine ⟨rfl, ?_⟩
      have : (tN T).toNat = c := by
        unfold tN
        rw [Int.mul_comm, show tH T = (y : Int) by omega, ← hc]
        omega
      rw [this]
    · omega
  | succ m ih =>
    intro y c v2 v3 v4 hx hc
    refine k_iload_n i_24_10 rfl ?_
    refine k_aload_n i_24_11 rfl ?_
    refine k_gfV (a := (tH T)) i_24_12 f_7_28 (by first | rfl | assumption | (rw [hR]; rfl) | (dsimp only; rw [hR]; rfl)) (by decide) (by decide) (Or.inl rfl) (by dsimp only; rw [jn_o (by omega)]; exact a1) ?_
    refine k_ic_ge (t := 99) i_24_15 rfl (by omega) (by omega) (fun g => ?_) (fun g => ?_)
    · omega
    · refine k_iconst i_24_18 ?_
      refine k_istore_n i_24_19 (Nat.le_of_ble_eq_true rfl) ?_
      dsimp only [q_st1, q_st2, q_unl]
      refine l_join2 hT hw hs0 hs1 (y := y) (by omega) (fun c2 v2 v3 v4 hc2 => ?_) (tW T).toNat 0 c v3 v4 (by omega) (by omega)
      refine k_iinc i_24_93 rfl (Nat.le_of_ble_eq_true rfl) ?_
      dsimp only [q_st1, q_st2, q_unl]
      refine k_goto (t := 10) i_24_96 rfl ?_
      exact ih (y + 1) c2 _ _ _ (by omega) (by rw [hc2]; rfl)
theorem e_join (hT : TAt sh (I, X) t T) (hw : tWF T) (hs0 : sh[1000]? = none) (hs1 : sh[1001]? = none) : KC sh (d + 3) 24 [.ref t] (I, X) (fun r S2 => r = none ∧ S2 = (jn T I t ((tN T).toNat * 4), X)) := by
  obtain ⟨s1, s2, s3, q1, q2, a0, a1, a2, a3, a4, a5, a6, ag⟩ := id hT
  have hwd := hw.2.1
  refine k_start ql_24 (Nat.le_of_ble_eq_true rfl) ?_
  simp only [q_en, List.replicate]
  refine k_aload_n i_24_0 rfl ?_
  refine k_gfR i_24_1 f_7_15 (by first | rfl | assumption | (rw [hR]; rfl) | (dsimp only; rw [hR]; rfl)) (by decide) (by decide) (Or.inr ⟨_, rfl⟩) (by first | rfl | assumption | (rw [hR]; rfl) | (dsimp only; rw [hR]; rfl)) ?_
  refine k_iconst i_24_4 ?_
  refine k_cs2 i_24_5 c_7_47 (by decide) qp_158 (Nat.le_of_ble_eq_true rfl) (e_fill s3 (by decide) (-1)) (fun v S2 h => ?_)
  obtain ⟨rfl, rfl⟩ := h
  show K sh (d + 3) 24 8 _ [] _ _
  refine k_iconst i_24_8 ?_
  refine k_istore_n i_24_9 (Nat.le_of_ble_eq_true rfl) ?_
  dsimp only [q_st1, q_st2, q_unl]
  have e : q_fill I (t + 2) 80 (-1) = jn T I t (0 * 4) := by
    funext c i
    unfold q_fill jn
    by_cases z : c = t + 2 ∧ i < 80
    · rw [if_pos z, if_pos z, if_neg (by omega)]
    · rw [if_neg z, if_neg z]
  rw [e]
  exact l_join1 hT hw hs0 hs1 (tH T).toNat 0 0 none none none (by omega) (by omega)
theorem jn_nx (hw : tWF T) : TNx (jn T I t ((tN T).toNat * 4), X) t T := by
  have hN := tN_le hw
  intro c e hc he
  show jn T I t ((tN T).toNat * 4) (t + 2) (c * 4 + e) = _
  unfold jn
  rw [if_pos (by omega), show (c * 4 + e) / 4 = c by omega, show (c * 4 + e) % 4 = e by omega]
  by_cases z : (c : Int) < tN T
  · rw [if_pos (by omega), if_pos z]
  · rw [if_neg (by omega), if_neg z]
end TJ
