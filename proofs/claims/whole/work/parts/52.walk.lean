/-! WALKS: both sides -/
theorem behind_nx {T : Tn} (hw : tWF T) {c q : Int} (hc : 0 ≤ c ∧ c < tN T) (hq : 0 ≤ q ∧ q < 4) (h : 0 ≤ nx T c q) : nx T c q - (if q = 1 then 1 else if q = 3 then -1 else if q = 2 then tW T else -tW T) = c := by
  have e := sq_self (c := c) hw.1
  unfold nx at h ⊢
  split at h
  · rename_i ho
    rw [if_pos ho]
    unfold tSq at h ⊢
    split at h
    · rename_i hr
      rw [if_pos hr]
      have h5 : q = 0 ∨ q = 1 ∨ q = 2 ∨ q = 3 := by omega
      rcases h5 with rfl | rfl | rfl | rfl <;> simp only [dxx, dyy] <;> simp [Int.add_mul] <;> omega
    · omega
  · omega
def wLd (w : Wk) : Int := if w.n = 0 then -1 else w.d (w.n - 1)
def wLr (w : Wk) : Int := if w.n = 0 then 0 else w.r (w.n - 1)
theorem tRun_rb {T : Tn} {c l r q : Int} (h : 0 ≤ r) : 1 ≤ tRun T c l r q ∧ tRun T c l r q ≤ r + 1 := by
  unfold tRun
  split <;> omega
theorem WkOK.rb {T : Tn} {w : Wk} (h : WkOK T w) : ∀ i, i < w.n → 1 ≤ w.r i ∧ w.r i ≤ i + 1
  | 0, hi => by
    obtain ⟨-, -, -, -, e⟩ := h.way 0 hi
    rw [if_pos rfl, if_pos rfl] at e
    have := tRun_rb (T := T) (c := w.p 0) (l := -1) (r := 0) (q := w.d 0) (by omega)
    omega
  | i + 1, hi => by
    obtain ⟨-, -, -, -, e⟩ := h.way (i + 1) hi
    have ih := h.rb i (by omega)
    rw [if_neg (by omega), if_neg (by omega)] at e
    have := tRun_rb (T := T) (c := w.p (i + 1)) (l := w.d (i + 1 - 1)) (r := w.r (i + 1 - 1)) (q := w.d (i + 1)) (by rw [show i + 1 - 1 = i by omega]; omega)
    rw [show i + 1 - 1 = i by omega] at *
    omega
theorem WkOK.lr {T : Tn} {w : Wk} (h : WkOK T w) : 0 ≤ wLr w ∧ wLr w ≤ w.n := by
  unfold wLr
  split
  · omega
  · have := h.rb (w.n - 1) (by omega)
    omega
theorem WkOK.ld {T : Tn} {w : Wk} (h : WkOK T w) : -1 ≤ wLd w ∧ wLd w < 4 := by
  unfold wLd
  split
  · omega
  · have := (h.way (w.n - 1) (by omega)).1
    omega
theorem WkOK.pr {T : Tn} {w : Wk} (h : WkOK T w) (hw : tWF T) : -1 ≤ w.pos ∧ w.pos < 20 := by
  have hN := tN_le hw
  rcases h.pos with h1 | h1
  · omega
  · have := open_lt h1
    omega
/-- a step more -/
def wGo (T : Tn) (w : Wk) (q : Int) : Wk := (nx T w.pos q, w.n + 1, w.paid + tPrice T w.nt (tRun T w.pos (wLd w) (wLr w) q), w.nt, fu w.p (w.n + 1) (nx T w.pos q), fu w.d w.n q, fu w.r w.n (tRun T w.pos (wLd w) (wLr w) q), fu w.f w.n (tPrice T w.nt (tRun T w.pos (wLd w) (wLr w) q)))
theorem wGo_ok {T : Tn} {w : Wk} (h : WkOK T w) {q : Int} (hq : 0 ≤ q ∧ q < 4) (ho : tOpen T w.pos = true) (hn : w.n < 60) (hx : 0 ≤ nx T w.pos q) : WkOK T (wGo T w q) := by
  refine ⟨by show w.n + 1 ≤ 60; omega, h.nt01, Or.inr (nx_open hx), ?_, fun i hi => ?_⟩
  · show fu w.p (w.n + 1) _ (w.n + 1) = _
    unfold fu; rw [if_pos rfl]; rfl
  · change i < w.n + 1 at hi
    unfold wkStep
    show (0 ≤ fu w.d w.n q i ∧ fu w.d w.n q i < 4) ∧ tOpen T (fu w.p (w.n + 1) (nx T w.pos q) i) = true ∧ nx T (fu w.p (w.n + 1) (nx T w.pos q) i) (fu w.d w.n q i) = fu w.p (w.n + 1) (nx T w.pos q) (i + 1) ∧ 0 ≤ fu w.p (w.n + 1) (nx T w.pos q) (i + 1) ∧ fu w.r w.n (tRun T w.pos (wLd w) (wLr w) q) i = tRun T (fu w.p (w.n + 1) (nx T w.pos q) i) (if i = 0 then -1 else fu w.d w.n q (i - 1)) (if i = 0 then 0 else fu w.r w.n (tRun T w.pos (wLd w) (wLr w) q) (i - 1)) (fu w.d w.n q i)
    by_cases hi2 : i < w.n
    · obtain ⟨a1, a2, a3, a4, a5⟩ := h.way i hi2
      have f1 : fu w.d w.n q i = w.d i := if_neg (by omega)
      have f2 : fu w.p (w.n + 1) (nx T w.pos q) i = w.p i := if_neg (by omega)
      have f3 : fu w.p (w.n + 1) (nx T w.pos q) (i + 1) = w.p (i + 1) := if_neg (by omega)
      have f4 : fu w.r w.n (tRun T w.pos (wLd w) (wLr w) q) i = w.r i := if_neg (by omega)
      have f5 : (if i = 0 then -1 else fu w.d w.n q (i - 1)) = if i = 0 then -1 else w.d (i - 1) := by split; rfl; exact if_neg (by omega)
      have f6 : (if i = 0 then 0 else fu w.r w.n (tRun T w.pos (wLd w) (wLr w) q) (i - 1)) = if i = 0 then 0 else w.r (i - 1) := by split; rfl; exact if_neg (by omega)
      rw [f1, f2, f3, f4, f5, f6]
      exact ⟨a1, a2, a3, a4, a5⟩
    · have e : i = w.n := by omega
      subst e
      unfold fu
      rw [if_pos rfl, if_neg (by omega), if_pos rfl, if_pos rfl, h.end_]
      refine ⟨hq, ho, rfl, hx, ?_⟩
      unfold wLd wLr
      by_cases z : w.n = 0
      · rw [if_pos z, if_pos z, if_pos z, if_pos z]
      · rw [if_neg z, if_neg z, if_neg z, if_neg z, if_neg (by omega), if_neg (by omega)]
/-- a step less -/
def wUn (w : Wk) : Wk := (w.p (w.n - 1), w.n - 1, w.paid - w.f (w.n - 1), w.nt, w.p, w.d, w.r, w.f)
theorem wUn_ok {T : Tn} {w : Wk} (h : WkOK T w) (hn : 0 < w.n) : WkOK T (wUn w) := by
  have := h.n60
  refine ⟨by show w.n - 1 ≤ 60; omega, h.nt01, Or.inr (h.way (w.n - 1) (by omega)).2.1, rfl, fun i hi => ?_⟩
  change i < w.n - 1 at hi
  exact h.way i (by omega)
section WC
variable {σ : Sg} {h s w d n : Nat} {I : Nat → Nat → Int} {X : XX} {I2 : Nat → Nat → Int} {X2 : XX}
-- method 40: StraightTax$Walk.leave.()V
theorem e_leave : KC shX d 40 [.ref 3] (I, X) (fun r S2 => r = none ∧ S2 = (q_up (q_up (q_up I 3 0 (-1)) 3 1 0) 3 2 0, X)) := by
  refine k_start ql_40 (Nat.le_of_ble_eq_true rfl) ?_
  simp only [q_en, List.replicate]
  refine k_aload_n i_40_0 rfl ?_
  refine k_iconst i_40_1 ?_
  refine k_pfI i_40_2 f_8_9 (by first | rfl | assumption | (rw [hR]; rfl) | (dsimp only; rw [hR]; rfl)) (by decide) rfl ?_
  refine k_aload_n i_40_5 rfl ?_
  refine k_iconst i_40_6 ?_
  refine k_pfI i_40_7 f_8_15 (by first | rfl | assumption | (rw [hR]; rfl) | (dsimp only; rw [hR]; rfl)) (by decide) rfl ?_
  refine k_aload_n i_40_10 rfl ?_
  refine k_iconst i_40_11 ?_
  refine k_pfI i_40_12 f_8_18 (by first | rfl | assumption | (rw [hR]; rfl) | (dsimp only; rw [hR]; rfl)) (by decide) rfl ?_
  refine k_vret i_40_15 qt_40 ?_
  exact ⟨rfl, rfl⟩
-- method 41: StraightTax$Walk.lastDirection.()I
theorem e_lastDir (hR : X.2 = rX h s w) {k : Wk} (hW : XWk I 3 k) (h60 : k.n ≤ 60) : KP shX d 41 [.ref 3] (I, X) (.int (J (wLd k))) := by
  have hn : I 3 2 = (k.n : Int) := hW.2.2.1
  refine k_start ql_41 (Nat.le_of_ble_eq_true rfl) ?_
  simp only [q_en, List.replicate]
  refine k_aload_n i_41_0 rfl ?_
  refine k_gfV (a := (k.n : Int)) i_41_1 f_8_18 (by first | rfl | assumption | (rw [hR]; rfl) | (dsimp only; rw [hR]; rfl)) (by decide) (by decide) (Or.inl rfl) (hn) ?_
  refine k_if_le (t := 30) i_41_4 rfl (by omega) (fun h => ?_) (fun h => ?_)
  · refine k_iconst i_41_30 ?_
    refine k_iret i_41_31 qt_41 ?_
    exact ⟨by unfold wLd; rw [if_pos (by omega)], rfl⟩
  · refine k_aload_n i_41_7 rfl ?_
    refine k_gfV (a := (k.n : Int)) i_41_8 f_8_18 (by first | rfl | assumption | (rw [hR]; rfl) | (dsimp only; rw [hR]; rfl)) (by decide) (by decide) (Or.inl rfl) (hn) ?_
    refine k_bipush i_41_11 (by decide) ?_
    refine k_ic_gt (t := 30) i_41_13 rfl (by omega) (by omega) (fun g => ?_) (fun g => ?_)
    · omega
    · refine k_aload_n i_41_16 rfl ?_
      refine k_gfR i_41_17 f_8_29 (by first | rfl | assumption | (rw [hR]; rfl) | (dsimp only; rw [hR]; rfl)) (by decide) (by decide) (Or.inr ⟨_, rfl⟩) (by first | rfl | assumption | (rw [hR]; rfl) | (dsimp only; rw [hR]; rfl)) ?_
      refine k_aload_n i_41_20 rfl ?_
      refine k_gfV (a := (k.n : Int)) i_41_21 f_8_18 (by first | rfl | assumption | (rw [hR]; rfl) | (dsimp only; rw [hR]; rfl)) (by decide) (by decide) (Or.inl rfl) (hn) ?_
      refine k_iconst i_41_24 ?_
      refine k_isub i_41_25 ?_
      refine k_ialV (a := (wLd k)) i_41_26 (by first | rfl | assumption | (rw [hR]; rfl) | (dsimp only; rw [hR]; rfl)) (by decide) (by omega) (by omega) (by unfold wLd; rw [if_neg (by omega), show ((k.n : Int) - 1).toNat = k.n - 1 by omega]; exact (hW.2.2.2.2 (k.n - 1) (by omega)).2.1) ?_
      refine k_goto (t := 31) i_41_27 rfl ?_
      refine k_iret i_41_31 qt_41 ?_
      exact ⟨rfl, rfl⟩
-- method 42: StraightTax$Walk.lastRun.()I
theorem e_lastRun (hR : X.2 = rX h s w) {k : Wk} (hW : XWk I 3 k) (h60 : k.n ≤ 60) : KP shX d 42 [.ref 3] (I, X) (.int (J (wLr k))) := by
  have hn : I 3 2 = (k.n : Int) := hW.2.2.1
  refine k_start ql_42 (Nat.le_of_ble_eq_true rfl) ?_
  simp only [q_en, List.replicate]
  refine k_aload_n i_42_0 rfl ?_
  refine k_gfV (a := (k.n : Int)) i_42_1 f_8_18 (by first | rfl | assumption | (rw [hR]; rfl) | (dsimp only; rw [hR]; rfl)) (by decide) (by decide) (Or.inl rfl) (hn) ?_
  refine k_if_le (t := 30) i_42_4 rfl (by omega) (fun h => ?_) (fun h => ?_)
  · refine k_iconst i_42_30 ?_
    refine k_iret i_42_31 qt_42 ?_
    exact ⟨by unfold wLr; rw [if_pos (by omega)], rfl⟩
  · refine k_aload_n i_42_7 rfl ?_
    refine k_gfV (a := (k.n : Int)) i_42_8 f_8_18 (by first | rfl | assumption | (rw [hR]; rfl) | (dsimp only; rw [hR]; rfl)) (by decide) (by decide) (Or.inl rfl) (hn) ?_
    refine k_bipush i_42_11 (by decide) ?_
    refine k_ic_gt (t := 30) i_42_13 rfl (by omega) (by omega) (fun g => ?_) (fun g => ?_)
    · omega
    · refine k_aload_n i_42_16 rfl ?_
      refine k_gfR i_42_17 f_8_32 (by first | rfl | assumption | (rw [hR]; rfl) | (dsimp only; rw [hR]; rfl)) (by decide) (by decide) (Or.inr ⟨_, rfl⟩) (by first | rfl | assumption | (rw [hR]; rfl) | (dsimp only; rw [hR]; rfl)) ?_
      refine k_aload_n i_42_20 rfl ?_
      refine k_gfV (a := (k.n : Int)) i_42_21 f_8_18 (by first | rfl | assumption | (rw [hR]; rfl) | (dsimp only; rw [hR]; rfl)) (by decide) (by decide) (Or.inl rfl) (hn) ?_
      refine k_iconst i_42_24 ?_
      refine k_isub i_42_25 ?_
      refine k_ialV (a := (wLr k)) i_42_26 (by first | rfl | assumption | (rw [hR]; rfl) | (dsimp only; rw [hR]; rfl)) (by decide) (by omega) (by omega) (by unfold wLr; rw [if_neg (by omega), show ((k.n : Int) - 1).toNat = k.n - 1 by omega]; exact (hW.2.2.2.2 (k.n - 1) (by omega)).2.2.1) ?_
      refine k_goto (t := 31) i_42_27 rfl ?_
      refine k_iret i_42_31 qt_42 ?_
      exact ⟨rfl, rfl⟩
-- method 43: StraightTax$Walk.go.(IIII)V
theorem e_go (hR : X.2 = rX h s w) {k : Wk} (hW : XWk I 3 k) (h60 : k.n < 60) (q r f t : Int) : KC shX d 43 [.ref 3, .int (J q), .int (J r), .int (J f), .int (J t)] (I, X) (fun r' S2 => r' = none ∧ S2 = (q_up (q_up (q_up (q_up (q_up (q_up (q_up I 4 k.n k.pos) 5 k.n q) 6 k.n r) 7 k.n f) 3 2 (k.n + 1)) 3 1 (k.paid + f)) 3 0 t, X)) := by
  obtain ⟨w1, w2, hn, w4, w5⟩ := hW
  refine k_start ql_43 (Nat.le_of_ble_eq_true rfl) ?_
  simp only [q_en, List.replicate]
  refine k_aload_n i_43_0 rfl ?_
  refine k_gfV (a := (k.n : Int)) i_43_1 f_8_18 (by first | rfl | assumption | (rw [hR]; rfl) | (dsimp only; rw [hR]; rfl)) (by decide) (by decide) (Or.inl rfl) (hn) ?_
  refine k_if_lt (t := 85) i_43_4 rfl (by omega) (fun h => ?_) (fun h => ?_)
  · omega
  · refine k_aload_n i_43_7 rfl ?_
    refine k_gfV (a := (k.n : Int)) i_43_8 f_8_18 (by first | rfl | assumption | (rw [hR]; rfl) | (dsimp only; rw [hR]; rfl)) (by decide) (by decide) (Or.inl rfl) (hn) ?_
    refine k_bipush i_43_11 (by decide) ?_
    refine k_ic_ge (t := 85) i_43_13 rfl (by omega) (by omega) (fun g => ?_) (fun g => ?_)
    · omega
    · refine k_aload_n i_43_16 rfl ?_
      refine k_gfR i_43_17 f_8_25 (by first | rfl | assumption | (rw [hR]; rfl) | (dsimp only; rw [hR]; rfl)) (by decide) (by decide) (Or.inr ⟨_, rfl⟩) (by first | rfl | assumption | (rw [hR]; rfl) | (dsimp only; rw [hR]; rfl)) ?_
      refine k_aload_n i_43_20 rfl ?_
      refine k_gfV (a := (k.n : Int)) i_43_21 f_8_18 (by first | rfl | assumption | (rw [hR]; rfl) | (dsimp only; rw [hR]; rfl)) (by decide) (by decide) (Or.inl rfl) (hn) ?_
      refine k_aload_n i_43_24 rfl ?_
      refine k_gfV (a := k.pos) i_43_25 f_8_9 (by first | rfl | assumption | (rw [hR]; rfl) | (dsimp only; rw [hR]; rfl)) (by decide) (by decide) (Or.inl rfl) (w1) ?_
      refine k_iast i_43_28 (by first | rfl | assumption | (rw [hR]; rfl) | (dsimp only; rw [hR]; rfl)) (by decide) (by omega) (by omega) ?_
      refine k_aload_n i_43_29 rfl ?_
      refine k_gfR i_43_30 f_8_29 (by first | rfl | assumption | (rw [hR]; rfl) | (dsimp only; rw [hR]; rfl)) (by decide) (by decide) (Or.inr ⟨_, rfl⟩) (by first | rfl | assumption | (rw [hR]; rfl) | (dsimp only; rw [hR]; rfl)) ?_
      refine k_aload_n i_43_33 rfl ?_
      refine k_gfV (a := (k.n : Int)) i_43_34 f_8_18 (by first | rfl | assumption | (rw [hR]; rfl) | (dsimp only; rw [hR]; rfl)) (by decide) (by decide) (Or.inl rfl) (hn) ?_
      refine k_iload_n i_43_37 rfl ?_
      refine k_iast i_43_38 (by first | rfl | assumption | (rw [hR]; rfl) | (dsimp only; rw [hR]; rfl)) (by decide) (by omega) (by omega) ?_
      refine k_aload_n i_43_39 rfl ?_
      refine k_gfR i_43_40 f_8_32 (by first | rfl | assumption | (rw [hR]; rfl) | (dsimp only; rw [hR]; rfl)) (by decide) (by decide) (Or.inr ⟨_, rfl⟩) (by first | rfl | assumption | (rw [hR]; rfl) | (dsimp only; rw [hR]; rfl)) ?_
      refine k_aload_n i_43_43 rfl ?_
      refine k_gfV (a := (k.n : Int)) i_43_44 f_8_18 (by first | rfl | assumption | (rw [hR]; rfl) | (dsimp only; rw [hR]; rfl)) (by decide) (by decide) (Or.inl rfl) (hn) ?_
      refine k_iload_n i_43_47 rfl ?_
      refine k_iast i_43_48 (by first | rfl | assumption | (rw [hR]; rfl) | (dsimp only; rw [hR]; rfl)) (by decide) (by omega) (by omega) ?_
      refine k_aload_n i_43_49 rfl ?_
      refine k_gfR i_43_50 f_8_35 (by first | rfl | assumption | (rw [hR]; rfl) | (dsimp only; rw [hR]; rfl)) (by decide) (by decide) (Or.inr ⟨_, rfl⟩) (by first | rfl | assumption | (rw [hR]; rfl) | (dsimp only; rw [hR]; rfl)) ?_
      refine k_aload_n i_43_53 rfl ?_
      refine k_gfV (a := (k.n : Int)) i_43_54 f_8_18 (by first | rfl | assumption | (rw [hR]; rfl) | (dsimp only; rw [hR]; rfl)) (by decide) (by decide) (Or.inl rfl) (hn) ?_
      refine k_iload_n i_43_57 rfl ?_
      refine k_iast i_43_58 (by first | rfl | assumption | (rw [hR]; rfl) | (dsimp only; rw [hR]; rfl)) (by decide) (by omega) (by omega) ?_
      refine k_aload_n i_43_59 rfl ?_
      first | refine k_dupA i_43_60 ?_ | refine k_dupI i_43_60 ?_
      refine k_gfV (a := (k.n : Int)) i_43_61 f_8_18 (by first | rfl | assumption | (rw [hR]; rfl) | (dsimp only; rw [hR]; rfl)) (by decide) (by decide) (Or.inl rfl) (hn) ?_
      refine k_iconst i_43_64 ?_
      refine k_iadd i_43_65 ?_
      refine k_pfI i_43_66 f_8_18 (by first | rfl | assumption | (rw [hR]; rfl) | (dsimp only; rw [hR]; rfl)) (by decide) rfl ?_
      refine k_aload_n i_43_69 rfl ?_
      first | refine k_dupA i_43_70 ?_ | refine k_dupI i_43_70 ?_
      refine k_gfV (a := k.paid) i_43_71 f_8_15 (by first | rfl | assumption | (rw [hR]; rfl) | (dsimp only; rw [hR]; rfl)) (by decide) (by decide) (Or.inl rfl) (w2) ?_
      refine k_iload_n i_43_74 rfl ?_
      refine k_iadd i_43_75 ?_
      refine k_pfI i_43_76 f_8_15 (by first | rfl | assumption | (rw [hR]; rfl) | (dsimp only; rw [hR]; rfl)) (by decide) rfl ?_
      refine k_aload_n i_43_79 rfl ?_
      refine k_iload i_43_80 rfl ?_
      refine k_pfI i_43_82 f_8_9 (by first | rfl | assumption | (rw [hR]; rfl) | (dsimp only; rw [hR]; rfl)) (by decide) rfl ?_
      refine k_vret i_43_85 qt_43 ?_
      exact ⟨rfl, rfl⟩
-- method 44: StraightTax$Walk.takeBack.()I
theorem e_takeBack (hR : X.2 = rX h s w) {k : Wk} (hW : XWk I 3 k) (h60 : k.n ≤ 60) (h0 : 0 < k.n) : KC shX d 44 [.ref 3] (I, X) (fun r' S2 => r' = some (.int (J (k.f (k.n - 1)))) ∧ S2 = (q_up (q_up (q_up I 3 2 (k.n - 1)) 3 0 (k.p (k.n - 1))) 3 1 (k.paid - k.f (k.n - 1)), X)) := by
  obtain ⟨w1, w2, hn, w4, w5⟩ := hW
  have e1 : ((k.n : Int) - 1).toNat = k.n - 1 := by omega
  refine k_start ql_44 (Nat.le_of_ble_eq_true rfl) ?_
  simp only [q_en, List.replicate]
  refine k_aload_n i_44_0 rfl ?_
  refine k_gfV (a := (k.n : Int)) i_44_1 f_8_18 (by first | rfl | assumption | (rw [hR]; rfl) | (dsimp only; rw [hR]; rfl)) (by decide) (by decide) (Or.inl rfl) (hn) ?_
  refine k_if_le (t := 16) i_44_4 rfl (by omega) (fun h => ?_) (fun h => ?_)
  · omega
  · refine k_aload_n i_44_7 rfl ?_
    refine k_gfV (a := (k.n : Int)) i_44_8 f_8_18 (by first | rfl | assumption | (rw [hR]; rfl) | (dsimp only; rw [hR]; rfl)) (by decide) (by decide) (Or.inl rfl) (hn) ?_
    refine k_bipush i_44_11 (by decide) ?_
    refine k_ic_le (t := 18) i_44_13 rfl (by omega) (by omega) (fun g => ?_) (fun g => ?_)
    · refine k_aload_n i_44_18 rfl ?_
      first | refine k_dupA i_44_19 ?_ | refine k_dupI i_44_19 ?_
      refine k_gfV (a := (k.n : Int)) i_44_20 f_8_18 (by first | rfl | assumption | (rw [hR]; rfl) | (dsimp only; rw [hR]; rfl)) (by decide) (by decide) (Or.inl rfl) (hn) ?_
      refine k_iconst i_44_23 ?_
      refine k_isub i_44_24 ?_
      refine k_pfI i_44_25 f_8_18 (by first | rfl | assumption | (rw [hR]; rfl) | (dsimp only; rw [hR]; rfl)) (by decide) rfl ?_
      refine k_aload_n i_44_28 rfl ?_
      refine k_aload_n i_44_29 rfl ?_
      refine k_gfR i_44_30 f_8_25 (by first | rfl | assumption | (rw [hR]; rfl) | (dsimp only; rw [hR]; rfl)) (by decide) (by decide) (Or.inr ⟨_, rfl⟩) (by first | rfl | assumption | (rw [hR]; rfl) | (dsimp only; rw [hR]; rfl)) ?_
      refine k_aload_n i_44_33 rfl ?_
      refine k_gfV (a := ((k.n : Int) - 1)) i_44_34 f_8_18 (by first | rfl | assumption | (rw [hR]; rfl) | (dsimp only; rw [hR]; rfl)) (by decide) (by decide) (Or.inl rfl) (rfl) ?_
      refine k_ialV (a := (k.p (k.n - 1))) i_44_37 (by first | rfl | assumption | (rw [hR]; rfl) | (dsimp only; rw [hR]; rfl)) (by decide) (by omega) (by omega) (by rw [e1]; exact (w5 (k.n - 1) (by omega)).1) ?_
      refine k_pfI i_44_38 f_8_9 (by first | rfl | assumption | (rw [hR]; rfl) | (dsimp only; rw [hR]; rfl)) (by decide) rfl ?_
      refine k_aload_n i_44_41 rfl ?_
      first | refine k_dupA i_44_42 ?_ | refine k_dupI i_44_42 ?_
      refine k_gfV (a := k.paid) i_44_43 f_8_15 (by first | rfl | assumption | (rw [hR]; rfl) | (dsimp only; rw [hR]; rfl)) (by decide) (by decide) (Or.inl rfl) (w2) ?_
      refine k_aload_n i_44_46 rfl ?_
      refine k_gfR i_44_47 f_8_35 (by first | rfl | assumption | (rw [hR]; rfl) | (dsimp only; rw [hR]; rfl)) (by decide) (by decide) (Or.inr ⟨_, rfl⟩) (by first | rfl | assumption | (rw [hR]; rfl) | (dsimp only; rw [hR]; rfl)) ?_
      refine k_aload_n i_44_50 rfl ?_
      refine k_gfV (a := ((k.n : Int) - 1)) i_44_51 f_8_18 (by first | rfl | assumption | (rw [hR]; rfl) | (dsimp only; rw [hR]; rfl)) (by decide) (by decide) (Or.inl rfl) (rfl) ?_
      refine k_ialV (a := (k.f (k.n - 1))) i_44_54 (by first | rfl | assumption | (rw [hR]; rfl) | (dsimp only; rw [hR]; rfl)) (by decide) (by omega) (by omega) (by rw [e1]; exact (w5 (k.n - 1) (by omega)).2.2.2) ?_
      refine k_isub i_44_55 ?_
      refine k_pfI i_44_56 f_8_15 (by first | rfl | assumption | (rw [hR]; rfl) | (dsimp only; rw [hR]; rfl)) (by decide) rfl ?_
      refine k_aload_n i_44_59 rfl ?_
      refine k_gfR i_44_60 f_8_35 (by first | rfl | assumption | (rw [hR]; rfl) | (dsimp only; rw [hR]; rfl)) (by decide) (by decide) (Or.inr ⟨_, rfl⟩) (by first | rfl | assumption | (rw [hR]; rfl) | (dsimp only; rw [hR]; rfl)) ?_
      refine k_aload_n i_44_63 rfl ?_
      refine k_gfV (a := ((k.n : Int) - 1)) i_44_64 f_8_18 (by first | rfl | assumption | (rw [hR]; rfl) | (dsimp only; rw [hR]; rfl)) (by decide) (by decide) (Or.inl rfl) (rfl) ?_
      refine k_ialV (a := (k.f (k.n - 1))) i_44_67 (by first | rfl | assumption | (rw [hR]; rfl) | (dsimp only; rw [hR]; rfl)) (by decide) (by omega) (by omega) (by rw [e1]; exact (w5 (k.n - 1) (by omega)).2.2.2) ?_
      refine k_iret i_44_68 qt_44 ?_
      exact ⟨rfl, rfl⟩
    · omega
-- method 118: StraightTaxModel.runNow.()I
theorem l_runNow (hT : MT (I, X) σ.T) (hR : X.2 = rM) (hOK : tOK σ.T) {k : Wk} (hW : MWk I 0 k) (hk : WkOK σ.T k) (h0 : 0 < k.n) : ∀ (m : Nat) (run : Int), m < k.n → 1 ≤ run ∧ run ≤ 60 → wLr k = run - 1 + k.r m → K shM (d + 1) 118 29 [some (.ref 0), some (.int (J (k.n : Int))), some (.int (J run)), some (.int (J (k.p (m + 1)))), some (.int (J (m : Int)))] [] (I, X) (fun r S2 => r = some (.int (J (wLr k))) ∧ S2 = (I, X)) := by
  have hw := hOK.1
  have hN := tN_le hw
  have h60 := hk.n60
  obtain ⟨-, -, -, -, w5⟩ := hW
  intro m
  induction m with
  | zero =>
    intro run hm hr he
    have st := hk.way 0 hm
    obtain ⟨s1, s2, s3, s4, s5⟩ := st
    rw [if_pos rfl, if_pos rfl] at s5
    unfold tRun at s5
    rw [if_neg (by omega)] at s5
    refine k_iload i_118_29 rfl ?_
    refine k_if_le (t := 94) i_118_31 rfl (by omega) (fun h => ?_) (fun h => ?_)
    · refine k_iload_n i_118_94 rfl ?_
      refine k_iret i_118_95 qt_118 ?_
      exact ⟨by rw [he, s5]; congr 3; omega, rfl⟩
    · omega
  | succ m ih =>
    intro run hm hr he
    obtain ⟨s1, s2, s3, s4, s5⟩ := hk.way (m + 1) hm
    obtain ⟨t1, t2, t3, t4, t5⟩ := hk.way m (by omega)
    rw [if_neg (by omega), if_neg (by omega), show m + 1 - 1 = m by omega] at s5
    have hp := open_lt s2
    have hrb := hk.rb m (by omega)
    have hb := behind_nx hw hp s1 (by rw [s3]; exact s4)
    rw [s3] at hb
    refine k_iload i_118_29 rfl ?_
    refine k_if_le (t := 94) i_118_31 rfl (by omega) (fun h => ?_) (fun h => ?_)
    · omega
    · refine k_aload_n i_118_34 rfl ?_
      refine k_iload_n i_118_35 rfl ?_
      refine k_aload_n i_118_36 rfl ?_
      refine k_gfR i_118_37 f_12_29 (by first | rfl | assumption | (rw [hR]; rfl) | (dsimp only; rw [hR]; rfl)) (by decide) (by decide) (Or.inr ⟨_, rfl⟩) (by first | rfl | assumption | (rw [hR]; rfl) | (dsimp only; rw [hR]; rfl)) ?_
      refine k_iconst i_118_40 ?_
      refine k_iload i_118_41 rfl ?_
      refine k_iadd i_118_43 ?_
      refine k_ialV (a := (k.d (m + 1))) i_118_44 (by first | rfl | assumption | (rw [hR]; rfl) | (dsimp only; rw [hR]; rfl)) (by decide) (by omega) (by omega) (by rw [show ((4 : Int) + ((m + 1 : Nat) : Int)).toNat = 0 + 4 + (m + 1) by omega]; exact (w5 (m + 1) hm).1) ?_
      refine k_vp2 i_118_45 c_12_179 qp_119 qo_119 (by first | rfl | assumption | (rw [hR]; rfl) | (dsimp only; rw [hR]; rfl)) (Nat.le_of_ble_eq_true rfl) (m_behind hT hw _ _ (by omega)) ?_
      rw [hb]
      refine k_istore_n i_118_48 (Nat.le_of_ble_eq_true rfl) ?_
      dsimp only [q_st1, q_st2, q_unl]
      refine k_aload_n i_118_49 rfl ?_
      refine k_gfR i_118_50 f_12_29 (by first | rfl | assumption | (rw [hR]; rfl) | (dsimp only; rw [hR]; rfl)) (by decide) (by decide) (Or.inr ⟨_, rfl⟩) (by first | rfl | assumption | (rw [hR]; rfl) | (dsimp only; rw [hR]; rfl)) ?_
      refine k_iconst i_118_53 ?_
      refine k_iload i_118_54 rfl ?_
      refine k_iadd i_118_56 ?_
      refine k_iconst i_118_57 ?_
      refine k_isub i_118_58 ?_
      refine k_ialV (a := (k.d m)) i_118_59 (by first | rfl | assumption | (rw [hR]; rfl) | (dsimp only; rw [hR]; rfl)) (by decide) (by omega) (by omega) (by rw [show ((4 : Int) + ((m + 1 : Nat) : Int) - 1).toNat = 0 + 4 + m by omega]; exact (w5 m (by omega)).1) ?_
      refine k_aload_n i_118_60 rfl ?_
      refine k_gfR i_118_61 f_12_29 (by first | rfl | assumption | (rw [hR]; rfl) | (dsimp only; rw [hR]; rfl)) (by decide) (by decide) (Or.inr ⟨_, rfl⟩) (by first | rfl | assumption | (rw [hR]; rfl) | (dsimp only; rw [hR]; rfl)) ?_
      refine k_iconst i_118_64 ?_
      refine k_iload i_118_65 rfl ?_
      refine k_iadd i_118_67 ?_
      refine k_ialV (a := (k.d (m + 1))) i_118_68 (by first | rfl | assumption | (rw [hR]; rfl) | (dsimp only; rw [hR]; rfl)) (by decide) (by omega) (by omega) (by rw [show ((4 : Int) + ((m + 1 : Nat) : Int)).toNat = 0 + 4 + (m + 1) by omega]; exact (w5 (m + 1) hm).1) ?_
      have ret1 : k.r (m + 1) = 1 → K shM (d + 1) 118 83 [some (.ref 0), some (.int (J (k.n : Int))), some (.int (J run)), some (.int (J (k.p (m + 1)))), some (.int (J ((m + 1 : Nat) : Int)))] [] (I, X) (fun r S2 => r = some (.int (J (wLr k))) ∧ S2 = (I, X)) := by
        intro h1
        refine k_iload_n i_118_83 rfl ?_
        refine k_iret i_118_84 qt_118 ?_
        exact ⟨by rw [he, h1]; congr 3; omega, rfl⟩
      refine k_ic_ne (t := 83) i_118_69 rfl (by omega) (by omega) (fun g => ?_) (fun g => ?_)
      · refine ret1 ?_
        rw [s5]; unfold tRun; rw [if_neg (by omega)]
      · refine k_aload_n i_118_72 rfl ?_
        refine k_gfV (a := (tMask σ.T 2 : Int)) i_118_73 f_12_167 (by first | rfl | assumption | (rw [hR]; rfl) | (dsimp only; rw [hR]; rfl)) (by decide) (by decide) (Or.inl rfl) (hT.2.2.2.1) ?_
        refine k_iload_n i_118_76 rfl ?_
        refine k_sp2 i_118_77 c_12_83 (by decide) qp_109 (Nat.le_of_ble_eq_true rfl) (m_has (by have := tMask_lt σ.T 2; omega) _ (by omega) (by omega)) ?_
        rw [tElb_mask (by omega)]
        refine k_if_eqB (t := 85) i_118_80 rfl (fun h => ?_) (fun h => ?_)
        · refine k_iinc i_118_85 rfl (Nat.le_of_ble_eq_true rfl) ?_
          dsimp only [q_st1, q_st2, q_unl]
          refine k_iinc i_118_88 rfl (Nat.le_of_ble_eq_true rfl) ?_
          dsimp only [q_st1, q_st2, q_unl]
          refine k_goto (t := 29) i_118_91 rfl ?_
          rw [show ((m + 1 : Nat) : Int) + -1 = (m : Int) by omega]
          refine ih (run + 1) (by omega) ?_ ?_
          · have : k.r (m + 1) = k.r m + 1 := by rw [s5]; unfold tRun; rw [if_pos ⟨by omega, h⟩]
            have h3 := hk.lr
            omega
          · have : k.r (m + 1) = k.r m + 1 := by rw [s5]; unfold tRun; rw [if_pos ⟨by omega, h⟩]
            omega
        · refine ret1 ?_
          rw [s5]; unfold tRun; rw [if_neg (fun z => by rw [h] at z; exact absurd z.2 (by decide))]
theorem m_runNow (hT : MT (I, X) σ.T) (hR : X.2 = rM) (hOK : tOK σ.T) {k : Wk} (hW : MWk I 0 k) (hk : WkOK σ.T k) : KP shM (d + 1) 118 [.ref 0] (I, X) (.int (J (wLr k))) := by
  have h60 := hk.n60
  have hpr := hk.pr hOK.1
  refine k_start ql_118 (Nat.le_of_ble_eq_true rfl) ?_
  simp only [q_en, List.replicate]
  refine k_aload_n i_118_0 rfl ?_
  refine k_gfR i_118_1 f_12_29 (by first | rfl | assumption | (rw [hR]; rfl) | (dsimp only; rw [hR]; rfl)) (by decide) (by decide) (Or.inr ⟨_, rfl⟩) (by first | rfl | assumption | (rw [hR]; rfl) | (dsimp only; rw [hR]; rfl)) ?_
  refine k_iconst i_118_4 ?_
  refine k_ialV (a := (k.n : Int)) i_118_5 (by first | rfl | assumption | (rw [hR]; rfl) | (dsimp only; rw [hR]; rfl)) (by decide) (by omega) (by omega) (hW.2.2.2.1) ?_
  refine k_istore_n i_118_6 (Nat.le_of_ble_eq_true rfl) ?_
  dsimp only [q_st1, q_st2, q_unl]
  refine k_iload_n i_118_7 rfl ?_
  refine k_if_le (t := 15) i_118_8 rfl (by omega) (fun h => ?_) (fun h => ?_)
  · refine k_iconst i_118_15 ?_
    refine k_istore_n i_118_16 (Nat.le_of_ble_eq_true rfl) ?_
    dsimp only [q_st1, q_st2, q_unl]
    refine k_aload_n i_118_17 rfl ?_
    refine k_gfR i_118_18 f_12_29 (by first | rfl | assumption | (rw [hR]; rfl) | (dsimp only; rw [hR]; rfl)) (by decide) (by decide) (Or.inr ⟨_, rfl⟩) (by first | rfl | assumption | (rw [hR]; rfl) | (dsimp only; rw [hR]; rfl)) ?_
    refine k_iconst i_118_21 ?_
    refine k_iald i_118_22 (n := 390) rfl (by decide) (by omega) (by omega) ?_
    refine k_istore_n i_118_23 (Nat.le_of_ble_eq_true rfl) ?_
    dsimp only [q_st1, q_st2, q_unl]
    refine k_iload_n i_118_24 rfl ?_
    refine k_iconst i_118_25 ?_
    refine k_isub i_118_26 ?_
    refine k_istore i_118_27 (Nat.le_of_ble_eq_true rfl) ?_
    dsimp only [q_st1, q_st2, q_unl]
    refine k_iload i_118_29 rfl ?_
    refine k_if_le (t := 94) i_118_31 rfl (by omega) (fun h => ?_) (fun h => ?_)
    · refine k_iload_n i_118_94 rfl ?_
      refine k_iret i_118_95 qt_118 ?_
      exact ⟨by unfold wLr; rw [if_pos (by omega)], rfl⟩
    · omega
  · refine k_iconst i_118_11 ?_
    refine k_goto (t := 16) i_118_12 rfl ?_
    refine k_istore_n i_118_16 (Nat.le_of_ble_eq_true rfl) ?_
    dsimp only [q_st1, q_st2, q_unl]
    refine k_aload_n i_118_17 rfl ?_
    refine k_gfR i_118_18 f_12_29 (by first | rfl | assumption | (rw [hR]; rfl) | (dsimp only; rw [hR]; rfl)) (by decide) (by decide) (Or.inr ⟨_, rfl⟩) (by first | rfl | assumption | (rw [hR]; rfl) | (dsimp only; rw [hR]; rfl)) ?_
    refine k_iconst i_118_21 ?_
    refine k_ialV (a := k.pos) i_118_22 (by first | rfl | assumption | (rw [hR]; rfl) | (dsimp only; rw [hR]; rfl)) (by decide) (by omega) (by omega) (by refine hW.1.trans ?_; rw [if_neg (by rcases hk.pos with z | z; omega; have := open_lt z; omega)]) ?_
    refine k_istore_n i_118_23 (Nat.le_of_ble_eq_true rfl) ?_
    dsimp only [q_st1, q_st2, q_unl]
    refine k_iload_n i_118_24 rfl ?_
    refine k_iconst i_118_25 ?_
    refine k_isub i_118_26 ?_
    refine k_istore i_118_27 (Nat.le_of_ble_eq_true rfl) ?_
    dsimp only [q_st1, q_st2, q_unl]
    have h1 := l_runNow (d := d) hT hR hOK hW hk (by omega) (k.n - 1) 1 (by omega) (by omega) (by unfold wLr; rw [if_neg (by omega)]; omega)
    rw [show k.n - 1 + 1 = k.n by omega, hk.end_, show ((k.n - 1 : Nat) : Int) = (k.n : Int) - 1 by omega] at h1
    exact h1
end WC
