/-! CALLS: keep, back -/
theorem k_bald2 {sh : QH} {d j pc o : Nat} {ls : QL} {st : List Value} {S : QS} {Q : Option Value → QS → Prop} {c n : Nat} {i a : Int} (hd : q_dec j pc = some (o, .baload, 1)) (hs : sh[c]? = some (102, n)) (hn : (n : Int) < 2147483648) (h0 : 0 ≤ i) (h1 : i < n) (hv : S.1 c i.toNat = a) (kk : K sh d j (pc + 1) ls (.int (J a) :: st) S Q) : K sh d j pc ls (.int (J i) :: .ref c :: st) S Q := k_zald hd hs hn h0 h1 (by rw [hv]; exact kk)
section TG
variable {σ : Sg} {h0 s0 w0 d n : Nat} {I : Nat → Nat → Int} {X : XX} {I2 : Nat → Nat → Int} {X2 : XX}
-- method 95: StraightTax.isImage.(I)Z
theorem e_isImage {sh : QH} {S : QS} (v : Int) (hv : inJ v) : KP sh d 95 [.int (J v)] S (.int (J (bi (decide (0 ≤ v ∧ v < 2))))) := by
  refine k_start ql_95 (Nat.le_of_ble_eq_true rfl) ?_
  simp only [q_en, List.replicate]
  refine k_iload_n i_95_0 rfl ?_
  refine k_if_lt (t := 13) i_95_1 rfl (by omega) (fun h1 => ?_) (fun h1 => ?_)
  · refine k_iconst i_95_13 ?_
    refine k_nret i_95_14 qt_95 (by first | exact bi_nar _ | rfl) ?_
    exact ⟨by congr 3; simp [bi]; omega, rfl⟩
  · refine k_iload_n i_95_4 rfl ?_
    refine k_iconst i_95_5 ?_
    refine k_ic_ge (t := 13) i_95_6 rfl (by omega) (by omega) (fun h6 => ?_) (fun h6 => ?_)
    · refine k_iconst i_95_13 ?_
      refine k_nret i_95_14 qt_95 (by first | exact bi_nar _ | rfl) ?_
      exact ⟨by congr 3; simp [bi]; omega, rfl⟩
    · refine k_iconst i_95_9 ?_
      refine k_goto (t := 14) i_95_10 rfl ?_
      refine k_nret i_95_14 qt_95 (by first | exact bi_nar _ | rfl) ?_
      exact ⟨by congr 3; simp [bi]; omega, rfl⟩
-- method 45: StraightTax$Walk.become.(LStraightTax$Walk;)V
theorem e_become {c1 c0 : Nat} {k : Wk} (hW : XWk I c0 k) (h60 : k.n ≤ 60) (hnt : k.nt = 0 ∨ k.nt = 1) (hap : c0 + 4 < c1 ∨ c1 + 4 < c0)
    (a0 : shX[c0]? = some (8, 8)) (b0 : shX[c1]? = some (8, 8))
    (a1 : shX[c0 + 1]? = some (100, 60)) (a2 : shX[c0 + 2]? = some (100, 60)) (a3 : shX[c0 + 3]? = some (100, 60)) (a4 : shX[c0 + 4]? = some (100, 60))
    (b1 : shX[c1 + 1]? = some (100, 60)) (b2 : shX[c1 + 2]? = some (100, 60)) (b3 : shX[c1 + 3]? = some (100, 60)) (b4 : shX[c1 + 4]? = some (100, 60))
    (f1 : X.2 c0 4 = some (c0 + 1)) (f2 : X.2 c0 5 = some (c0 + 2)) (f3 : X.2 c0 6 = some (c0 + 3)) (f4 : X.2 c0 7 = some (c0 + 4))
    (g1 : X.2 c1 4 = some (c1 + 1)) (g2 : X.2 c1 5 = some (c1 + 2)) (g3 : X.2 c1 6 = some (c1 + 3)) (g4 : X.2 c1 7 = some (c1 + 4)) : KC shX d 45 [.ref c1, .ref c0] (I, X) (fun r S2 => r = none ∧ ∃ I', S2 = (I', X) ∧ (∀ c, (c < c1 ∨ c1 + 4 < c) → I' c = I c) ∧ XWk I' c1 k) := by
  obtain ⟨w1, w2, w3, w4, w5⟩ := hW
  refine k_start ql_45 (Nat.le_of_ble_eq_true rfl) ?_
  simp only [q_en, List.replicate]
  refine k_aload_n i_45_0 rfl ?_
  refine k_aload_n i_45_1 rfl ?_
  refine k_gfV (a := k.pos) i_45_2 f_8_9 (by first | rfl | assumption | (rw [hR]; rfl) | (dsimp only; rw [hR]; rfl)) (by decide) (by decide) (Or.inl rfl) (w1) ?_
  refine k_pfI i_45_5 f_8_9 (by first | rfl | assumption | (rw [hR]; rfl) | (dsimp only; rw [hR]; rfl)) (by decide) rfl ?_
  refine k_aload_n i_45_8 rfl ?_
  refine k_aload_n i_45_9 rfl ?_
  refine k_gfV (a := k.paid) i_45_10 f_8_15 (by first | rfl | assumption | (rw [hR]; rfl) | (dsimp only; rw [hR]; rfl)) (by decide) (by decide) (Or.inl rfl) ((q_up_n (by omega)).trans w2) ?_
  refine k_pfI i_45_13 f_8_15 (by first | rfl | assumption | (rw [hR]; rfl) | (dsimp only; rw [hR]; rfl)) (by decide) rfl ?_
  refine k_aload_n i_45_16 rfl ?_
  refine k_aload_n i_45_17 rfl ?_
  refine k_gfV (a := (k.n : Int)) i_45_18 f_8_18 (by first | rfl | assumption | (rw [hR]; rfl) | (dsimp only; rw [hR]; rfl)) (by decide) (by decide) (Or.inl rfl) ((q_up_n (by omega)).trans ((q_up_n (by omega)).trans w3)) ?_
  refine k_pfI i_45_21 f_8_18 (by first | rfl | assumption | (rw [hR]; rfl) | (dsimp only; rw [hR]; rfl)) (by decide) rfl ?_
  refine k_aload_n i_45_24 rfl ?_
  refine k_aload_n i_45_25 rfl ?_
  refine k_gfV (a := k.nt) i_45_26 f_8_21 (by first | rfl | assumption | (rw [hR]; rfl) | (dsimp only; rw [hR]; rfl)) (by decide) (by decide) (Or.inr rfl) ((q_up_n (by omega)).trans ((q_up_n (by omega)).trans ((q_up_n (by omega)).trans w4))) ?_
  refine k_pfZ i_45_29 f_8_21 (by first | rfl | assumption | (rw [hR]; rfl) | (dsimp only; rw [hR]; rfl)) (by decide) rfl (by first | exact bi_01 _ | omega) ?_
  refine k_aload_n i_45_32 rfl ?_
  refine k_gfR i_45_33 f_8_25 (by first | rfl | assumption | (rw [hR]; rfl) | (dsimp only; rw [hR]; rfl)) (by decide) (by decide) (Or.inr ⟨_, rfl⟩) (by first | rfl | assumption | (rw [hR]; rfl) | (dsimp only; rw [hR]; rfl)) ?_
  refine k_iconst i_45_36 ?_
  refine k_aload_n i_45_37 rfl ?_
  refine k_gfR i_45_38 f_8_25 (by first | rfl | assumption | (rw [hR]; rfl) | (dsimp only; rw [hR]; rfl)) (by decide) (by decide) (Or.inr ⟨_, rfl⟩) (by first | rfl | assumption | (rw [hR]; rfl) | (dsimp only; rw [hR]; rfl)) ?_
  refine k_iconst i_45_41 ?_
  refine k_bipush i_45_42 (by decide) ?_
  refine k_cpy i_45_44 c_8_38 (by first | rfl | assumption | (rw [hR]; rfl) | (dsimp only; rw [hR]; rfl)) (by first | rfl | assumption | (rw [hR]; rfl) | (dsimp only; rw [hR]; rfl)) (Nat.le_of_ble_eq_true rfl) ?_
  refine k_aload_n i_45_47 rfl ?_
  refine k_gfR i_45_48 f_8_29 (by first | rfl | assumption | (rw [hR]; rfl) | (dsimp only; rw [hR]; rfl)) (by decide) (by decide) (Or.inr ⟨_, rfl⟩) (by first | rfl | assumption | (rw [hR]; rfl) | (dsimp only; rw [hR]; rfl)) ?_
  refine k_iconst i_45_51 ?_
  refine k_aload_n i_45_52 rfl ?_
  refine k_gfR i_45_53 f_8_29 (by first | rfl | assumption | (rw [hR]; rfl) | (dsimp only; rw [hR]; rfl)) (by decide) (by decide) (Or.inr ⟨_, rfl⟩) (by first | rfl | assumption | (rw [hR]; rfl) | (dsimp only; rw [hR]; rfl)) ?_
  refine k_iconst i_45_56 ?_
  refine k_bipush i_45_57 (by decide) ?_
  refine k_cpy i_45_59 c_8_38 (by first | rfl | assumption | (rw [hR]; rfl) | (dsimp only; rw [hR]; rfl)) (by first | rfl | assumption | (rw [hR]; rfl) | (dsimp only; rw [hR]; rfl)) (Nat.le_of_ble_eq_true rfl) ?_
  refine k_aload_n i_45_62 rfl ?_
  refine k_gfR i_45_63 f_8_32 (by first | rfl | assumption | (rw [hR]; rfl) | (dsimp only; rw [hR]; rfl)) (by decide) (by decide) (Or.inr ⟨_, rfl⟩) (by first | rfl | assumption | (rw [hR]; rfl) | (dsimp only; rw [hR]; rfl)) ?_
  refine k_iconst i_45_66 ?_
  refine k_aload_n i_45_67 rfl ?_
  refine k_gfR i_45_68 f_8_32 (by first | rfl | assumption | (rw [hR]; rfl) | (dsimp only; rw [hR]; rfl)) (by decide) (by decide) (Or.inr ⟨_, rfl⟩) (by first | rfl | assumption | (rw [hR]; rfl) | (dsimp only; rw [hR]; rfl)) ?_
  refine k_iconst i_45_71 ?_
  refine k_bipush i_45_72 (by decide) ?_
  refine k_cpy i_45_74 c_8_38 (by first | rfl | assumption | (rw [hR]; rfl) | (dsimp only; rw [hR]; rfl)) (by first | rfl | assumption | (rw [hR]; rfl) | (dsimp only; rw [hR]; rfl)) (Nat.le_of_ble_eq_true rfl) ?_
  refine k_aload_n i_45_77 rfl ?_
  refine k_gfR i_45_78 f_8_35 (by first | rfl | assumption | (rw [hR]; rfl) | (dsimp only; rw [hR]; rfl)) (by decide) (by decide) (Or.inr ⟨_, rfl⟩) (by first | rfl | assumption | (rw [hR]; rfl) | (dsimp only; rw [hR]; rfl)) ?_
  refine k_iconst i_45_81 ?_
  refine k_aload_n i_45_82 rfl ?_
  refine k_gfR i_45_83 f_8_35 (by first | rfl | assumption | (rw [hR]; rfl) | (dsimp only; rw [hR]; rfl)) (by decide) (by decide) (Or.inr ⟨_, rfl⟩) (by first | rfl | assumption | (rw [hR]; rfl) | (dsimp only; rw [hR]; rfl)) ?_
  refine k_iconst i_45_86 ?_
  refine k_bipush i_45_87 (by decide) ?_
  refine k_cpy i_45_89 c_8_38 (by first | rfl | assumption | (rw [hR]; rfl) | (dsimp only; rw [hR]; rfl)) (by first | rfl | assumption | (rw [hR]; rfl) | (dsimp only; rw [hR]; rfl)) (Nat.le_of_ble_eq_true rfl) ?_
  refine k_vret i_45_92 qt_45 ?_
  refine ⟨rfl, _, rfl, fun c hc => ?_, ?_⟩
  · dsimp only
    rw [q_c60_o (by omega), q_c60_o (by omega), q_c60_o (by omega), q_c60_o (by omega), q_up_o (by omega), q_up_o (by omega), q_up_o (by omega), q_up_o (by omega)]
  · refine ⟨?_, ?_, ?_, ?_, fun i hi => ?_⟩
    · dsimp only
      rw [q_c60_o (by omega), q_c60_o (by omega), q_c60_o (by omega), q_c60_o (by omega), q_up_n (by omega), q_up_n (by omega), q_up_n (by omega), q_up_s]
    · dsimp only
      rw [q_c60_o (by omega), q_c60_o (by omega), q_c60_o (by omega), q_c60_o (by omega), q_up_n (by omega), q_up_n (by omega), q_up_s]
    · dsimp only
      rw [q_c60_o (by omega), q_c60_o (by omega), q_c60_o (by omega), q_c60_o (by omega), q_up_n (by omega), q_up_s]
    · dsimp only
      rw [q_c60_o (by omega), q_c60_o (by omega), q_c60_o (by omega), q_c60_o (by omega), q_up_s]
    · obtain ⟨y1, y2, y3, y4⟩ := w5 i hi
      refine ⟨?_, ?_, ?_, ?_⟩
      · dsimp only
        rw [q_c60_o (by omega), q_c60_o (by omega), q_c60_o (by omega), q_c60_s (by omega), q_up_o (by omega), q_up_o (by omega), q_up_o (by omega), q_up_o (by omega)]
        exact y1
      · dsimp only
        rw [q_c60_o (by omega), q_c60_o (by omega), q_c60_s (by omega), q_c60_o (by omega), q_up_o (by omega), q_up_o (by omega), q_up_o (by omega), q_up_o (by omega)]
        exact y2
      · dsimp only
        rw [q_c60_o (by omega), q_c60_s (by omega), q_c60_o (by omega), q_c60_o (by omega), q_up_o (by omega), q_up_o (by omega), q_up_o (by omega), q_up_o (by omega)]
        exact y3
      · dsimp only
        rw [q_c60_s (by omega), q_c60_o (by omega), q_c60_o (by omega), q_c60_o (by omega), q_up_o (by omega), q_up_o (by omega), q_up_o (by omega), q_up_o (by omega)]
        exact y4
/-- the reference's copy of a walk -/
def cpm (I : Nat → Nat → Int) (f t k : Nat) : Nat → Nat → Int := fun c i => if c = 2 ∧ t ≤ i ∧ i < t + k then I 2 (f + (i - t)) else I c i
theorem cpm_o {f t k c : Nat} (h : c ≠ 2) : cpm I f t k c = I c := by
  funext i
  exact if_neg (fun y => h y.1)
theorem cpm_n {f t k i : Nat} (h : i < t ∨ t + k ≤ i) : cpm I f t k 2 i = I 2 i := if_neg (by omega)
theorem cpm_s {f t k i : Nat} (h : i < k) : cpm I f t k 2 (t + i) = I 2 (f + i) := by
  unfold cpm
  rw [if_pos (by omega), show t + i - t = i by omega]
theorem cpm_step {f t k : Nat} (h : f + 130 ≤ t ∨ t + 130 ≤ f) (hk : k < 130) : q_up (cpm I f t k) 2 (t + k) (I 2 (f + k)) = cpm I f t (k + 1) := by
  funext c i
  unfold q_up
  by_cases z : c = 2 ∧ i = t + k
  · obtain ⟨rfl, rfl⟩ := z
    rw [if_pos ⟨rfl, rfl⟩, cpm_s (by omega)]
  · rw [if_neg z]
    unfold cpm
    by_cases y : c = 2 ∧ t ≤ i ∧ i < t + k
    · rw [if_pos y, if_pos (by omega)]
    · rw [if_neg y, if_neg (by omega)]
-- method 144: StraightTaxModel.copy.(II)V
theorem l_copy (hR : X.2 = rM) {f t : Nat} (hf : f ≤ 260) (ht : t ≤ 260) (h : f + 130 ≤ t ∨ t + 130 ≤ f) : ∀ (m k : Nat), k + m = 130 → K shM d 144 2 [some (.ref 0), some (.int (J (f : Int))), some (.int (J (t : Int))), some (.int (J (k : Int)))] [] (cpm I f t k, X) (fun r S2 => r = none ∧ S2 = (cpm I f t 130, X)) := by
  intro m
  induction m with
  | zero =>
    intro k hk
    refine k_iload_n i_144_2 rfl ?_
    refine k_sipush i_144_3 (by decide) ?_
    refine k_ic_ge (t := 31) i_144_6 rfl (by omega) (by omega) (fun g => ?_) (fun g => ?_)
    · refine k_vret i_144_31 qt_144 ?_
      exact ⟨rfl, by rw [show k = 130 by omega]⟩
    · omega
  | succ m ih =>
    intro k hk
    refine k_iload_n i_144_2 rfl ?_
    refine k_sipush i_144_3 (by decide) ?_
    refine k_ic_ge (t := 31) i_144_6 rfl (by omega) (by omega) (fun g => ?_) (fun g => ?_)
    · omega
    · refine k_aload_n i_144_9 rfl ?_
      refine k_gfR i_144_10 f_12_29 (by first | rfl | assumption | (rw [hR]; rfl) | (dsimp only; rw [hR]; rfl)) (by decide) (by decide) (Or.inr ⟨_, rfl⟩) (by first | rfl | assumption | (rw [hR]; rfl) | (dsimp only; rw [hR]; rfl)) ?_
      refine k_iload_n i_144_13 rfl ?_
      refine k_iload_n i_144_14 rfl ?_
      refine k_iadd i_144_15 ?_
      refine k_aload_n i_144_16 rfl ?_
      refine k_gfR i_144_17 f_12_29 (by first | rfl | assumption | (rw [hR]; rfl) | (dsimp only; rw [hR]; rfl)) (by decide) (by decide) (Or.inr ⟨_, rfl⟩) (by first | rfl | assumption | (rw [hR]; rfl) | (dsimp only; rw [hR]; rfl)) ?_
      refine k_iload_n i_144_20 rfl ?_
      refine k_iload_n i_144_21 rfl ?_
      refine k_iadd i_144_22 ?_
      refine k_ialV (a := (I 2 (f + k))) i_144_23 (by first | rfl | assumption | (rw [hR]; rfl) | (dsimp only; rw [hR]; rfl)) (by decide) (by omega) (by omega) (by rw [show ((f : Int) + (k : Int)).toNat = f + k by omega]; exact cpm_n (by omega)) ?_
      refine k_iast i_144_24 (by first | rfl | assumption | (rw [hR]; rfl) | (dsimp only; rw [hR]; rfl)) (by decide) (by omega) (by omega) ?_
      rw [show ((t : Int) + (k : Int)).toNat = t + k by omega]
      dsimp only
      rw [cpm_step h (by omega)]
      refine k_iinc i_144_25 rfl (Nat.le_of_ble_eq_true rfl) ?_
      dsimp only [q_st1, q_st2, q_unl]
      refine k_goto (t := 2) i_144_28 rfl ?_
      exact ih (k + 1) (by omega)
theorem m_copy (hR : X.2 = rM) {f t : Nat} (hf : f ≤ 260) (ht : t ≤ 260) (h : f + 130 ≤ t ∨ t + 130 ≤ f) : KC shM d 144 [.ref 0, .int (J (f : Int)), .int (J (t : Int))] (I, X) (fun r S2 => r = none ∧ S2 = (cpm I f t 130, X)) := by
  have e : cpm I f t 0 = I := by
    funext c i
    exact if_neg (by omega)
  refine k_start ql_144 (Nat.le_of_ble_eq_true rfl) ?_
  simp only [q_en, List.replicate]
  refine k_iconst i_144_0 ?_
  refine k_istore_n i_144_1 (Nat.le_of_ble_eq_true rfl) ?_
  dsimp only [q_st1, q_st2, q_unl]
  have := l_copy (d := d) (I := I) hR hf ht h 130 0 (by omega)
  rw [e] at this
  exact this
theorem MWk.copy {f t : Nat} {k : Wk} (hW : MWk I f k) (h60 : k.n ≤ 60) : MWk (cpm I f t 130) t k := by
  obtain ⟨w1, w2, w3, w4, w5⟩ := hW
  have e : ∀ i, i < 130 → cpm I f t 130 2 (t + i) = I 2 (f + i) := fun i hi => cpm_s hi
  refine ⟨(e 0 (by omega)).trans w1, (e 1 (by omega)).trans w2, (e 2 (by omega)).trans w3, (e 3 (by omega)).trans w4, fun i hi => ⟨?_, ?_⟩⟩
  · have := e (4 + i) (by omega)
    rw [← Nat.add_assoc, ← Nat.add_assoc] at this
    exact this.trans (w5 i hi).1
  · have := e (66 + i) (by omega)
    rw [← Nat.add_assoc, ← Nat.add_assoc] at this
    exact this.trans (w5 i hi).2
abbrev Sg.setI (s : Sg) (i : Nat) (w : Wk) : Sg := (s.T, s.tl, s.tb, s.w, (fun j => if j = i then true else s.kp j), (fun j => if j = i then w else s.im j), s.en, s.fr, s.to, s.mk)
theorem t_keep (hX : XI σ h0 s0 w0 I X) (hM : MI σ I2 X2) (hS : SOK σ) (a : Int) (ha : inJ a) : Both σ h0 s0 w0 I X I2 X2 94 143 [.int (J a)] := by
  have hR := hX.rf
  have hR2 := hM.rf
  have hwk := hX.wk
  have hmk := hM.wk
  have h60 := hS.wk.n60
  by_cases z : 0 ≤ a ∧ a < 2
  · obtain ⟨i, hi, rfl⟩ : ∃ i : Nat, i < 2 ∧ a = (i : Int) := ⟨a.toNat, by omega, by omega⟩
    refine ⟨.int (J (σ.w.n : Int)), σ.setI i σ.w, ⟨hS.ok, hS.tl, hS.tb, hS.wk, fun j hj hk => ?_, hS.er⟩, ?_, ?_⟩
    · change (if j = i then true else σ.kp j) = true at hk
      show WkOK σ.T (if j = i then σ.w else σ.im j)
      by_cases y : j = i
      · rw [if_pos y]; exact hS.wk
      · rw [if_neg y] at hk ⊢
        exact hS.im j hj hk
    · unfold OX
-- method 94: StraightTax.keep.(I)I
      refine k_start ql_94 (Nat.le_of_ble_eq_true rfl) ?_
      simp only [q_en, List.replicate]
      refine k_iload_n i_94_0 rfl ?_
      refine k_sp1 i_94_1 c_11_249 (by decide) qp_95 (Nat.le_of_ble_eq_true rfl) (e_isImage _ ha) ?_
      refine k_if_neB (t := 9) i_94_4 rfl (fun h => ?_) (fun h => ?_)
      · refine k_aload_n i_94_9 rfl ?_
        refine k_gfR i_94_10 f_11_23 (by first | rfl | assumption | (rw [hR]; rfl) | (dsimp only; rw [hR]; rfl)) (by decide) (by decide) (Or.inr ⟨_, rfl⟩) (by first | rfl | assumption | (rw [hR]; rfl) | (dsimp only; rw [hR]; rfl)) ?_
        refine k_iload_n i_94_13 rfl ?_
        refine k_aald (a := 9 + 5 * i) i_94_14 rfl (Or.inl rfl) (by decide) (by omega) (by omega) ?_ (by omega) ?_
        · show X.2 8 (i : Int).toNat = _
          rw [hR]
          have : i = 0 ∨ i = 1 := by omega
          rcases this with rfl | rfl <;> rfl
        refine k_aload_n i_94_15 rfl ?_
        refine k_gfR i_94_16 f_11_19 (by first | rfl | assumption | (rw [hR]; rfl) | (dsimp only; rw [hR]; rfl)) (by decide) (by decide) (Or.inl ⟨_, rfl⟩) (by first | rfl | assumption | (rw [hR]; rfl) | (dsimp only; rw [hR]; rfl)) ?_
        have hb : KC shX 20 45 [.ref (9 + 5 * i), .ref 3] (I, X) (fun r S2 => r = none ∧ ∃ I', S2 = (I', X) ∧ (∀ c, (c < 9 + 5 * i ∨ 9 + 5 * i + 4 < c) → I' c = I c) ∧ XWk I' (9 + 5 * i) σ.w) := by
          have : i = 0 ∨ i = 1 := by omega
          rcases this with rfl | rfl
          · exact e_become hwk h60 hS.wk.nt01 (by omega) rfl rfl rfl rfl rfl rfl rfl rfl rfl rfl (by rw [hR]; rfl) (by rw [hR]; rfl) (by rw [hR]; rfl) (by rw [hR]; rfl) (by rw [hR]; rfl) (by rw [hR]; rfl) (by rw [hR]; rfl) (by rw [hR]; rfl)
          · exact e_become hwk h60 hS.wk.nt01 (by omega) rfl rfl rfl rfl rfl rfl rfl rfl rfl rfl (by rw [hR]; rfl) (by rw [hR]; rfl) (by rw [hR]; rfl) (by rw [hR]; rfl) (by rw [hR]; rfl) (by rw [hR]; rfl) (by rw [hR]; rfl) (by rw [hR]; rfl)
        have hs9 : shX[9 + 5 * i]? = some (8, 8) := by
          have : i = 0 ∨ i = 1 := by omega
          rcases this with rfl | rfl <;> rfl
        refine k_cv1 i_94_19 c_11_252 qp_45 qo_45 (by first | rfl | assumption | (rw [hR]; rfl) | (dsimp only; rw [hR]; rfl)) (Nat.le_of_ble_eq_true rfl) hb (fun v S2 h => ?_)
        obtain ⟨rfl, I', rfl, e1, e2⟩ := h
        show K shX 21 94 22 _ [] _ _
        refine k_aload_n i_94_22 rfl ?_
        refine k_gfR i_94_23 f_11_27 (by first | rfl | assumption | (rw [hR]; rfl) | (dsimp only; rw [hR]; rfl)) (by decide) (by decide) (Or.inr ⟨_, rfl⟩) (by first | rfl | assumption | (rw [hR]; rfl) | (dsimp only; rw [hR]; rfl)) ?_
        refine k_iload_n i_94_26 rfl ?_
        refine k_iconst i_94_27 ?_
        refine k_zast i_94_28 rfl (by decide) (by omega) (by omega) (Or.inr rfl) ?_
        refine k_aload_n i_94_29 rfl ?_
        refine k_gfR i_94_30 f_11_19 (by first | rfl | assumption | (rw [hR]; rfl) | (dsimp only; rw [hR]; rfl)) (by decide) (by decide) (Or.inl ⟨_, rfl⟩) (by first | rfl | assumption | (rw [hR]; rfl) | (dsimp only; rw [hR]; rfl)) ?_
        refine k_gfV (a := (σ.w.n : Int)) i_94_33 f_11_142 (by first | rfl | assumption | (rw [hR]; rfl) | (dsimp only; rw [hR]; rfl)) (by decide) (by decide) (Or.inl rfl) (by dsimp only; rw [q_up_o (by omega), e1 3 (by omega)]; exact hwk.2.2.1) ?_
        refine k_iret i_94_36 qt_94 ?_
        have ei : ((i : Int)).toNat = i := by omega
        have ec : ∀ c, c ≠ 19 → (c < 9 + 5 * i ∨ 9 + 5 * i + 4 < c) → q_up I' 19 ((i : Int)).toNat 1 c = I c := fun c h1 h2 => (q_up_o h1).trans (e1 c h2)
        refine ⟨rfl, _, _, _, hX.upd (L := X.1) rfl (fun c hc => ec c (by omega) (by omega)) ?_ ?_ (hwk.same (fun k hk => ec _ (by omega) (by omega))) (fun j hj => ⟨?_, fun hk => ?_⟩) (hX.er.sc (fun c hc' => ec c (by omega) (by omega))) hX.mk⟩
        · dsimp only; rw [ec 1 (by omega) (by omega)]; exact hX.tl
        · dsimp only; rw [ec 2 (by omega) (by omega)]; exact hX.tb
        · show q_up I' 19 ((i : Int)).toNat 1 19 j = bi (if j = i then true else σ.kp j)
          rw [ei]
          by_cases y : j = i
          · subst y
            rw [q_up_s, if_pos rfl]; rfl
          · rw [q_up_n (by omega), if_neg y, e1 19 (by omega)]
            exact (hX.kp j hj).1
        · change (if j = i then true else σ.kp j) = true at hk
          show XWk _ (9 + 5 * j) (if j = i then σ.w else σ.im j)
          by_cases y : j = i
          · subst y
            rw [if_pos rfl]
            exact e2.same (fun k hk => q_up_o (by omega))
          · rw [if_neg y] at hk ⊢
            exact ((hX.kp j hj).2 hk).same (fun k hk => ec _ (by omega) (by omega))
      · rw [decide_eq_true z] at h; cases h
    · have hR := hR2
      unfold OM
-- method 143: StraightTaxModel.keep.(I)I
      refine k_start ql_143 (Nat.le_of_ble_eq_true rfl) ?_
      simp only [q_en, List.replicate]
      refine k_iload_n i_143_0 rfl ?_
      refine k_i2lJ i_143_1 (by omega) ?_
      refine k_lconstJ (a := 0) i_143_2 rfl ?_
      refine k_lconstJ (a := 1) i_143_3 rfl ?_
      refine k_sp3 i_143_4 c_12_72 (by decide) qp_100 (Nat.le_of_ble_eq_true rfl) (m_in _ _ _ (by omega) (by omega) (by omega)) ?_
      refine k_if_neB (t := 12) i_143_7 rfl (fun h => ?_) (fun h => ?_)
      · refine k_aload_n i_143_12 rfl ?_
        refine k_iconst i_143_13 ?_
        refine k_sipush i_143_14 (by decide) ?_
        refine k_iconst i_143_17 ?_
        refine k_iload_n i_143_18 rfl ?_
        refine k_iadd i_143_19 ?_
        refine k_imul i_143_20 ?_
        rw [show (130 : Int) * (1 + (i : Int)) = ((130 * (1 + i) : Nat) : Int) by omega]
        refine k_cv2 i_143_21 c_12_244 qp_144 qo_144 (by first | rfl | assumption | (rw [hR]; rfl) | (dsimp only; rw [hR]; rfl)) (Nat.le_of_ble_eq_true rfl) (m_copy (f := 0) hR (by omega) (by omega) (by omega)) (fun v S2 h => ?_)
        obtain ⟨rfl, rfl⟩ := h
        show K shM 21 143 24 _ [] _ _
        refine k_aload_n i_143_24 rfl ?_
        refine k_gfR i_143_25 f_12_32 (by first | rfl | assumption | (rw [hR]; rfl) | (dsimp only; rw [hR]; rfl)) (by decide) (by decide) (Or.inr ⟨_, rfl⟩) (by first | rfl | assumption | (rw [hR]; rfl) | (dsimp only; rw [hR]; rfl)) ?_
        refine k_iload_n i_143_28 rfl ?_
        refine k_iconst i_143_29 ?_
        refine k_zast i_143_30 rfl (by decide) (by omega) (by omega) (Or.inr rfl) ?_
        refine k_aload_n i_143_31 rfl ?_
        refine k_gfR i_143_32 f_12_29 (by first | rfl | assumption | (rw [hR]; rfl) | (dsimp only; rw [hR]; rfl)) (by decide) (by decide) (Or.inr ⟨_, rfl⟩) (by first | rfl | assumption | (rw [hR]; rfl) | (dsimp only; rw [hR]; rfl)) ?_
        refine k_iconst i_143_35 ?_
        refine k_ialV (a := (σ.w.n : Int)) i_143_36 (by first | rfl | assumption | (rw [hR]; rfl) | (dsimp only; rw [hR]; rfl)) (by decide) (by omega) (by omega) (by dsimp only; rw [q_up_o (by omega)]; exact (cpm_n (by omega)).trans hmk.2.2.2.1) ?_
        refine k_iret i_143_37 qt_143 ?_
        have ei : ((i : Int)).toNat = i := by omega
        have e2 : q_up (cpm I2 0 (130 * (1 + i)) 130) 3 ((i : Int)).toNat 1 2 = cpm I2 0 (130 * (1 + i)) 130 2 := q_up_o (by omega)
        have ec : ∀ c, c ≠ 2 → c ≠ 3 → q_up (cpm I2 0 (130 * (1 + i)) 130) 3 ((i : Int)).toNat 1 c = I2 c := fun c h1 h2 => (q_up_o h2).trans (cpm_o h1)
        refine ⟨rfl, hM.upd (L := X2.1) rfl (fun k hk => by dsimp only; rw [ec 0 (by omega) (by omega)]) ?_ ?_ ?_ (fun j hj => ⟨?_, fun hk => ?_⟩) ?_ hM.mk⟩
        · dsimp only; rw [ec 0 (by omega) (by omega)]; exact hM.tl
        · dsimp only; rw [ec 1 (by omega) (by omega)]; exact hM.tb
        · exact hmk.same2 (fun k h1 h2 => by dsimp only; rw [e2]; exact cpm_n (by omega)) h60
        · show q_up (cpm I2 0 (130 * (1 + i)) 130) 3 ((i : Int)).toNat 1 3 j = bi (if j = i then true else σ.kp j)
          rw [ei]
          by_cases y : j = i
          · subst y
            rw [q_up_s, if_pos rfl]; rfl
          · rw [q_up_n (by omega), if_neg y, cpm_o (by omega)]
            exact (hM.kp j hj).1
        · change (if j = i then true else σ.kp j) = true at hk
          show MWk _ (130 * (1 + j)) (if j = i then σ.w else σ.im j)
          by_cases y : j = i
          · subst y
            rw [if_pos rfl]
            exact (hmk.copy h60).same e2
          · rw [if_neg y] at hk ⊢
            exact ((hM.kp j hj).2 hk).same2 (fun k h1 h2 => by dsimp only; rw [e2]; exact cpm_n (by omega)) (hS.im j hj hk).n60
        · have h1 := hM.er
          unfold MEr at h1 ⊢
          dsimp only
          rw [ec 0 (by omega) (by omega), ec 4 (by omega) (by omega), ec 5 (by omega) (by omega)]
          exact h1
      · rw [decide_eq_true (by omega)] at h; cases h
  · refine ⟨.int (J (-1)), σ, hS, ?_, ?_⟩
    · unfold OX
-- method 94: StraightTax.keep.(I)I
      refine k_start ql_94 (Nat.le_of_ble_eq_true rfl) ?_
      simp only [q_en, List.replicate]
      refine k_iload_n i_94_0 rfl ?_
      refine k_sp1 i_94_1 c_11_249 (by decide) qp_95 (Nat.le_of_ble_eq_true rfl) (e_isImage _ ha) ?_
      refine k_if_neB (t := 9) i_94_4 rfl (fun h => ?_) (fun h => ?_)
      · rw [decide_eq_false z] at h; cases h
      · refine k_iconst i_94_7 ?_
        refine k_iret i_94_8 qt_94 ?_
        exact ⟨rfl, _, _, _, hX⟩
    · have hR := hR2
      unfold OM
-- method 143: StraightTaxModel.keep.(I)I
      refine k_start ql_143 (Nat.le_of_ble_eq_true rfl) ?_
      simp only [q_en, List.replicate]
      refine k_iload_n i_143_0 rfl ?_
      refine k_i2lJ i_143_1 (by omega) ?_
      refine k_lconstJ (a := 0) i_143_2 rfl ?_
      refine k_lconstJ (a := 1) i_143_3 rfl ?_
      refine k_sp3 i_143_4 c_12_72 (by decide) qp_100 (Nat.le_of_ble_eq_true rfl) (m_in _ _ _ (by omega) (by omega) (by omega)) ?_
      refine k_if_neB (t := 12) i_143_7 rfl (fun h => ?_) (fun h => ?_)
      · rw [decide_eq_false (by omega)] at h; cases h
      · refine k_iconst i_143_10 ?_
        refine k_iret i_143_11 qt_143 ?_
        exact ⟨rfl, hM⟩
theorem t_back (hX : XI σ h0 s0 w0 I X) (hM : MI σ I2 X2) (hS : SOK σ) (a : Int) (ha : inJ a) : Both σ h0 s0 w0 I X I2 X2 96 145 [.int (J a)] := by
  have hR := hX.rf
  have hR2 := hM.rf
  have hwk := hX.wk
  have hmk := hM.wk
  by_cases z : 0 ≤ a ∧ a < 2
  · obtain ⟨i, hi, rfl⟩ : ∃ i : Nat, i < 2 ∧ a = (i : Int) := ⟨a.toNat, by omega, by omega⟩
    have ei : ((i : Int)).toNat = i := by omega
    obtain ⟨kx, hkx⟩ := hX.kp i hi
    obtain ⟨km, hkm⟩ := hM.kp i hi
    cases hk : σ.kp i with
    | true =>
      have hw1 := hkx hk
      have hw2 := hkm hk
      have hW := hS.im i hi hk
      have h60 := hW.n60
      rw [hk] at kx km
      refine ⟨.int (J ((σ.im i).n : Int)), σ.setW (σ.im i), hS.setW hW, ?_, ?_⟩
      · unfold OX
-- method 96: StraightTax.back.(I)I
        refine k_start ql_96 (Nat.le_of_ble_eq_true rfl) ?_
        simp only [q_en, List.replicate]
        refine k_iload_n i_96_0 rfl ?_
        refine k_sp1 i_96_1 c_11_249 (by decide) qp_95 (Nat.le_of_ble_eq_true rfl) (e_isImage _ ha) ?_
        refine k_if_neB (t := 9) i_96_4 rfl (fun h => ?_) (fun h => ?_)
        · refine k_aload_n i_96_9 rfl ?_
          refine k_gfR i_96_10 f_11_27 (by first | rfl | assumption | (rw [hR]; rfl) | (dsimp only; rw [hR]; rfl)) (by decide) (by decide) (Or.inr ⟨_, rfl⟩) (by first | rfl | assumption | (rw [hR]; rfl) | (dsimp only; rw [hR]; rfl)) ?_
          refine k_iload_n i_96_13 rfl ?_
          refine k_bald2 (a := 1) i_96_14 rfl (by decide) (by omega) (by omega) (by rw [ei]; exact kx) ?_
          refine k_if_ne (t := 21) i_96_15 rfl (by omega) (fun h => ?_) (fun h => ?_)
          · refine k_aload_n i_96_21 rfl ?_
            refine k_gfR i_96_22 f_11_19 (by first | rfl | assumption | (rw [hR]; rfl) | (dsimp only; rw [hR]; rfl)) (by decide) (by decide) (Or.inl ⟨_, rfl⟩) (by first | rfl | assumption | (rw [hR]; rfl) | (dsimp only; rw [hR]; rfl)) ?_
            refine k_aload_n i_96_25 rfl ?_
            refine k_gfR i_96_26 f_11_23 (by first | rfl | assumption | (rw [hR]; rfl) | (dsimp only; rw [hR]; rfl)) (by decide) (by decide) (Or.inr ⟨_, rfl⟩) (by first | rfl | assumption | (rw [hR]; rfl) | (dsimp only; rw [hR]; rfl)) ?_
            refine k_iload_n i_96_29 rfl ?_
            refine k_aald (a := 9 + 5 * i) i_96_30 rfl (Or.inl rfl) (by decide) (by omega) (by omega) ?_ (by omega) ?_
            · show X.2 8 (i : Int).toNat = _
              rw [hR]
              have : i = 0 ∨ i = 1 := by omega
              rcases this with rfl | rfl <;> rfl
            have hb : KC shX 20 45 [.ref 3, .ref (9 + 5 * i)] (I, X) (fun r S2 => r = none ∧ ∃ I', S2 = (I', X) ∧ (∀ c, (c < 3 ∨ 3 + 4 < c) → I' c = I c) ∧ XWk I' 3 (σ.im i)) := by
              have : i = 0 ∨ i = 1 := by omega
              rcases this with rfl | rfl
              · exact e_become hw1 h60 hW.nt01 (by omega) rfl rfl rfl rfl rfl rfl rfl rfl rfl rfl (by rw [hR]; rfl) (by rw [hR]; rfl) (by rw [hR]; rfl) (by rw [hR]; rfl) (by rw [hR]; rfl) (by rw [hR]; rfl) (by rw [hR]; rfl) (by rw [hR]; rfl)
              · exact e_become hw1 h60 hW.nt01 (by omega) rfl rfl rfl rfl rfl rfl rfl rfl rfl rfl (by rw [hR]; rfl) (by rw [hR]; rfl) (by rw [hR]; rfl) (by rw [hR]; rfl) (by rw [hR]; rfl) (by rw [hR]; rfl) (by rw [hR]; rfl) (by rw [hR]; rfl)
            refine k_cv1 i_96_31 c_11_252 qp_45 qo_45 (by first | rfl | assumption | (rw [hR]; rfl) | (dsimp only; rw [hR]; rfl)) (Nat.le_of_ble_eq_true rfl) hb (fun v S2 h => ?_)
            obtain ⟨rfl, I', rfl, e1, e2⟩ := h
            show K shX 21 96 34 _ [] _ _
            refine k_aload_n i_96_34 rfl ?_
            refine k_gfR i_96_35 f_11_19 (by first | rfl | assumption | (rw [hR]; rfl) | (dsimp only; rw [hR]; rfl)) (by decide) (by decide) (Or.inl ⟨_, rfl⟩) (by first | rfl | assumption | (rw [hR]; rfl) | (dsimp only; rw [hR]; rfl)) ?_
            refine k_gfV (a := ((σ.im i).n : Int)) i_96_38 f_11_142 (by first | rfl | assumption | (rw [hR]; rfl) | (dsimp only; rw [hR]; rfl)) (by decide) (by decide) (Or.inl rfl) (e2.2.2.1) ?_
            refine k_iret i_96_41 qt_96 ?_
            exact ⟨rfl, _, _, _, hX.setW (fun c hc => e1 c (by omega)) e2⟩
          · omega
        · rw [decide_eq_true z] at h; cases h
      · have hR := hR2
        unfold OM
-- method 145: StraightTaxModel.back.(I)I
        refine k_start ql_145 (Nat.le_of_ble_eq_true rfl) ?_
        simp only [q_en, List.replicate]
        refine k_iload_n i_145_0 rfl ?_
        refine k_i2lJ i_145_1 (by omega) ?_
        refine k_lconstJ (a := 0) i_145_2 rfl ?_
        refine k_lconstJ (a := 1) i_145_3 rfl ?_
        refine k_sp3 i_145_4 c_12_72 (by decide) qp_100 (Nat.le_of_ble_eq_true rfl) (m_in _ _ _ (by omega) (by omega) (by omega)) ?_
        refine k_if_neB (t := 12) i_145_7 rfl (fun h => ?_) (fun h => ?_)
        · refine k_aload_n i_145_12 rfl ?_
          refine k_gfR i_145_13 f_12_32 (by first | rfl | assumption | (rw [hR]; rfl) | (dsimp only; rw [hR]; rfl)) (by decide) (by decide) (Or.inr ⟨_, rfl⟩) (by first | rfl | assumption | (rw [hR]; rfl) | (dsimp only; rw [hR]; rfl)) ?_
          refine k_iload_n i_145_16 rfl ?_
          refine k_bald2 (a := 1) i_145_17 rfl (by decide) (by omega) (by omega) (by rw [ei]; exact km) ?_
          refine k_if_ne (t := 24) i_145_18 rfl (by omega) (fun h => ?_) (fun h => ?_)
          · refine k_aload_n i_145_24 rfl ?_
            refine k_sipush i_145_25 (by decide) ?_
            refine k_iconst i_145_28 ?_
            refine k_iload_n i_145_29 rfl ?_
            refine k_iadd i_145_30 ?_
            refine k_imul i_145_31 ?_
            refine k_iconst i_145_32 ?_
            rw [show (130 : Int) * (1 + (i : Int)) = ((130 * (1 + i) : Nat) : Int) by omega]
            refine k_cv2 i_145_33 c_12_244 qp_144 qo_144 (by first | rfl | assumption | (rw [hR]; rfl) | (dsimp only; rw [hR]; rfl)) (Nat.le_of_ble_eq_true rfl) (m_copy (t := 0) hR (by omega) (by omega) (by omega)) (fun v S2 h => ?_)
            obtain ⟨rfl, rfl⟩ := h
            show K shM 21 145 36 _ [] _ _
            have e2 := hw2.copy (t := 0) h60
            refine k_aload_n i_145_36 rfl ?_
            refine k_gfR i_145_37 f_12_29 (by first | rfl | assumption | (rw [hR]; rfl) | (dsimp only; rw [hR]; rfl)) (by decide) (by decide) (Or.inr ⟨_, rfl⟩) (by first | rfl | assumption | (rw [hR]; rfl) | (dsimp only; rw [hR]; rfl)) ?_
            refine k_iconst i_145_40 ?_
            refine k_ialV (a := ((σ.im i).n : Int)) i_145_41 (by first | rfl | assumption | (rw [hR]; rfl) | (dsimp only; rw [hR]; rfl)) (by decide) (by omega) (by omega) (e2.2.2.2.1) ?_
            refine k_iret i_145_42 qt_145 ?_
            exact ⟨rfl, hM.setW hS (fun c hc => cpm_o hc) (fun k hk => cpm_n (by omega)) e2⟩
          · omega
        · rw [decide_eq_true (by omega)] at h; cases h
    | false =>
      rw [hk] at kx km
      refine ⟨.int (J (-2)), σ, hS, ?_, ?_⟩
      · unfold OX
-- method 96: StraightTax.back.(I)I
        refine k_start ql_96 (Nat.le_of_ble_eq_true rfl) ?_
        simp only [q_en, List.replicate]
        refine k_iload_n i_96_0 rfl ?_
        refine k_sp1 i_96_1 c_11_249 (by decide) qp_95 (Nat.le_of_ble_eq_true rfl) (e_isImage _ ha) ?_
        refine k_if_neB (t := 9) i_96_4 rfl (fun h => ?_) (fun h => ?_)
        · refine k_aload_n i_96_9 rfl ?_
          refine k_gfR i_96_10 f_11_27 (by first | rfl | assumption | (rw [hR]; rfl) | (dsimp only; rw [hR]; rfl)) (by decide) (by decide) (Or.inr ⟨_, rfl⟩) (by first | rfl | assumption | (rw [hR]; rfl) | (dsimp only; rw [hR]; rfl)) ?_
          refine k_iload_n i_96_13 rfl ?_
          refine k_bald2 (a := 0) i_96_14 rfl (by decide) (by omega) (by omega) (by rw [ei]; exact kx) ?_
          refine k_if_ne (t := 21) i_96_15 rfl (by omega) (fun h => ?_) (fun h => ?_)
          · omega
          · refine k_bipush i_96_18 (by decide) ?_
            refine k_iret i_96_20 qt_96 ?_
            exact ⟨rfl, _, _, _, hX⟩
        · rw [decide_eq_true z] at h; cases h
      · have hR := hR2
        unfold OM
-- method 145: StraightTaxModel.back.(I)I
        refine k_start ql_145 (Nat.le_of_ble_eq_true rfl) ?_
        simp only [q_en, List.replicate]
        refine k_iload_n i_145_0 rfl ?_
        refine k_i2lJ i_145_1 (by omega) ?_
        refine k_lconstJ (a := 0) i_145_2 rfl ?_
        refine k_lconstJ (a := 1) i_145_3 rfl ?_
        refine k_sp3 i_145_4 c_12_72 (by decide) qp_100 (Nat.le_of_ble_eq_true rfl) (m_in _ _ _ (by omega) (by omega) (by omega)) ?_
        refine k_if_neB (t := 12) i_145_7 rfl (fun h => ?_) (fun h => ?_)
        · refine k_aload_n i_145_12 rfl ?_
          refine k_gfR i_145_13 f_12_32 (by first | rfl | assumption | (rw [hR]; rfl) | (dsimp only; rw [hR]; rfl)) (by decide) (by decide) (Or.inr ⟨_, rfl⟩) (by first | rfl | assumption | (rw [hR]; rfl) | (dsimp only; rw [hR]; rfl)) ?_
          refine k_iload_n i_145_16 rfl ?_
          refine k_bald2 (a := 0) i_145_17 rfl (by decide) (by omega) (by omega) (by rw [ei]; exact km) ?_
          refine k_if_ne (t := 24) i_145_18 rfl (by omega) (fun h => ?_) (fun h => ?_)
          · omega
          · refine k_bipush i_145_21 (by decide) ?_
            refine k_iret i_145_23 qt_145 ?_
            exact ⟨rfl, hM⟩
        · rw [decide_eq_true (by omega)] at h; cases h
  · refine ⟨.int (J (-1)), σ, hS, ?_, ?_⟩
    · unfold OX
-- method 96: StraightTax.back.(I)I
      refine k_start ql_96 (Nat.le_of_ble_eq_true rfl) ?_
      simp only [q_en, List.replicate]
      refine k_iload_n i_96_0 rfl ?_
      refine k_sp1 i_96_1 c_11_249 (by decide) qp_95 (Nat.le_of_ble_eq_true rfl) (e_isImage _ ha) ?_
      refine k_if_neB (t := 9) i_96_4 rfl (fun h => ?_) (fun h => ?_)
      · rw [decide_eq_false z] at h; cases h
      · refine k_iconst i_96_7 ?_
        refine k_iret i_96_8 qt_96 ?_
        exact ⟨rfl, _, _, _, hX⟩
    · have hR := hR2
      unfold OM
-- method 145: StraightTaxModel.back.(I)I
      refine k_start ql_145 (Nat.le_of_ble_eq_true rfl) ?_
      simp only [q_en, List.replicate]
      refine k_iload_n i_145_0 rfl ?_
      refine k_i2lJ i_145_1 (by omega) ?_
      refine k_lconstJ (a := 0) i_145_2 rfl ?_
      refine k_lconstJ (a := 1) i_145_3 rfl ?_
      refine k_sp3 i_145_4 c_12_72 (by decide) qp_100 (Nat.le_of_ble_eq_true rfl) (m_in _ _ _ (by omega) (by omega) (by omega)) ?_
      refine k_if_neB (t := 12) i_145_7 rfl (fun h => ?_) (fun h => ?_)
      · rw [decide_eq_false (by omega)] at h; cases h
      · refine k_iconst i_145_10 ?_
        refine k_iret i_145_11 qt_145 ?_
        exact ⟨rfl, hM⟩
end TG
