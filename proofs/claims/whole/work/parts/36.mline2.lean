/-! WAYS OF JUST SO MANY STEPS: findLine, whole -/
section F2
variable {d : Nat} {T : Tn} {I : Nat → Nat → Int} {X : XX} {nt a b : Int} {Q : Option Value → QS → Prop}
-- method 132: StraightTaxModel.findLine.(II)V
/-- the least of a square's states -/
theorem l_line_l (hR : X.2 = rM) (hw : tWF T) (ha : 0 ≤ a ∧ a < tN T) (hb : 0 ≤ b ∧ b < tN T) (k : Nat) (hk60 : k ≤ 60) (f g : Nat → Int) (hf : fK T nt a k f)
    (hk : ∀ (l : Nat → Int) (x6 x7 x8 : Option Value), lK T nt a b (k + 1) l → K shM (d + 3) 132 119 [some (.ref 0), some (.int (J a)), some (.int (J b)), some (.int (J (17 * tN T))), some (.int (J (k : Int))), some (.int (J (17 * (b + 1)))), x6, x7, x8] [] (R3 I f g l, X) Q) :
    ∀ (m : Nat) (s : Int) (l : Nat → Int) (x6 x7 x8 : Option Value), 17 * b ≤ s → s ≤ 17 * (b + 1) → (17 * (b + 1) - s).toNat = m → lK T nt a b k l → MinOf (fun v => ∃ t : Int, (17 * b ≤ t ∧ t < s) ∧ PW T nt a k t v) 100000000 (l k) → K shM (d + 3) 132 78 [some (.ref 0), some (.int (J a)), some (.int (J b)), some (.int (J (17 * tN T))), some (.int (J (k : Int))), some (.int (J s)), x6, x7, x8] [] (R3 I f g l, X) Q := by
  have hN := tN_le hw
  intro m
  induction m with
  | zero =>
    intro s l x6 x7 x8 h0 h1 hm hl hmin
    have e : s = 17 * (b + 1) := by omega
    subst e
    refine k_iload i_132_78 rfl ?_
    refine k_bipush i_132_80 (by decide) ?_
    refine k_iload_n i_132_82 rfl ?_
    refine k_iconst i_132_83 ?_
    refine k_iadd i_132_84 ?_
    refine k_imul i_132_85 ?_
    refine k_ic_ge (t := 119) i_132_86 rfl (by omega) (by omega) (fun h => ?_) (fun h => ?_)
    · refine hk l x6 x7 x8 (fun j hj => ?_)
      by_cases e : j = k
      · subst e
        refine hmin.iff (fun v => ?_)
        constructor
        · rintro ⟨t, t1, t2⟩; exact ⟨t, by omega, t2⟩
        · rintro ⟨t, t1, t2⟩; exact ⟨t, by omega, t2⟩
      · exact hl j (by omega)
    · omega
  | succ m ih =>
    intro s l x6 x7 x8 h0 h1 hm hl hmin
    have hfs := fK_range hw ha hf (t := s) (by omega) (by omega)
    have hlr : 0 ≤ l k ∧ l k ≤ 100000000 := by
      refine ⟨?_, hmin.1⟩
      rcases hmin.2.2 with e | ⟨t, t1, t2⟩
      · omega
      · have := PW_range hw ha k t _ t2; omega
    refine k_iload i_132_78 rfl ?_
    refine k_bipush i_132_80 (by decide) ?_
    refine k_iload_n i_132_82 rfl ?_
    refine k_iconst i_132_83 ?_
    refine k_iadd i_132_84 ?_
    refine k_imul i_132_85 ?_
    refine k_ic_ge (t := 119) i_132_86 rfl (by omega) (by omega) (fun h => ?_) (fun h => ?_)
    · omega
    · refine k_aload_n i_132_89 rfl ?_
      refine k_gfR i_132_90 f_12_51 (by first | rfl | assumption | (rw [hR]; rfl) | (dsimp only; rw [hR]; rfl)) (by decide) (by decide) (Or.inr ⟨_, rfl⟩) (by first | rfl | assumption | (rw [hR]; rfl) | (dsimp only; rw [hR]; rfl)) ?_
      refine k_iload i_132_93 rfl ?_
      refine k_aload_n i_132_95 rfl ?_
      refine k_gfR i_132_96 f_12_51 (by first | rfl | assumption | (rw [hR]; rfl) | (dsimp only; rw [hR]; rfl)) (by decide) (by decide) (Or.inr ⟨_, rfl⟩) (by first | rfl | assumption | (rw [hR]; rfl) | (dsimp only; rw [hR]; rfl)) ?_
      refine k_iload i_132_99 rfl ?_
      refine k_iald i_132_101 rfl (by decide) (by omega) (by omega) ?_
      rw [show (R3 I f g l, X).1 9 ((k : Int)).toNat = l k from by show R3 I f g l 9 _ = _; rw [R3_9, show ((k : Int)).toNat = k by omega]]
      refine k_aload_n i_132_102 rfl ?_
      refine k_gfR i_132_103 f_12_45 (by first | rfl | assumption | (rw [hR]; rfl) | (dsimp only; rw [hR]; rfl)) (by decide) (by decide) (Or.inr ⟨_, rfl⟩) (by first | rfl | assumption | (rw [hR]; rfl) | (dsimp only; rw [hR]; rfl)) ?_
      refine k_iload i_132_106 rfl ?_
      refine k_iald i_132_108 rfl (by decide) (by omega) (by omega) ?_
      rw [show (R3 I f g l, X).1 7 s.toNat = f s.toNat from by show R3 I f g l 7 _ = _; rw [R3_7]]
      refine k_sp2 i_132_109 c_12_108 (by decide) qp_107 (Nat.le_of_ble_eq_true rfl) (m_lesser _ _ (by omega) (by omega)) ?_
      refine k_iast i_132_112 rfl (by decide) (by omega) (by omega) ?_
      dsimp only
      rw [R3_u9, show ((k : Int)).toNat = k by omega]
      refine k_iinc i_132_113 rfl (Nat.le_of_ble_eq_true rfl) ?_
      dsimp only [q_st1, q_st2, q_unl]
      refine k_goto (t := 78) i_132_116 rfl ?_
      refine ih (s + 1) _ _ _ _ (by omega) (by omega) (by omega) (fun j hj => by rw [ud_n (by omega)]; exact hl j hj) ?_
      rw [ud_s]
      obtain ⟨f1, f2, f3⟩ := hf s (by omega) (by omega)
      obtain ⟨g1, g2, g3⟩ := hmin
      refine ⟨by omega, ?_, ?_⟩
      · rintro v ⟨t, t1, t2⟩
        by_cases e : t = s
        · subst e; have := f2 v t2; omega
        · have := g2 v ⟨t, by omega, t2⟩; omega
      · rcases Int.le_total (l k) (f s.toNat) with e | e
        · rw [Int.min_eq_left e]
          exact g3.imp id (fun ⟨t, t1, t2⟩ => ⟨t, by omega, t2⟩)
        · rw [Int.min_eq_right e]
          exact f3.imp id (fun z => ⟨s, by omega, z⟩)
theorem l_line_k (hB : MB I X T nt) (ha : 0 ≤ a ∧ a < tN T) (hb : 0 ≤ b ∧ b < tN T)
    (hq : ∀ (f g l : Nat → Int), lK T nt a b 61 l → Q none (R3 I f g l, X)) :
    ∀ (m k : Nat) (f g l : Nat → Int) (x5 x6 x7 x8 : Option Value), k + m = 61 → fK T nt a k f → lK T nt a b k l → K shM (d + 3) 132 56 [some (.ref 0), some (.int (J a)), some (.int (J b)), some (.int (J (17 * tN T))), some (.int (J (k : Int))), x5, x6, x7, x8] [] (R3 I f g l, X) Q := by
  have hw := hB.2.2.1.1
  have hN := tN_le hw
  have hR := hB.2.1
  intro m
  induction m with
  | zero =>
    intro k f g l x5 x6 x7 x8 hk hf hl
    have e : k = 61 := by omega
    subst e
    refine k_iload i_132_56 rfl ?_
    refine k_bipush i_132_58 (by decide) ?_
    refine k_ic_gt (t := 290) i_132_60 rfl (by omega) (by omega) (fun h => ?_) (fun h => ?_)
    · refine k_vret i_132_290 qt_132 ?_
      exact hq f g l hl
    · omega
  | succ m ih =>
    intro k f g l x5 x6 x7 x8 hk hf hl
    refine k_iload i_132_56 rfl ?_
    refine k_bipush i_132_58 (by decide) ?_
    refine k_ic_gt (t := 290) i_132_60 rfl (by omega) (by omega) (fun h => ?_) (fun h => ?_)
    · omega
    · refine k_aload_n i_132_63 rfl ?_
      refine k_gfR i_132_64 f_12_51 (by first | rfl | assumption | (rw [hR]; rfl) | (dsimp only; rw [hR]; rfl)) (by decide) (by decide) (Or.inr ⟨_, rfl⟩) (by first | rfl | assumption | (rw [hR]; rfl) | (dsimp only; rw [hR]; rfl)) ?_
      refine k_iload i_132_67 rfl ?_
      refine k_ldc (a := 100000000) i_132_69 n_12_202 (by decide) ?_
      refine k_iast i_132_71 rfl (by decide) (by omega) (by omega) ?_
      dsimp only
      rw [R3_u9, show ((k : Int)).toNat = k by omega]
      refine k_bipush i_132_72 (by decide) ?_
      refine k_iload_n i_132_74 rfl ?_
      refine k_imul i_132_75 ?_
      refine k_istore i_132_76 (Nat.le_of_ble_eq_true rfl) ?_
      dsimp only [q_st1, q_st2, q_unl]
      refine l_line_l hR hw ha hb k (by omega) f g hf (fun l2 y6 y7 y8 hl2 => ?_) 17 (17 * b) _ x6 x7 x8 (by omega) (by omega) (by omega) (fun j hj => by rw [ud_n (by omega)]; exact hl j hj) (by rw [ud_s]; exact MinOf.none (by rintro v ⟨t, t1, t2⟩; omega))
      refine k_iconst i_132_119 ?_
      refine k_istore i_132_120 (Nat.le_of_ble_eq_true rfl) ?_
      dsimp only [q_st1, q_st2, q_unl]
      refine l_line_t hR hw k f l2 (fun g2 z6 z7 z8 hg2 => ?_) (17 * tN T).toNat 0 g y6 y7 y8 (by omega) (by omega) (by omega) (fun t t0 t1 => by omega)
      refine k_iconst i_132_143 ?_
      refine k_istore i_132_144 (Nat.le_of_ble_eq_true rfl) ?_
      dsimp only [q_st1, q_st2, q_unl]
      refine l_line_s hB ha k f l2 hf (fun g3 w6 w7 w8 hg3 => ?_) (17 * tN T).toNat 0 g2 z6 z7 z8 (by omega) (by omega) (by omega) (fun t t0 t1 => by rw [hg2 t t0 t1]; exact MinOf.none (by rintro v ⟨s', q', a1, a2, -⟩; omega))
      refine k_iconst i_132_255 ?_
      refine k_istore i_132_256 (Nat.le_of_ble_eq_true rfl) ?_
      dsimp only [q_st1, q_st2, q_unl]
      refine l_line_c hR hw k g3 l2 (fun f2 u6 u7 u8 hf2 => ?_) (17 * tN T).toNat 0 f w6 w7 w8 (by omega) (by omega) (by omega) (fun t t0 t1 => by omega)
      refine k_iinc i_132_284 rfl (Nat.le_of_ble_eq_true rfl) ?_
      dsimp only [q_st1, q_st2, q_unl]
      refine k_goto (t := 56) i_132_287 rfl ?_
      refine ih (k + 1) f2 g3 l2 _ u6 u7 u8 (by omega) (fun t t0 t1 => ?_) hl2
      rw [hf2 t t0 t1]
      exact fK_S hw ha (by omega) hf hg3 t t0 t1
theorem l_line_i (hB : MB I X T nt) (ha : 0 ≤ a ∧ a < tN T) (g l : Nat → Int)
    (hk : ∀ (f : Nat → Int), fK T nt a 0 f → K shM (d + 3) 132 53 [some (.ref 0), some (.int (J a)), some (.int (J b)), some (.int (J (17 * tN T))), some (.int (J (17 * tN T))), none, none, none, none] [] (R3 I f g l, X) Q) :
    ∀ (m : Nat) (s : Int) (f : Nat → Int), 0 ≤ s → s ≤ 17 * tN T → (17 * tN T - s).toNat = m → (∀ t : Int, 0 ≤ t → t < s → f t.toNat = if t = 17 * a + 16 then 0 else 100000000) → K shM (d + 3) 132 16 [some (.ref 0), some (.int (J a)), some (.int (J b)), some (.int (J (17 * tN T))), some (.int (J s)), none, none, none, none] [] (R3 I f g l, X) Q := by
  have hw := hB.2.2.1.1
  have hN := tN_le hw
  have hR := hB.2.1
  intro m
  induction m with
  | zero =>
    intro s f h0 h1 hm hf
    have e : s = 17 * tN T := by omega
    subst e
    refine k_iload i_132_16 rfl ?_
    refine k_iload_n i_132_18 rfl ?_
    refine k_ic_ge (t := 53) i_132_19 rfl (by omega) (by omega) (fun h => ?_) (fun h => ?_)
    · refine hk f (fun t t0 t1 => ?_)
      rw [hf t t0 t1]
      by_cases e : t = 17 * a + 16
      · rw [if_pos e]
        exact ⟨by omega, fun v hv => by obtain ⟨-, z⟩ := hv; omega, Or.inr ⟨e, rfl⟩⟩
      · rw [if_neg e]
        exact MinOf.none (fun v hv => e hv.1)
    · omega
  | succ m ih =>
    intro s f h0 h1 hm hf
    have fin : ∀ v : Int, v = (if s = 17 * a + 16 then 0 else 100000000) → K shM (d + 3) 132 46 [some (.ref 0), some (.int (J a)), some (.int (J b)), some (.int (J (17 * tN T))), some (.int (J s)), none, none, none, none] [.int (J v), .int (J s), .ref 7] (R3 I f g l, X) Q := by
      intro v hv
      refine k_iast i_132_46 rfl (by decide) (by omega) (by omega) ?_
      dsimp only
      rw [R3_u7]
      refine k_iinc i_132_47 rfl (Nat.le_of_ble_eq_true rfl) ?_
      dsimp only [q_st1, q_st2, q_unl]
      refine k_goto (t := 16) i_132_50 rfl ?_
      refine ih (s + 1) _ (by omega) (by omega) (by omega) (fun t t0 t1 => ?_)
      by_cases e : t = s
      · subst e; rw [ud_s]; exact hv
      · rw [ud_n (by omega)]; exact hf t t0 (by omega)
    refine k_iload i_132_16 rfl ?_
    refine k_iload_n i_132_18 rfl ?_
    refine k_ic_ge (t := 53) i_132_19 rfl (by omega) (by omega) (fun h => ?_) (fun h => ?_)
    · omega
    · refine k_aload_n i_132_22 rfl ?_
      refine k_gfR i_132_23 f_12_45 (by first | rfl | assumption | (rw [hR]; rfl) | (dsimp only; rw [hR]; rfl)) (by decide) (by decide) (Or.inr ⟨_, rfl⟩) (by first | rfl | assumption | (rw [hR]; rfl) | (dsimp only; rw [hR]; rfl)) ?_
      refine k_iload i_132_26 rfl ?_
      refine k_iload i_132_28 rfl ?_
      refine k_bipush i_132_30 (by decide) ?_
      refine k_iload_n i_132_32 rfl ?_
      refine k_imul i_132_33 ?_
      refine k_bipush i_132_34 (by decide) ?_
      refine k_iadd i_132_36 ?_
      refine k_ic_ne (t := 44) i_132_37 rfl (by omega) (by omega) (fun g1 => ?_) (fun g1 => ?_)
      · refine k_ldc (a := 100000000) i_132_44 n_12_202 (by decide) ?_
        exact fin _ (by rw [if_neg g1])
      · refine k_iconst i_132_40 ?_
        refine k_goto (t := 46) i_132_41 rfl ?_
        exact fin _ (by rw [if_pos (by omega)])
theorem m_findLine (hB : MB I X T nt) (ha : 0 ≤ a ∧ a < tN T) (hb : 0 ≤ b ∧ b < tN T) : KC shM (d + 3) 132 [.ref 0, .int (J a), .int (J b)] (I, X) (fun r S2 => r = none ∧ ∃ I', S2 = (I', X) ∧ ScM I I' ∧ lK T nt a b 61 (I' 9)) := by
  have hw := hB.2.2.1.1
  have hN := tN_le hw
  obtain ⟨hT, hR, hOK, hn, h01⟩ := id hB
  obtain ⟨a0, a1, a2, a3, a4, a5, a6, a7, a8⟩ := id hT
  refine k_start ql_132 (Nat.le_of_ble_eq_true rfl) ?_
  simp only [q_en, List.replicate]
  refine k_bipush i_132_0 (by decide) ?_
  refine k_aload_n i_132_2 rfl ?_
  refine k_gfI i_132_3 f_12_7 (by first | rfl | assumption | (rw [hR]; rfl) | (dsimp only; rw [hR]; rfl)) (by decide) (by decide) (Or.inl rfl) ?_
  refine k_imul i_132_6 ?_
  refine k_aload_n i_132_7 rfl ?_
  refine k_gfI i_132_8 f_12_13 (by first | rfl | assumption | (rw [hR]; rfl) | (dsimp only; rw [hR]; rfl)) (by decide) (by decide) (Or.inl rfl) ?_
  refine k_imul i_132_11 ?_
  refine k_istore_n i_132_12 (Nat.le_of_ble_eq_true rfl) ?_
  dsimp only [q_st1, q_st2, q_unl]
  refine k_iconst i_132_13 ?_
  refine k_istore i_132_14 (Nat.le_of_ble_eq_true rfl) ?_
  dsimp only [q_st1, q_st2, q_unl]
  rw [show 17 * (I, X).1 0 0 * (I, X).1 0 1 = 17 * tN T from by rw [a0, a1]; unfold tN; rw [Int.mul_assoc]]
  have h := l_line_i (d := d) (b := b) (Q := fun r S2 => r = none ∧ ∃ I', S2 = (I', X) ∧ ScM I I' ∧ lK T nt a b 61 (I' 9)) hB ha (I 8) (I 9) (fun f hf => ?_) (17 * tN T).toNat 0 (I 7) (by omega) (by omega) (by omega) (fun t t0 t1 => by omega)
  · rw [R3_id] at h
    exact h
  · refine k_iconst i_132_53 ?_
    refine k_istore i_132_54 (Nat.le_of_ble_eq_true rfl) ?_
    dsimp only [q_st1, q_st2, q_unl]
    exact l_line_k hB ha hb (fun f g l hl => ⟨rfl, _, rfl, ScM_R3, by rw [R3_9]; exact hl⟩) 61 0 f (I 8) (I 9) none none none none (by omega) hf (fun j hj => by omega)
end F2
