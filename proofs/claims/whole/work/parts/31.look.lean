/-! THE CLASS: look, and what is asked behind aim -/
noncomputable def D (T : Tn) (nt : Int) (el : Nat) (b : Int) : Int → Int := Classical.epsilon (fun g => fx T nt el b 1000 100000000 g)
theorem D_fx {T : Tn} (hw : tWF T) {nt : Int} (h01 : nt = 0 ∨ nt = 1) {el : Nat} (hel : el < 2 ^ 31) {b : Int} (hb : 0 ≤ b ∧ b < tN T) : fx T nt el b 1000 100000000 (D T nt el b) := by
  obtain ⟨f, hf⟩ := mFix_ex hw h01 hel hb
  exact Classical.epsilon_spec (p := fun g => fx T nt el b 1000 100000000 g) ⟨_, hf.fx hw⟩
/-- the same, as the class weighs it -/
noncomputable def DX (T : Tn) (nt b : Int) : Int → Int := g24 (D T nt (tMask T 2) b)
theorem DX_fx {T : Tn} (hw : tWF T) {nt : Int} (h01 : nt = 0 ∨ nt = 1) {b : Int} (hb : 0 ≤ b ∧ b < tN T) : fx T nt (tMask T 2) b 1024 1073741824 (DX T nt b) := fx_24 hw hb (D_fx hw h01 (by have := tMask_lt T 2; omega) hb)
/-- nothing but Ways' own rows is changed -/
def Scr (I I' : Nat → Nat → Int) : Prop := (∀ c, c < 32 ∨ 40 < c → I' c = I c) ∧ I' 33 0 = I 33 0 ∧ I' 34 0 = I 34 0
theorem Scr.rfl' {I : Nat → Nat → Int} : Scr I I := ⟨fun _ _ => rfl, rfl, rfl⟩
theorem Scr.trans {I I' I'' : Nat → Nat → Int} (h : Scr I I') (h' : Scr I' I'') : Scr I I'' := ⟨fun c hc => (h'.1 c hc).trans (h.1 c hc), h'.2.1.trans h.2.1, h'.2.2.trans h.2.2⟩
theorem Scr.row {I : Nat → Nat → Int} {c : Nat} {f : Nat → Int} (hc : 35 ≤ c ∧ c ≤ 40) : Scr I (sr I c f) := ⟨fun c' hc' => by rw [sr_n (by omega)], by rw [sr_n (by omega)], by rw [sr_n (by omega)]⟩
theorem Scr.RI {I : Nat → Nat → Int} {o n : Nat → Int} : Scr I (RI I o n) := (Scr.row (by omega)).trans (Scr.row (by omega))
theorem Scr.up {I : Nat → Nat → Int} {k : Nat} {v : Int} : Scr I (q_up I 32 k v) := ⟨fun c' hc' => by rw [← q_up_c (f := I) (k := k) (v := v) (c := 32) (c' := c') (by omega)], by rw [q_up_n (by omega)], by rw [q_up_n (by omega)]⟩
/-- behind aim -/
def AX (I : Nat → Nat → Int) (X : XX) (h s w : Nat) (T : Tn) (nt b : Int) : Prop := WX I X h s w T nt ∧ I 32 2 = b ∧ inF (I 35) ∧ inF (I 36) ∧ (∀ c q : Int, 0 ≤ c → c < 20 → 0 ≤ q → q < 4 → pt (I 35) c q = eE T nt b (DX T nt b) c q) ∧ ∀ c l : Int, 0 ≤ c → c < 20 → 0 ≤ l → l < 4 → pt (I 36) c l = eV T nt b (DX T nt b) c l
theorem TAt.same {sh : QH} {I I' : Nat → Nat → Int} {X X' : XX} {t : Nat} {T : Tn} (h : TAt sh (I, X) t T) (h1 : I' t = I t) (h2 : I' (t + 1) = I (t + 1)) (h3 : X'.2 t = X.2 t) : TAt sh (I', X') t T := by
  unfold TAt at h ⊢
  simp only [h1, h2, h3]
  exact h
theorem TNx.same {I I' : Nat → Nat → Int} {X X' : XX} {t : Nat} {T : Tn} (h : TNx (I, X) t T) (h1 : I' (t + 2) = I (t + 2)) : TNx (I', X') t T := by
  unfold TNx at h ⊢
  simp only [h1]
  exact h
theorem rX_w {h s w v : Nat} : q_up (rX h s w) 32 0 (some v) = rX h s v := by
  funext c k
  unfold q_up
  by_cases h1 : c = 32 ∧ k = 0
  · obtain ⟨rfl, rfl⟩ := h1; rw [if_pos ⟨rfl, rfl⟩]; rfl
  · rw [if_neg h1]
    unfold rX
    split
    all_goals first | rfl | skip
    by_cases hk : k = 0
    · exact absurd ⟨rfl, hk⟩ h1
    · rw [if_neg hk, if_neg hk]
theorem rX_t {h s w w' t : Nat} (ht : t = 41 ∨ t = 44) : rX h s w t = rX h s w' t := by rcases ht with rfl | rfl <;> rfl
def LR (I : Nat → Nat → Int) (f g : Nat → Int) : Nat → Nat → Int := sr (sr I 33 f) 34 g
theorem LR_n {I : Nat → Nat → Int} {f g : Nat → Int} {c : Nat} (h1 : c ≠ 33) (h2 : c ≠ 34) : LR I f g c = I c := by simp [LR, sr, h1, h2]
theorem LR_33 {I : Nat → Nat → Int} {f g : Nat → Int} : LR I f g 33 = f := by simp [LR, sr]
theorem LR_34 {I : Nat → Nat → Int} {f g : Nat → Int} : LR I f g 34 = g := by simp [LR, sr]
theorem LR_u33 {I : Nat → Nat → Int} {f g : Nat → Int} {k : Nat} {v : Int} : q_up (LR I f g) 33 k v = LR I (ud f k v) g := by
  funext c j
  unfold q_up LR sr ud
  by_cases h1 : c = 34
  · subst h1; simp
  · by_cases h2 : c = 33
    · subst h2; by_cases h3 : j = k <;> simp [h3]
    · simp [h1, h2]
theorem LR_u34 {I : Nat → Nat → Int} {f g : Nat → Int} {k : Nat} {v : Int} : q_up (LR I f g) 34 k v = LR I f (ud g k v) := by
  funext c j
  unfold q_up LR sr ud
  by_cases h1 : c = 34
  · subst h1; by_cases h3 : j = k <;> simp [h3]
  · simp [h1]
section LK
variable {d : Nat} {T : Tn} {I : Nat → Nat → Int} {X : XX} {h0 s0 w : Nat} {nt b : Int} {Q : Option Value → QS → Prop}
-- method 47: StraightTax$Ways.look.(LStraightTax$Town;Z)V
theorem l_look {t : Nat} (ht : t = 41 ∨ t = 44) (hR : X.2 = rX h0 s0 t) (hT : TAt shX (I, X) t T) (hw : tWF T) (hn : I 32 1 = nt) (h01 : nt = 0 ∨ nt = 1)
    (hk : ∀ (f g : Nat → Int), (∀ r : Nat, r ≤ 4 → f r = sm T nt r ∧ g r = wt T nt r) → Q none (LR I f g, X)) :
    ∀ (m r : Nat) (f g : Nat → Int), 1 ≤ r → r + m = 5 → (∀ i : Nat, i < r → f i = sm T nt i ∧ g i = wt T nt i) → K shX (d + 1) 47 12 [some (.ref 32), some (.ref t), some (.int (J nt)), some (.int (J (r : Int)))] [] (LR I f g, X) Q := by
  intro m
  induction m with
  | zero =>
    intro r f g r1 rm hf
    have e : r = 5 := by omega
    subst e
    refine k_iload_n i_47_12 rfl ?_
    refine k_iconst i_47_13 ?_
    refine k_ic_gt (t := 68) i_47_14 rfl (by omega) (by omega) (fun h => ?_) (fun h => ?_)
    · refine k_vret i_47_68 qt_47 ?_
      exact hk f g (fun r hr => hf r (by omega))
    · omega
  | succ m ih =>
    intro r f g r1 rm hf
    have hT' : TAt shX (LR I f g, X) t T := hT.same (LR_n (by omega) (by omega)) (LR_n (by omega) (by omega)) rfl
    obtain ⟨s1, s2, s3, q1, q2, a0, a1, a2, a3, a4, a5, a6, ag⟩ := id hT'
    refine k_iload_n i_47_12 rfl ?_
    refine k_iconst i_47_13 ?_
    refine k_ic_gt (t := 68) i_47_14 rfl (by omega) (by omega) (fun h => ?_) (fun h => ?_)
    · omega
    · refine k_aload_n i_47_17 rfl ?_
      refine k_gfR i_47_18 f_10_26 (by first | rfl | assumption | (rw [hR]; rfl) | (dsimp only; rw [hR]; rfl)) (by decide) (by decide) (Or.inr ⟨_, rfl⟩) (by first | rfl | assumption | (rw [hR]; rfl) | (dsimp only; rw [hR]; rfl)) ?_
      refine k_iload_n i_47_21 rfl ?_
      refine k_aload_n i_47_22 rfl ?_
      refine k_gfR i_47_23 f_10_26 (by first | rfl | assumption | (rw [hR]; rfl) | (dsimp only; rw [hR]; rfl)) (by decide) (by decide) (Or.inr ⟨_, rfl⟩) (by first | rfl | assumption | (rw [hR]; rfl) | (dsimp only; rw [hR]; rfl)) ?_
      refine k_iload_n i_47_26 rfl ?_
      refine k_iconst i_47_27 ?_
      refine k_isub i_47_28 ?_
      refine k_iald i_47_29 rfl (by decide) (by omega) (by omega) ?_
      rw [show (LR I f g, X).1 33 ((r : Int) - 1).toNat = sm T nt (r - 1) from by
        show LR I f g 33 _ = _
        rw [LR_33, show ((r : Int) - 1).toNat = r - 1 by omega]; exact (hf (r - 1) (by omega)).1]
      refine k_aload_n i_47_30 rfl ?_
      refine k_gfR i_47_31 f_10_12 (by first | rfl | assumption | (rw [hR]; rfl) | (dsimp only; rw [hR]; rfl)) (by decide) (by decide) (Or.inl ⟨_, rfl⟩) (by first | rfl | assumption | (rw [hR]; rfl) | (dsimp only; rw [hR]; rfl)) ?_
      refine k_iload_n i_47_34 rfl ?_
      refine k_aload_n i_47_35 rfl ?_
      refine k_gfI i_47_36 f_10_18 (by first | rfl | assumption | (rw [hR]; rfl) | (dsimp only; rw [hR]; rfl)) (by decide) (by decide) (Or.inr rfl) ?_
      rw [show (LR I f g, X).1 32 1 = nt from by show LR I f g 32 1 = nt; rw [LR_n (by decide) (by decide)]; exact hn]
      refine k_vp2 i_47_39 c_10_51 qp_35 qo_35 (by first | rfl | assumption | (rw [hR]; rfl) | (dsimp only; rw [hR]; rfl)) (Nat.le_of_ble_eq_true rfl) (e_price hT' hw _ _ (by omega) h01) ?_
      refine k_iadd i_47_42 ?_
      rw [show sm T nt (r - 1) + tPrice T nt (r : Int) = sm T nt r from by
        obtain ⟨i, rfl⟩ : ∃ i : Nat, r = i + 1 := ⟨r - 1, by omega⟩
        show sm T nt i + _ = sm T nt i + _
        congr 1]
      refine k_iast i_47_43 rfl (by decide) (by omega) (by omega) ?_
      dsimp only
      rw [LR_u33, show ((r : Int)).toNat = r by omega]
      refine k_aload_n i_47_44 rfl ?_
      refine k_gfR i_47_45 f_10_30 (by first | rfl | assumption | (rw [hR]; rfl) | (dsimp only; rw [hR]; rfl)) (by decide) (by decide) (Or.inr ⟨_, rfl⟩) (by first | rfl | assumption | (rw [hR]; rfl) | (dsimp only; rw [hR]; rfl)) ?_
      refine k_iload_n i_47_48 rfl ?_
      refine k_aload_n i_47_49 rfl ?_
      refine k_gfR i_47_50 f_10_26 (by first | rfl | assumption | (rw [hR]; rfl) | (dsimp only; rw [hR]; rfl)) (by decide) (by decide) (Or.inr ⟨_, rfl⟩) (by first | rfl | assumption | (rw [hR]; rfl) | (dsimp only; rw [hR]; rfl)) ?_
      refine k_iload_n i_47_53 rfl ?_
      refine k_iald i_47_54 rfl (by decide) (by omega) (by omega) ?_
      rw [show (LR I (ud f r (sm T nt r)) g, X).1 33 ((r : Int)).toNat = sm T nt r from by
        show LR I (ud f r (sm T nt r)) g 33 _ = _
        rw [LR_33, show ((r : Int)).toNat = r by omega, ud_s]]
      refine k_sipush i_47_55 (by decide) ?_
      refine k_imul i_47_58 ?_
      refine k_iload_n i_47_59 rfl ?_
      refine k_iadd i_47_60 ?_
      rw [show sm T nt r * 1024 + (r : Int) = wt T nt r from rfl]
      refine k_iast i_47_61 rfl (by decide) (by omega) (by omega) ?_
      dsimp only
      rw [LR_u34, show ((r : Int)).toNat = r by omega]
      refine k_iinc i_47_62 rfl (Nat.le_of_ble_eq_true rfl) ?_
      dsimp only [q_st1, q_st2, q_unl]
      refine k_goto (t := 12) i_47_65 rfl ?_
      refine ih (r + 1) _ _ (by omega) (by omega) (fun i hi => ?_)
      by_cases e : i = r
      · subst e; rw [ud_s, ud_s]; exact ⟨rfl, rfl⟩
      · rw [ud_n e, ud_n e]; exact hf i (by omega)
theorem e_look {t : Nat} (ht : t = 41 ∨ t = 44) (hR : X.2 = rX h0 s0 w) (hT : TAt shX (I, X) t T) (hX : TNx (I, X) t T) (hOK : tOK T) (h01 : nt = 0 ∨ nt = 1) (hz : I 33 0 = 0 ∧ I 34 0 = 0) : KC shX (d + 1) 47 [.ref 32, .ref t, .int (J nt)] (I, X) (fun r S2 => r = none ∧ ∃ I', S2 = (I', X.1, rX h0 s0 t) ∧ Scr I I' ∧ WX I' (X.1, rX h0 s0 t) h0 s0 t T nt) := by
  refine k_start ql_47 (Nat.le_of_ble_eq_true rfl) ?_
  simp only [q_en, List.replicate]
  refine k_aload_n i_47_0 rfl ?_
  refine k_aload_n i_47_1 rfl ?_
  refine k_pfR i_47_2 f_10_12 (by first | rfl | assumption | (rw [hR]; rfl) | (dsimp only; rw [hR]; rfl)) (by decide) rfl (by first | decide | omega) ?_
  refine k_aload_n i_47_5 rfl ?_
  refine k_iload_n i_47_6 rfl ?_
  rw [show q_up (I, X).2.2 32 0 (some t) = rX h0 s0 t from by show q_up X.2 32 0 (some t) = _; rw [hR, rX_w]]
  refine k_pfZ i_47_7 f_10_18 rfl (by decide) rfl h01 ?_
  refine k_iconst i_47_10 ?_
  refine k_istore_n i_47_11 (Nat.le_of_ble_eq_true rfl) ?_
  dsimp only [q_st1, q_st2, q_unl]
  have hT1 : TAt shX (q_up I 32 1 nt, X.1, rX h0 s0 t) t T := hT.same (q_up_c (f := I) (by omega)).symm (q_up_c (f := I) (by omega)).symm (by show rX h0 s0 t t = X.2 t; rw [hR]; exact rX_t ht)
  have h := l_look (d := d) (X := (X.1, rX h0 s0 t)) (I := q_up I 32 1 nt) (Q := fun r S2 => r = none ∧ ∃ I', S2 = (I', X.1, rX h0 s0 t) ∧ Scr I I' ∧ WX I' (X.1, rX h0 s0 t) h0 s0 t T nt) ht rfl hT1 hOK.1 q_up_s h01 (fun f g hfg => ?_) 4 1 (I 33) (I 34) (by omega) (by omega) (fun i hi => ?_)
  · rw [show LR (q_up I 32 1 nt) (I 33) (I 34) = q_up I 32 1 nt from by
      unfold LR
      rw [show I 33 = q_up I 32 1 nt 33 from q_up_c (f := I) (by decide), show I 34 = q_up I 32 1 nt 34 from q_up_c (f := I) (by decide), sr_id, sr_id]] at h
    exact h
  · refine ⟨rfl, _, rfl, ⟨fun c hc => ?_, ?_, ?_⟩, rfl, ht, ?_, ?_, ?_, h01, hOK, fun r hr => ?_⟩
    · rw [LR_n (by omega) (by omega)]; exact (q_up_c (f := I) (by omega)).symm
    · rw [LR_33]; exact (hfg 0 (by omega)).1.trans hz.1.symm
    · rw [LR_34]; exact (hfg 0 (by omega)).2.trans hz.2.symm
    · exact hT1.same (LR_n (by omega) (by omega)) (LR_n (by omega) (by omega)) rfl
    · exact hX.same (by rw [LR_n (by omega) (by omega)]; exact (q_up_c (f := I) (by omega)).symm)
    · show LR (q_up I 32 1 nt) f g 32 1 = nt
      rw [LR_n (by decide) (by decide)]; exact q_up_s
    · rw [LR_33, LR_34]; exact hfg r hr
  · have e : i = 0 := by omega
    subst e
    exact ⟨hz.1, hz.2⟩
end LK
