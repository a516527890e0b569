/-! HELP: both sides -/
theorem WX.sc {I I' : Nat → Nat → Int} {X : XX} {h s w : Nat} {T : Tn} {nt : Int} (hW : WX I X h s w T nt) (he : ∀ c, (c = 32 ∨ c = 33 ∨ c = 34 ∨ 41 ≤ c) → I' c = I c) : WX I' X h s w T nt := by
  obtain ⟨hR, hw4, hT, hX, hnt, h01, hOK, hwt⟩ := hW
  refine ⟨hR, hw4, hT.same (he w (by omega)) (he (w + 1) (by omega)) rfl, hX.same (he (w + 2) (by omega)), ?_, h01, hOK, fun r hr => ?_⟩
  · rw [he 32 (by omega)]; exact hnt
  · rw [he 33 (by omega), he 34 (by omega)]; exact hwt r hr
theorem AX.sc {I I' : Nat → Nat → Int} {X : XX} {h s w : Nat} {T : Tn} {nt b : Int} (hA : AX I X h s w T nt b) (he : ∀ c, (32 ≤ c ∧ c ≤ 36) ∨ 41 ≤ c → I' c = I c) : AX I' X h s w T nt b := by
  obtain ⟨h1, h2, h3, h4, h5, h6⟩ := hA
  refine ⟨h1.sc (fun c hc => he c (by omega)), ?_, ?_, ?_, ?_, ?_⟩
  · rw [he 32 (by omega)]; exact h2
  · rw [he 35 (by omega)]; exact h3
  · rw [he 36 (by omega)]; exact h4
  · rw [he 35 (by omega)]; exact h5
  · rw [he 36 (by omega)]; exact h6
def ScrE (I I' : Nat → Nat → Int) : Prop := (∀ c, c ≠ 23 → c ≠ 24 → (c < 32 ∨ 40 < c) → I' c = I c) ∧ I' 33 0 = I 33 0 ∧ I' 34 0 = I 34 0
theorem Scr.e {I I' : Nat → Nat → Int} (h : Scr I I') : ScrE I I' := ⟨fun c _ _ hc => h.1 c hc, h.2⟩
theorem ScrE.trans {I I' I'' : Nat → Nat → Int} (h : ScrE I I') (h' : ScrE I' I'') : ScrE I I'' := ⟨fun c c1 c2 hc => (h'.1 c c1 c2 hc).trans (h.1 c c1 c2 hc), h'.2.1.trans h.2.1, h'.2.2.trans h.2.2⟩
theorem ScrE.up {I : Nat → Nat → Int} {c k : Nat} {v : Int} (hc : c = 23 ∨ c = 24) : ScrE I (q_up I c k v) := ⟨fun c' c1 c2 _ => (q_up_c (f := I) (by omega)).symm, q_up_n (by omega), q_up_n (by omega)⟩
/-- errands -/
def EOK (T : Tn) (n : Nat) (fr to : Nat → Int) : Prop := n ≤ 6 ∧ ∀ e, e < n → tOpen T (fr e) = true ∧ tOpen T (to e) = true
def MEr (I : Nat → Nat → Int) (n : Nat) (fr to : Nat → Int) : Prop := I 0 13 = n ∧ ∀ e, e < n → I 4 e = fr e ∧ I 5 e = to e
def XEr (I : Nat → Nat → Int) (n : Nat) (fr to : Nat → Int) : Prop := I 20 0 = n ∧ ∀ e, e < n → I 21 e = fr e ∧ I 22 e = to e
noncomputable def hsE (T : Tn) (nt : Int) (fr to : Nat → Int) (c : Int) : Nat → Int
  | 0 => 0
  | e + 1 => hsE T nt fr to c e + pE T nt c (to e) (fr e)
theorem hsE_S {T : Tn} {nt : Int} {fr to : Nat → Int} {c : Int} {e : Nat} : hsE T nt fr to c (e + 1) = hsE T nt fr to c e + pE T nt c (to e) (fr e) := rfl
noncomputable def hbs (T : Tn) (nt : Int) (n : Nat) (fr to : Nat → Int) : Nat → Int × Int
  | 0 => (-9, 100000000)
  | c + 1 => if tOn T c = 0 ∧ min 100000000 (hsE T nt fr to c n) < (hbs T nt n fr to c).2 then ((c : Int), min 100000000 (hsE T nt fr to c n)) else hbs T nt n fr to c
/-- what help answers -/
noncomputable def Fhe (T : Tn) (nt : Int) (n : Nat) (fr to : Nat → Int) (what : Int) : Int := if 0 ≤ what ∧ what ≤ 1 then (if (hbs T nt n fr to (tN T).toNat).1 = -9 then -9 else if what = 0 then (hbs T nt n fr to (tN T).toNat).1 else (hbs T nt n fr to (tN T).toNat).2) else -1
theorem on_open {T : Tn} {c : Int} (hc : 0 ≤ c ∧ c < tN T) (h : tOn T c = 0) : tOpen T c = true := by
  unfold tOpen tHas
  rw [h, decide_eq_true hc]
  rfl
theorem pE_range {T : Tn} (hw : tWF T) {nt : Int} (h01 : nt = 0 ∨ nt = 1) {a b c : Int} (ha : tOpen T a = true) (hb : tOpen T b = true) (hc : tOpen T c = true) : 0 ≤ pE T nt c b a ∧ pE T nt c b a ≤ 100000000 := by
  have h := pE_eq hw h01 (nt := nt) ha hb hc
  by_cases z : rc T a b
  · have := h.1 z; omega
  · have := h.2 z; omega
theorem hsE_nn {T : Tn} (hw : tWF T) {nt : Int} (h01 : nt = 0 ∨ nt = 1) {n : Nat} {fr to : Nat → Int} (hE : EOK T n fr to) {c : Int} (hc : tOpen T c = true) : ∀ e, e ≤ n → 0 ≤ hsE T nt fr to c e ∧ hsE T nt fr to c e ≤ 100000000 * e
  | 0, _ => by show 0 ≤ 0 ∧ (0 : Int) ≤ 100000000 * ((0 : Nat) : Int); omega
  | e + 1, he => by
    have ih := hsE_nn hw h01 hE hc e (by omega)
    have := pE_range hw h01 (nt := nt) (hE.2 e (by omega)).1 (hE.2 e (by omega)).2 hc
    rw [hsE_S]
    omega
theorem hbs_range {T : Tn} (hw : tWF T) {nt : Int} (h01 : nt = 0 ∨ nt = 1) {n : Nat} {fr to : Nat → Int} (hE : EOK T n fr to) : ∀ c : Nat, (c : Int) ≤ tN T → (-9 ≤ (hbs T nt n fr to c).1 ∧ (hbs T nt n fr to c).1 < 20) ∧ (0 ≤ (hbs T nt n fr to c).2 ∧ (hbs T nt n fr to c).2 ≤ 100000000) ∧ ((hbs T nt n fr to c).1 = -9 ↔ (hbs T nt n fr to c).2 = 100000000)
  | 0, _ => by refine ⟨?_, ?_, ?_⟩ <;> simp [hbs]
  | c + 1, h => by
    have hN := tN_le hw
    have ih := hbs_range hw h01 hE c (by omega)
    unfold hbs
    by_cases z : tOn T c = 0 ∧ min 100000000 (hsE T nt fr to c n) < (hbs T nt n fr to c).2
    · rw [if_pos z]
      have := (hsE_nn hw h01 (nt := nt) hE (on_open (c := (c : Int)) (by omega) z.1) n (Nat.le_refl _)).1
      have hz := z.2
      refine ⟨by dsimp only; omega, by dsimp only; omega, ?_⟩
      dsimp only
      constructor <;> intro y <;> omega
    · rw [if_neg z]; exact ih
section HM
variable {d : Nat} {T : Tn} {I : Nat → Nat → Int} {X : XX} {nt : Int} {Q : Option Value → QS → Prop} {n : Nat} {fr to : Nat → Int}
-- method 140: StraightTaxModel.help.(I)I
theorem MEr.scr {I I' : Nat → Nat → Int} (h : MEr I n fr to) (hs : ScM I I') : MEr I' n fr to := by
  unfold MEr at h ⊢
  rw [hs 0 (by omega), hs 4 (by omega), hs 5 (by omega)]
  exact h
theorem l_mhe_e (hE : EOK T n fr to) (what best few : Int) (c : Nat) (hc : (c : Int) < tN T) (hon : tOn T c = 0)
    (hk : ∀ (I' : Nat → Nat → Int), MB I' X T nt → MEr I' n fr to → ScM I I' → K shM (d + 5) 140 110 [some (.ref 0), some (.int (J what)), some (.int (J best)), some (.int (J few)), some (.int (J (c : Int))), some (.int (J (min 100000000 (hsE T nt fr to c n)))), some (.int (J (n : Int)))] [] (I', X) Q) :
    ∀ (f e : Nat) (I' : Nat → Nat → Int), e + f = n → MB I' X T nt → MEr I' n fr to → ScM I I' → K shM (d + 5) 140 58 [some (.ref 0), some (.int (J what)), some (.int (J best)), some (.int (J few)), some (.int (J (c : Int))), some (.int (J (min 100000000 (hsE T nt fr to c e)))), some (.int (J (e : Int)))] [] (I', X) Q := by
  intro f
  induction f with
  | zero =>
    intro e I' he hB hM hS
    obtain ⟨hT, hR, hOK, hn, h01⟩ := id hB
    have e1 : e = n := by omega
    subst e1
    refine k_iload i_140_58 rfl ?_
    refine k_aload_n i_140_60 rfl ?_
    refine k_gfI i_140_61 f_12_176 (by first | rfl | assumption | (rw [hR]; rfl) | (dsimp only; rw [hR]; rfl)) (by decide) (by decide) (Or.inl rfl) ?_
    rw [show (I', X).1 0 13 = (e : Int) from hM.1]
    have := hE.1
    refine k_ic_ge (t := 110) i_140_64 rfl (by omega) (by omega) (fun h => ?_) (fun h => ?_)
    · exact hk I' hB hM hS
    · omega
  | succ f ih =>
    intro e I' he hB hM hS
    obtain ⟨hT, hR, hOK, hn, h01⟩ := id hB
    obtain ⟨a0, a1, a2, a3, a4, a5, a6, a7, a8⟩ := id hT
    have hw := hOK.1
    have hN := tN_le hw
    have h6 := hE.1
    have hm2 := tMask_lt T 2
    have hco := on_open (c := (c : Int)) (by omega) hon
    have hfr := (hE.2 e (by omega)).1
    have hto := (hE.2 e (by omega)).2
    have hss := hsE_nn hw h01 (nt := nt) hE hco e (by omega)
    have hpe := pE_range hw h01 (nt := nt) hfr hto hco
    refine k_iload i_140_58 rfl ?_
    refine k_aload_n i_140_60 rfl ?_
    refine k_gfI i_140_61 f_12_176 (by first | rfl | assumption | (rw [hR]; rfl) | (dsimp only; rw [hR]; rfl)) (by decide) (by decide) (Or.inl rfl) ?_
    rw [show (I', X).1 0 13 = (n : Int) from hM.1]
    refine k_ic_ge (t := 110) i_140_64 rfl (by omega) (by omega) (fun h => ?_) (fun h => ?_)
    · omega
    · refine k_ldc (a := 100000000) i_140_67 n_12_202 (by decide) ?_
      refine k_iload i_140_69 rfl ?_
      refine k_aload_n i_140_71 rfl ?_
      refine k_aload_n i_140_72 rfl ?_
      refine k_gfR i_140_73 f_12_36 (by first | rfl | assumption | (rw [hR]; rfl) | (dsimp only; rw [hR]; rfl)) (by decide) (by decide) (Or.inr ⟨_, rfl⟩) (by first | rfl | assumption | (rw [hR]; rfl) | (dsimp only; rw [hR]; rfl)) ?_
      refine k_iload i_140_76 rfl ?_
      refine k_iald i_140_78 rfl (by decide) (by omega) (by omega) ?_
      rw [show (I', X).1 4 ((e : Int)).toNat = fr e from by rw [show ((e : Int)).toNat = e by omega]; exact (hM.2 e (by omega)).1]
      refine k_aload_n i_140_79 rfl ?_
      refine k_gfR i_140_80 f_12_39 (by first | rfl | assumption | (rw [hR]; rfl) | (dsimp only; rw [hR]; rfl)) (by decide) (by decide) (Or.inr ⟨_, rfl⟩) (by first | rfl | assumption | (rw [hR]; rfl) | (dsimp only; rw [hR]; rfl)) ?_
      refine k_iload i_140_83 rfl ?_
      refine k_iald i_140_85 rfl (by decide) (by omega) (by omega) ?_
      rw [show (I', X).1 5 ((e : Int)).toNat = to e from by rw [show ((e : Int)).toNat = e by omega]; exact (hM.2 e (by omega)).2]
      refine k_aload_n i_140_86 rfl ?_
      refine k_gfI i_140_87 f_12_167 (by first | rfl | assumption | (rw [hR]; rfl) | (dsimp only; rw [hR]; rfl)) (by decide) (by decide) (Or.inl rfl) ?_
      refine k_iconst i_140_90 ?_
      refine k_iload i_140_91 rfl ?_
      rw [show (I', X).1 0 3 = (tMask T 2 : Int) from a3]
      refine k_ishl i_140_93 (J_one (by omega) (by omega)) ?_
      refine k_ior i_140_94 (J_or _ _) ?_
      have hel := elb_lt hw (c := (c : Int)) (by omega)
      refine k_cv3 i_140_95 c_12_226 qp_137 qo_137 (by first | rfl | assumption | (rw [hR]; rfl) | (dsimp only; rw [hR]; rfl)) (Nat.le_of_ble_eq_true rfl) (m_costOf hB (by omega) (fr e) (to e) (open_lt hfr) (open_lt hto)) (fun v S2 h => ?_)
      obtain ⟨rfl, f7, rfl⟩ := h
      show K shM (d + 5) 140 98 _ (.int (J (pE T nt (c : Int) (to e) (fr e))) :: _) (sr I' 7 f7, X) _
      refine k_iadd i_140_98 ?_
      refine k_sp2 i_140_99 c_12_108 (by decide) qp_107 (Nat.le_of_ble_eq_true rfl) (m_lesser _ _ (by omega) (by omega)) ?_
      refine k_istore i_140_102 (Nat.le_of_ble_eq_true rfl) ?_
      dsimp only [q_st1, q_st2, q_unl]
      refine k_iinc i_140_104 rfl (Nat.le_of_ble_eq_true rfl) ?_
      dsimp only [q_st1, q_st2, q_unl]
      refine k_goto (t := 58) i_140_107 rfl ?_
      have hsc : ScM I' (sr I' 7 f7) := ScM.row (by omega)
      have h2 := ih (e + 1) _ (by omega) (hB.scr hsc) (hM.scr hsc) (hS.trans hsc)
      rw [hsE_S, show min 100000000 (hsE T nt fr to (c : Int) e + pE T nt (c : Int) (to e) (fr e)) = min 100000000 (min 100000000 (hsE T nt fr to (c : Int) e) + pE T nt (c : Int) (to e) (fr e)) by omega] at h2
      exact h2
theorem l_mhe_c (hE : EOK T n fr to) (what : Int) : ∀ (f c : Nat) (I' : Nat → Nat → Int) (x5 x6 : Option Value), (c : Int) + f = tN T → MB I' X T nt → MEr I' n fr to → ScM I I' → (0 ≤ what ∧ what ≤ 1) → K shM (d + 5) 140 21 [some (.ref 0), some (.int (J what)), some (.int (J (hbs T nt n fr to c).1)), some (.int (J (hbs T nt n fr to c).2)), some (.int (J (c : Int))), x5, x6] [] (I', X) (fun r S2 => r = some (.int (J (Fhe T nt n fr to what))) ∧ ∃ I', S2 = (I', X) ∧ ScM I I') := by
  intro f
  induction f with
  | zero =>
    intro c I' x5 x6 hc hB hM hS hwh
    obtain ⟨hT, hR, hOK, hn, h01⟩ := id hB
    obtain ⟨a0, a1, a2, a3, a4, a5, a6, a7, a8⟩ := id hT
    have hw := hOK.1
    have hN := tN_le hw
    have eN : (I', X).1 0 0 * (I', X).1 0 1 = tN T := by rw [a0, a1]; rfl
    obtain ⟨q1, q2, q3⟩ := hbs_range hw h01 (nt := nt) hE c (by omega)
    have ec : c = (tN T).toNat := by omega
    have eF : Fhe T nt n fr to what = if (hbs T nt n fr to c).1 = -9 then -9 else if what = 0 then (hbs T nt n fr to c).1 else (hbs T nt n fr to c).2 := by
      unfold Fhe
      rw [if_pos hwh, ec]
    rw [eF]
    refine k_iload i_140_21 rfl ?_
    refine k_aload_n i_140_23 rfl ?_
    refine k_gfI i_140_24 f_12_7 (by first | rfl | assumption | (rw [hR]; rfl) | (dsimp only; rw [hR]; rfl)) (by decide) (by decide) (Or.inl rfl) ?_
    refine k_aload_n i_140_27 rfl ?_
    refine k_gfI i_140_28 f_12_13 (by first | rfl | assumption | (rw [hR]; rfl) | (dsimp only; rw [hR]; rfl)) (by decide) (by decide) (Or.inl rfl) ?_
    refine k_imul i_140_31 ?_
    rw [eN]
    refine k_ic_ge (t := 136) i_140_32 rfl (by omega) (by omega) (fun h => ?_) (fun h => ?_)
    · refine k_iload_n i_140_136 rfl ?_
      refine k_bipush i_140_137 (by decide) ?_
      refine k_ic_ne (t := 147) i_140_139 rfl (by omega) (by omega) (fun g => ?_) (fun g => ?_)
      · rw [if_neg g]
        refine k_iload_n i_140_147 rfl ?_
        refine k_if_ne (t := 155) i_140_148 rfl (by omega) (fun g2 => ?_) (fun g2 => ?_)
        · rw [if_neg g2]
          refine k_iload_n i_140_155 rfl ?_
          refine k_iret i_140_156 qt_140 ?_
          exact ⟨rfl, I', rfl, hS⟩
        · rw [if_pos (by omega)]
          refine k_iload_n i_140_151 rfl ?_
          refine k_goto (t := 156) i_140_152 rfl ?_
          refine k_iret i_140_156 qt_140 ?_
          exact ⟨rfl, I', rfl, hS⟩
      · rw [if_pos (by omega)]
        refine k_bipush i_140_142 (by decide) ?_
        refine k_goto (t := 156) i_140_144 rfl ?_
        refine k_iret i_140_156 qt_140 ?_
        exact ⟨rfl, I', rfl, hS⟩
    · omega
  | succ f ih =>
    intro c I' x5 x6 hc hB hM hS hwh
    obtain ⟨hT, hR, hOK, hn, h01⟩ := id hB
    obtain ⟨a0, a1, a2, a3, a4, a5, a6, a7, a8⟩ := id hT
    have hw := hOK.1
    have hN := tN_le hw
    have hm1 := tMask_lt T 1
    have hm2 := tMask_lt T 2
    have hor : tMask T 1 ||| tMask T 2 < 2 ^ 20 := Nat.or_lt_two_pow hm1 hm2
    have eN : (I', X).1 0 0 * (I', X).1 0 1 = tN T := by rw [a0, a1]; rfl
    obtain ⟨q1, q2, q3⟩ := hbs_range hw h01 (nt := nt) hE c (by omega)
    have eS : hbs T nt n fr to (c + 1) = if tOn T c = 0 ∧ min 100000000 (hsE T nt fr to c n) < (hbs T nt n fr to c).2 then ((c : Int), min 100000000 (hsE T nt fr to c n)) else hbs T nt n fr to c := rfl
    have hgr : (tMask T 1 ||| tMask T 2).testBit c = decide (tOn T c ≠ 0) := by
      have hg := hw.2.2.2.2.2.2.2 c
      rw [Nat.testBit_or, tMask_bit, tMask_bit]
      unfold tOn
      rw [if_pos ⟨by omega, by omega⟩, show ((c : Int)).toNat = c by omega, ← Bool.decide_or]
      exact decide_eq_decide.mpr ⟨fun z => by omega, fun z => by omega⟩
    refine k_iload i_140_21 rfl ?_
    refine k_aload_n i_140_23 rfl ?_
    refine k_gfI i_140_24 f_12_7 (by first | rfl | assumption | (rw [hR]; rfl) | (dsimp only; rw [hR]; rfl)) (by decide) (by decide) (Or.inl rfl) ?_
    refine k_aload_n i_140_27 rfl ?_
    refine k_gfI i_140_28 f_12_13 (by first | rfl | assumption | (rw [hR]; rfl) | (dsimp only; rw [hR]; rfl)) (by decide) (by decide) (Or.inl rfl) ?_
    refine k_imul i_140_31 ?_
    rw [eN]
    refine k_ic_ge (t := 136) i_140_32 rfl (by omega) (by omega) (fun h => ?_) (fun h => ?_)
    · omega
    · refine k_aload_n i_140_35 rfl ?_
      refine k_gfI i_140_36 f_12_80 (by first | rfl | assumption | (rw [hR]; rfl) | (dsimp only; rw [hR]; rfl)) (by decide) (by decide) (Or.inl rfl) ?_
      refine k_aload_n i_140_39 rfl ?_
      refine k_gfI i_140_40 f_12_167 (by first | rfl | assumption | (rw [hR]; rfl) | (dsimp only; rw [hR]; rfl)) (by decide) (by decide) (Or.inl rfl) ?_
      rw [show (I', X).1 0 2 = (tMask T 1 : Int) from a2, show (I', X).1 0 3 = (tMask T 2 : Int) from a3]
      refine k_ior i_140_43 (J_or _ _) ?_
      refine k_iload i_140_44 rfl ?_
      refine k_sp2 i_140_46 c_12_83 (by decide) qp_109 (Nat.le_of_ble_eq_true rfl) (m_has (by omega) _ (by omega) (by omega)) ?_
      rw [show ((c : Int)).toNat = c by omega, hgr]
      refine k_if_neB (t := 130) i_140_49 rfl (fun h => ?_) (fun h => ?_)
      · have hne := of_decide_eq_true h
        refine k_iinc i_140_130 rfl (Nat.le_of_ble_eq_true rfl) ?_
        dsimp only [q_st1, q_st2, q_unl]
        refine k_goto (t := 21) i_140_133 rfl ?_
        have h2 := ih (c + 1) I' x5 x6 (by omega) hB hM hS hwh
        rw [eS, if_neg (fun z => hne z.1)] at h2
        exact h2
      · have hon : tOn T c = 0 := by
          by_cases z : tOn T c = 0
          · exact z
          · rw [decide_eq_true z] at h; cases h
        refine k_iconst i_140_52 ?_
        refine k_istore i_140_53 (Nat.le_of_ble_eq_true rfl) ?_
        dsimp only [q_st1, q_st2, q_unl]
        refine k_iconst i_140_55 ?_
        refine k_istore i_140_56 (Nat.le_of_ble_eq_true rfl) ?_
        dsimp only [q_st1, q_st2, q_unl]
        have hss := (hsE_nn hw h01 (nt := nt) hE (on_open (c := (c : Int)) (by omega) hon) n (Nat.le_refl _)).1
        have h0 := l_mhe_e (d := d) (I := I) (X := X) (nt := nt) (Q := fun r S2 => r = some (.int (J (Fhe T nt n fr to what))) ∧ ∃ I', S2 = (I', X) ∧ ScM I I') hE what (hbs T nt n fr to c).1 (hbs T nt n fr to c).2 c (by omega) hon (fun I2 hB2 hM2 hS2 => ?_) n 0 I' (by omega) hB hM hS
        · exact h0
        · have hR2 := hB2.2.1
          refine k_iload i_140_110 rfl ?_
          refine k_iload_n i_140_112 rfl ?_
          refine k_ic_ge (t := 121) i_140_113 rfl (by omega) (by omega) (fun g => ?_) (fun g => ?_)
          · refine k_iload_n i_140_121 rfl ?_
            refine k_istore_n i_140_122 (Nat.le_of_ble_eq_true rfl) ?_
            dsimp only [q_st1, q_st2, q_unl]
            refine k_iload_n i_140_123 rfl ?_
            refine k_iload i_140_124 rfl ?_
            refine k_sp2 i_140_126 c_12_108 (by decide) qp_107 (Nat.le_of_ble_eq_true rfl) (m_lesser _ _ (by omega) (by omega)) ?_
            refine k_istore_n i_140_129 (Nat.le_of_ble_eq_true rfl) ?_
            dsimp only [q_st1, q_st2, q_unl]
            refine k_iinc i_140_130 rfl (Nat.le_of_ble_eq_true rfl) ?_
            dsimp only [q_st1, q_st2, q_unl]
            refine k_goto (t := 21) i_140_133 rfl ?_
            have h2 := ih (c + 1) I2 (some (.int (J (min 100000000 (hsE T nt fr to (c : Int) n))))) (some (.int (J (n : Int)))) (by omega) hB2 hM2 hS2 hwh
            rw [eS, if_neg (fun z => by have := z.2; omega)] at h2
            rw [Int.min_eq_left g]
            exact h2
          · refine k_iload i_140_116 rfl ?_
            refine k_goto (t := 122) i_140_118 rfl ?_
            refine k_istore_n i_140_122 (Nat.le_of_ble_eq_true rfl) ?_
            dsimp only [q_st1, q_st2, q_unl]
            refine k_iload_n i_140_123 rfl ?_
            refine k_iload i_140_124 rfl ?_
            refine k_sp2 i_140_126 c_12_108 (by decide) qp_107 (Nat.le_of_ble_eq_true rfl) (m_lesser _ _ (by omega) (by omega)) ?_
            refine k_istore_n i_140_129 (Nat.le_of_ble_eq_true rfl) ?_
            dsimp only [q_st1, q_st2, q_unl]
            refine k_iinc i_140_130 rfl (Nat.le_of_ble_eq_true rfl) ?_
            dsimp only [q_st1, q_st2, q_unl]
            refine k_goto (t := 21) i_140_133 rfl ?_
            have h2 := ih (c + 1) I2 (some (.int (J (min 100000000 (hsE T nt fr to (c : Int) n))))) (some (.int (J (n : Int)))) (by omega) hB2 hM2 hS2 hwh
            rw [eS, if_pos ⟨hon, by omega⟩] at h2
            rw [Int.min_eq_right (by omega)]
            exact h2
theorem m_help (hB : MB I X T nt) (hM : MEr I n fr to) (hE : EOK T n fr to) (what : Int) (hwh : inJ what) : KC shM (d + 5) 140 [.ref 0, .int (J what)] (I, X) (fun r S2 => r = some (.int (J (Fhe T nt n fr to what))) ∧ ∃ I', S2 = (I', X) ∧ ScM I I') := by
  have hN := tN_le hB.2.2.1.1
  refine k_start ql_140 (Nat.le_of_ble_eq_true rfl) ?_
  simp only [q_en, List.replicate]
  refine k_iload_n i_140_0 rfl ?_
  refine k_i2lJ i_140_1 (by omega) ?_
  refine k_lconstJ (a := 0) i_140_2 rfl ?_
  refine k_lconstJ (a := 1) i_140_3 rfl ?_
  refine k_sp3 i_140_4 c_12_72 (by decide) qp_100 (Nat.le_of_ble_eq_true rfl) (m_in _ _ _ (by omega) (by omega) (by omega)) ?_
  refine k_if_neB (t := 12) i_140_7 rfl (fun h => ?_) (fun h => ?_)
  · have g := of_decide_eq_true h
    refine k_bipush i_140_12 (by decide) ?_
    refine k_istore_n i_140_14 (Nat.le_of_ble_eq_true rfl) ?_
    dsimp only [q_st1, q_st2, q_unl]
    refine k_ldc (a := 100000000) i_140_15 n_12_202 (by decide) ?_
    refine k_istore_n i_140_17 (Nat.le_of_ble_eq_true rfl) ?_
    dsimp only [q_st1, q_st2, q_unl]
    refine k_iconst i_140_18 ?_
    refine k_istore i_140_19 (Nat.le_of_ble_eq_true rfl) ?_
    dsimp only [q_st1, q_st2, q_unl]
    exact l_mhe_c (I := I) hE what (tN T).toNat 0 I none none (by omega) hB hM ScM.rf g
  · refine k_iconst i_140_10 ?_
    refine k_iret i_140_11 qt_140 ?_
    refine ⟨?_, I, rfl, ScM.rf⟩
    unfold Fhe
    rw [if_neg (fun z => by rw [decide_eq_true z] at h; cases h)]
end HM
section HX
variable {d : Nat} {T : Tn} {I : Nat → Nat → Int} {X : XX} {h0 s0 w : Nat} {nt b : Int} {Q : Option Value → QS → Prop} {n : Nat} {fr to : Nat → Int}
theorem XEr.sc {I I' : Nat → Nat → Int} (h : XEr I n fr to) (hs : ∀ c, c = 20 ∨ c = 21 ∨ c = 22 → I' c = I c) : XEr I' n fr to := by
  unfold XEr at h ⊢
  rw [hs 20 (by omega), hs 21 (by omega), hs 22 (by omega)]
  exact h
-- method 53: StraightTax$Ways.burdenFrom.(I)I
theorem e_burdenAny (hA : AX I X h0 s0 w T nt b) (hb : 0 ≤ b ∧ b < 20) (c : Int) (hc : 0 ≤ c ∧ c < 20) : KC shX (d + 2) 53 [.ref 32, .int (J c)] (I, X) (fun r S2 => ∃ v, r = some (.int (J v)) ∧ (0 ≤ v ∧ v ≤ 1073741824) ∧ S2 = (I, X)) := by
  obtain ⟨hW, hg, ho1, hn1, hE, hV⟩ := id hA
  have hR := hW.1
  refine k_start ql_53 (Nat.le_of_ble_eq_true rfl) ?_
  simp only [q_en, List.replicate]
  refine k_iload_n i_53_0 rfl ?_
  refine k_aload_n i_53_1 rfl ?_
  refine k_gfI i_53_2 f_10_22 (by first | rfl | assumption | (rw [hR]; rfl) | (dsimp only; rw [hR]; rfl)) (by decide) (by decide) (Or.inl rfl) ?_
  rw [show (I, X).1 32 2 = b from hg]
  refine k_ic_ne (t := 12) i_53_5 rfl (by omega) (by omega) (fun h => ?_) (fun h => ?_)
  · refine k_aload_n i_53_12 rfl ?_
    refine k_iload_n i_53_13 rfl ?_
    refine k_iconst i_53_14 ?_
    refine k_vp2 i_53_15 c_10_89 qp_52 qo_52 (by first | rfl | assumption | (rw [hR]; rfl) | (dsimp only; rw [hR]; rfl)) (Nat.le_of_ble_eq_true rfl) (e_turning hR c (-1) hc (by omega) (by intro j hj; have := ho1 j hj; omega)) ?_
    refine k_iret i_53_18 qt_53 ?_
    refine ⟨_, rfl, ?_, rfl⟩
    unfold tu
    rcases tuk_is (O := pt (I 35)) (c := c) (but := -1) 4 with h | ⟨q, q1, q2, q3⟩
    · omega
    · rw [q3]
      exact ho1 _ (by omega)
  · refine k_iconst i_53_8 ?_
    refine k_goto (t := 18) i_53_9 rfl ?_
    refine k_iret i_53_18 qt_53 ?_
    exact ⟨0, rfl, by omega, rfl⟩
-- method 59: StraightTax$Ways.penceFrom.(I)I
theorem e_penceAny (hA : AX I X h0 s0 w T nt b) (hb : 0 ≤ b ∧ b < tN T) (c : Int) (hc : 0 ≤ c ∧ c < 20) : KC shX (d + 3) 59 [.ref 32, .int (J c)] (I, X) (fun r S2 => ∃ v, r = some (.int (J v)) ∧ (0 ≤ v ∧ v ≤ 1073741824) ∧ (tOpen T c = true → v = pX T nt b c) ∧ S2 = (I, X)) := by
  have hOK := hA.1.2.2.2.2.2.2.1
  have h01 := hA.1.2.2.2.2.2.1
  have hN := tN_le hOK.1
  by_cases ho : tOpen T c = true
  · refine (e_penceFrom (d := d) hA hb c hc ho).mono (fun r S2 h => ?_)
    have := pX_range hOK h01 (open_lt ho) hb
    exact ⟨_, h.1, this, fun _ => rfl, h.2⟩
  · refine k_start ql_59 (Nat.le_of_ble_eq_true rfl) ?_
    simp only [q_en, List.replicate]
    refine k_aload_n i_59_0 rfl ?_
    refine k_iload_n i_59_1 rfl ?_
    refine k_cv1 i_59_2 c_10_97 qp_53 qo_53 (by first | rfl | assumption | (rw [hR]; rfl) | (dsimp only; rw [hR]; rfl)) (Nat.le_of_ble_eq_true rfl) (e_burdenAny hA (by omega) c hc) (fun v S2 h => ?_)
    obtain ⟨v, rfl, hv, rfl⟩ := h
    show K shX (d + 3) 59 5 _ [.int (J v)] _ _
    refine k_istore_n i_59_5 (Nat.le_of_ble_eq_true rfl) ?_
    dsimp only [q_st1, q_st2, q_unl]
    refine k_iload_n i_59_6 rfl ?_
    refine k_ldc (a := 1073741824) i_59_7 n_10_64 (by decide) ?_
    refine k_ic_ge (t := 19) i_59_9 rfl (by omega) (by omega) (fun h => ?_) (fun h => ?_)
    · refine k_ldc (a := 1073741824) i_59_19 n_10_64 (by decide) ?_
      refine k_iret i_59_21 qt_59 ?_
      exact ⟨_, rfl, by omega, fun z => absurd z ho, rfl⟩
    · refine k_iload_n i_59_12 rfl ?_
      refine k_sp1 i_59_13 c_10_101 (by decide) qp_54 (Nat.le_of_ble_eq_true rfl) (e_penceOf _ (by omega)) ?_
      refine k_goto (t := 21) i_59_16 rfl ?_
      refine k_iret i_59_21 qt_59 ?_
      exact ⟨_, rfl, by omega, fun z => absurd z ho, rfl⟩
-- method 5: StraightTax$Errands.haveWays.(LStraightTax$Ways;)Z
/-- what has been found of the first errands -/
def HW (T : Tn) (nt : Int) (fr to : Nat → Int) (I : Nat → Nat → Int) (e : Nat) : Prop := ∀ i, i < e → rc T (fr i) (to i) ∧ I 23 i = pX T nt (to i) (fr i) ∧ ∀ c : Nat, (c : Int) < 20 → tOpen T c = true → I 24 (20 * i + c) = pX T nt (to i) c
theorem HW.sc {I I' : Nat → Nat → Int} {e : Nat} (h : HW T nt fr to I e) (h1 : I' 23 = I 23) (h2 : I' 24 = I 24) : HW T nt fr to I' e := by
  unfold HW at h ⊢
  rw [h1, h2]
  exact h
theorem l_haveWays (hE : EOK T n fr to)
    (hno : ∀ (I' : Nat → Nat → Int), ScrE I I' → (∃ i, i < n ∧ ¬ rc T (fr i) (to i)) → Q (some (.int (J 0))) (I', X))
    (hyes : ∀ (I' : Nat → Nat → Int), ScrE I I' → WX I' X h0 s0 w T nt → XEr I' n fr to → HW T nt fr to I' n → Q (some (.int (J 1))) (I', X)) :
    ∀ (f e : Nat) (I' : Nat → Nat → Int) (x3 : Option Value), e + f = n → WX I' X h0 s0 w T nt → XEr I' n fr to → ScrE I I' → HW T nt fr to I' e → K shX (d + 6) 5 2 [some (.ref 20), some (.ref 32), some (.int (J (e : Int))), x3] [] (I', X) Q := by
  have h6 := hE.1
  intro f
  induction f with
  | zero =>
    intro e I' x3 he hW hX hS hH
    have hR := hW.1
    have e1 : e = n := by omega
    subst e1
    refine k_iload_n i_5_2 rfl ?_
    refine k_aload_n i_5_3 rfl ?_
    refine k_gfI i_5_4 f_4_9 (by first | rfl | assumption | (rw [hR]; rfl) | (dsimp only; rw [hR]; rfl)) (by decide) (by decide) (Or.inl rfl) ?_
    rw [show (I', X).1 20 0 = (e : Int) from hX.1]
    refine k_ic_ge (t := 91) i_5_7 rfl (by omega) (by omega) (fun h => ?_) (fun h => ?_)
    · refine k_iconst i_5_91 ?_
      refine k_nret i_5_92 qt_5 (by first | exact bi_nar _ | rfl) ?_
      exact hyes I' hS hW hX hH
    · omega
  | succ f ih =>
    intro e I' x3 he hW hX hS hH
    have hR := hW.1
    have hOK := hW.2.2.2.2.2.2.1
    have hw := hOK.1
    have h01 := hW.2.2.2.2.2.1
    have hN := tN_le hw
    have hfr := (hE.2 e (by omega)).1
    have hto := (hE.2 e (by omega)).2
    have hfr' := open_lt hfr
    have hto' := open_lt hto
    have hpr := pX_range hOK h01 hfr' hto'
    refine k_iload_n i_5_2 rfl ?_
    refine k_aload_n i_5_3 rfl ?_
    refine k_gfI i_5_4 f_4_9 (by first | rfl | assumption | (rw [hR]; rfl) | (dsimp only; rw [hR]; rfl)) (by decide) (by decide) (Or.inl rfl) ?_
    rw [show (I', X).1 20 0 = (n : Int) from hX.1]
    refine k_ic_ge (t := 91) i_5_7 rfl (by omega) (by omega) (fun h => ?_) (fun h => ?_)
    · omega
    · refine k_iload_n i_5_10 rfl ?_
      refine k_bipush i_5_11 (by decide) ?_
      refine k_ic_ge (t := 91) i_5_13 rfl (by omega) (by omega) (fun h => ?_) (fun h => ?_)
      · omega
      · refine k_aload_n i_5_16 rfl ?_
        refine k_aload_n i_5_17 rfl ?_
        refine k_gfR i_5_18 f_4_19 (by first | rfl | assumption | (rw [hR]; rfl) | (dsimp only; rw [hR]; rfl)) (by decide) (by decide) (Or.inr ⟨_, rfl⟩) (by first | rfl | assumption | (rw [hR]; rfl) | (dsimp only; rw [hR]; rfl)) ?_
        refine k_iload_n i_5_21 rfl ?_
        refine k_iald i_5_22 rfl (by decide) (by omega) (by omega) ?_
        rw [show (I', X).1 22 ((e : Int)).toNat = to e from by rw [show ((e : Int)).toNat = e by omega]; exact (hX.2 e (by omega)).2]
        refine k_cv1 i_5_23 c_4_28 qp_49 qo_49 (by first | rfl | assumption | (rw [hR]; rfl) | (dsimp only; rw [hR]; rfl)) (Nat.le_of_ble_eq_true rfl) (e_aim2 (d := d + 1) hW hto') (fun v S2 h => ?_)
        obtain ⟨rfl, I1, rfl, hS1, hA1, hsame⟩ := h
        show K shX (d + 6) 5 26 _ [] _ _
        have hX1 : XEr I1 n fr to := hX.sc (fun c hc => hsame c (by omega) (by omega) (by omega))
        have hH1 : HW T nt fr to I1 e := hH.sc (hsame 23 (by omega) (by omega) (by omega)) (hsame 24 (by omega) (by omega) (by omega))
        refine k_aload_n i_5_26 rfl ?_
        refine k_gfR i_5_27 f_4_22 (by first | rfl | assumption | (rw [hR]; rfl) | (dsimp only; rw [hR]; rfl)) (by decide) (by decide) (Or.inr ⟨_, rfl⟩) (by first | rfl | assumption | (rw [hR]; rfl) | (dsimp only; rw [hR]; rfl)) ?_
        refine k_iload_n i_5_30 rfl ?_
        refine k_aload_n i_5_31 rfl ?_
        refine k_aload_n i_5_32 rfl ?_
        refine k_gfR i_5_33 f_4_15 (by first | rfl | assumption | (rw [hR]; rfl) | (dsimp only; rw [hR]; rfl)) (by decide) (by decide) (Or.inr ⟨_, rfl⟩) (by first | rfl | assumption | (rw [hR]; rfl) | (dsimp only; rw [hR]; rfl)) ?_
        refine k_iload_n i_5_36 rfl ?_
        refine k_iald i_5_37 rfl (by decide) (by omega) (by omega) ?_
        rw [show (I1, X).1 21 ((e : Int)).toNat = fr e from by rw [show ((e : Int)).toNat = e by omega]; exact (hX1.2 e (by omega)).1]
        refine k_vp1 i_5_38 c_4_34 qp_59 qo_59 (by first | rfl | assumption | (rw [hR]; rfl) | (dsimp only; rw [hR]; rfl)) (Nat.le_of_ble_eq_true rfl) (e_penceFrom (d := d + 2) hA1 hto' _ (by omega) hfr) ?_
        refine k_iast i_5_41 rfl (by decide) (by omega) (by omega) ?_
        dsimp only
        rw [show ((e : Int)).toNat = e by omega]
        have hA2 : AX (q_up I1 23 e (pX T nt (to e) (fr e))) X h0 s0 w T nt (to e) := hA1.sc (fun c hc => (q_up_c (f := I1) (by omega)).symm)
        have hS2 : ScrE I (q_up I1 23 e (pX T nt (to e) (fr e))) := (hS.trans hS1.e).trans (ScrE.up (by omega))
        have hX2 : XEr (q_up I1 23 e (pX T nt (to e) (fr e))) n fr to := hX1.sc (fun c hc => (q_up_c (f := I1) (by omega)).symm)
        have hH2 : HW T nt fr to (q_up I1 23 e (pX T nt (to e) (fr e))) e := fun i hi => ⟨(hH1 i hi).1, by rw [q_up_n (by omega)]; exact (hH1 i hi).2.1, fun c c1 c2 => by rw [q_up_n (by omega)]; exact (hH1 i hi).2.2 c c1 c2⟩
        have hd2 : q_up I1 23 e (pX T nt (to e) (fr e)) 23 e = pX T nt (to e) (fr e) := q_up_s
        generalize q_up I1 23 e (pX T nt (to e) (fr e)) = I2 at hA2 hS2 hX2 hH2 hd2 ⊢
        refine k_aload_n i_5_42 rfl ?_
        refine k_gfR i_5_43 f_4_22 (by first | rfl | assumption | (rw [hR]; rfl) | (dsimp only; rw [hR]; rfl)) (by decide) (by decide) (Or.inr ⟨_, rfl⟩) (by first | rfl | assumption | (rw [hR]; rfl) | (dsimp only; rw [hR]; rfl)) ?_
        refine k_iload_n i_5_46 rfl ?_
        refine k_iald i_5_47 rfl (by decide) (by omega) (by omega) ?_
        rw [show (I2, X).1 23 ((e : Int)).toNat = pX T nt (to e) (fr e) from by rw [show ((e : Int)).toNat = e by omega]; exact hd2]
        refine k_ldc (a := 1073741824) i_5_48 n_4_38 (by decide) ?_
        refine k_ic_lt (t := 55) i_5_50 rfl (by omega) (by omega) (fun g => ?_) (fun g => ?_)
        · refine k_iconst i_5_55 ?_
          refine k_istore_n i_5_56 (Nat.le_of_ble_eq_true rfl) ?_
          dsimp only [q_st1, q_st2, q_unl]
          have hrc : rc T (fr e) (to e) := by
            rcases rc_pM hw h01 hfr hto' (nt := nt) with z | z
            · exact z.1
            · omega
          have inner : ∀ (g c : Nat) (I2 : Nat → Nat → Int), c + g = 20 → AX I2 X h0 s0 w T nt (to e) → ScrE I I2 → XEr I2 n fr to → HW T nt fr to I2 e → I2 23 e = pX T nt (to e) (fr e) → (∀ c' : Nat, c' < c → tOpen T c' = true → I2 24 (20 * e + c') = pX T nt (to e) c') → K shX (d + 6) 5 57 [some (.ref 20), some (.ref 32), some (.int (J (e : Int))), some (.int (J (c : Int)))] [] (I2, X) Q := by
            intro g
            induction g with
            | zero =>
              intro c I2 hc hA hS hX hH hd hr
              have e1 : c = 20 := by omega
              subst e1
              refine k_iload_n i_5_57 rfl ?_
              refine k_bipush i_5_58 (by decide) ?_
              refine k_ic_ge (t := 85) i_5_60 rfl (by omega) (by omega) (fun h => ?_) (fun h => ?_)
              · refine k_iinc i_5_85 rfl (Nat.le_of_ble_eq_true rfl) ?_
                dsimp only [q_st1, q_st2, q_unl]
                refine k_goto (t := 2) i_5_88 rfl ?_
                refine ih (e + 1) I2 _ (by omega) hA.1 hX hS (fun i hi => ?_)
                by_cases z : i = e
                · subst z; exact ⟨hrc, hd, fun c c1 c2 => hr c (by omega) c2⟩
                · exact hH i (by omega)
              · omega
            | succ g ih2 =>
              intro c I2 hc hA hS hX hH hd hr
              have hR := hA.1.1
              refine k_iload_n i_5_57 rfl ?_
              refine k_bipush i_5_58 (by decide) ?_
              refine k_ic_ge (t := 85) i_5_60 rfl (by omega) (by omega) (fun h => ?_) (fun h => ?_)
              · omega
              · refine k_aload_n i_5_63 rfl ?_
                refine k_gfR i_5_64 f_4_25 (by first | rfl | assumption | (rw [hR]; rfl) | (dsimp only; rw [hR]; rfl)) (by decide) (by decide) (Or.inr ⟨_, rfl⟩) (by first | rfl | assumption | (rw [hR]; rfl) | (dsimp only; rw [hR]; rfl)) ?_
                refine k_iload_n i_5_67 rfl ?_
                refine k_bipush i_5_68 (by decide) ?_
                refine k_imul i_5_70 ?_
                refine k_iload_n i_5_71 rfl ?_
                refine k_iadd i_5_72 ?_
                refine k_aload_n i_5_73 rfl ?_
                refine k_iload_n i_5_74 rfl ?_
                refine k_cv1 i_5_75 c_4_34 qp_59 qo_59 (by first | rfl | assumption | (rw [hR]; rfl) | (dsimp only; rw [hR]; rfl)) (Nat.le_of_ble_eq_true rfl) (e_penceAny (d := d + 2) hA hto' _ (by omega)) (fun v S2 h => ?_)
                obtain ⟨v, rfl, hv, hv2, rfl⟩ := h
                show K shX (d + 6) 5 78 _ (.int (J v) :: _) _ _
                refine k_iast i_5_78 rfl (by decide) (by omega) (by omega) ?_
                dsimp only
                refine k_iinc i_5_79 rfl (Nat.le_of_ble_eq_true rfl) ?_
                dsimp only [q_st1, q_st2, q_unl]
                refine k_goto (t := 57) i_5_82 rfl ?_
                rw [show ((e : Int) * 20 + (c : Int)).toNat = 20 * e + c by omega]
                refine ih2 (c + 1) _ (by omega) (hA.sc (fun c hc => (q_up_c (f := I2) (by omega)).symm)) (hS.trans (ScrE.up (by omega))) (hX.sc (fun c hc => (q_up_c (f := I2) (by omega)).symm)) (fun i hi => ⟨(hH i hi).1, by rw [q_up_n (by omega)]; exact (hH i hi).2.1, fun c c1 c2 => by rw [q_up_n (by omega)]; exact (hH i hi).2.2 c c1 c2⟩) (by rw [q_up_n (by omega)]; exact hd) (fun c' c1 c2 => ?_)
                by_cases z : c' = c
                · subst z; rw [q_up_s]; exact hv2 c2
                · rw [q_up_n (by omega)]; exact hr c' (by omega) c2
          exact inner 20 0 I2 (by omega) hA2 hS2 hX2 hH2 hd2 (fun c' hc' => by omega)
        · refine k_iconst i_5_53 ?_
          refine k_nret i_5_54 qt_5 (by first | exact bi_nar _ | rfl) ?_
          refine hno I2 hS2 ⟨e, by omega, fun z => ?_⟩
          rcases rc_pM hw h01 hfr hto' (nt := nt) with y | y
          · omega
          · exact y.1 z
-- method 6: StraightTax$Errands.withElbow.(ILStraightTax$Ways;)I
theorem l_withElbow (hE : EOK T n fr to) (c : Int) (hc : 0 ≤ c ∧ c < tN T) (hco : tOpen T c = true) (hA : AX I X h0 s0 w T nt c) (hX : XEr I n fr to) (hH : HW T nt fr to I n) : ∀ (f e : Nat) (x5 x6 : Option Value), e + f = n → K shX (d + 6) 6 10 [some (.ref 20), some (.int (J c)), some (.ref 32), some (.int (J (hsE T nt fr to c e))), some (.int (J (e : Int))), x5, x6] [] (I, X) (fun r S2 => r = some (.int (J (hsE T nt fr to c n))) ∧ S2 = (I, X)) := by
  have h6 := hE.1
  have hR := hA.1.1
  have hOK := hA.1.2.2.2.2.2.2.1
  have hw := hOK.1
  have h01 := hA.1.2.2.2.2.2.1
  have hN := tN_le hw
  intro f
  induction f with
  | zero =>
    intro e x5 x6 he
    have e1 : e = n := by omega
    subst e1
    refine k_iload i_6_10 rfl ?_
    refine k_aload_n i_6_12 rfl ?_
    refine k_gfI i_6_13 f_4_9 (by first | rfl | assumption | (rw [hR]; rfl) | (dsimp only; rw [hR]; rfl)) (by decide) (by decide) (Or.inl rfl) ?_
    rw [show (I, X).1 20 0 = (e : Int) from hX.1]
    refine k_ic_ge (t := 89) i_6_16 rfl (by omega) (by omega) (fun h => ?_) (fun h => ?_)
    · refine k_iload_n i_6_89 rfl ?_
      refine k_iret i_6_90 qt_6 ?_
      exact ⟨rfl, rfl⟩
    · omega
  | succ f ih =>
    intro e x5 x6 he
    have hfr := (hE.2 e (by omega)).1
    have hto := (hE.2 e (by omega)).2
    have hfr' := open_lt hfr
    have hto' := open_lt hto
    have hp1 := pX_range hOK h01 hfr' hc
    obtain ⟨r1, r2, r3⟩ := hH e (by omega)
    have hp2 := pX_range hOK h01 hfr' hto'
    have hp3 := pX_range hOK h01 hc hto'
    have heq := (pE_eq hw h01 (nt := nt) hfr hto hco).1 r1
    have hi := fun x5 x6 => ih (e + 1) x5 x6 (by omega)
    rw [hsE_S, heq.1] at hi
    have k66 : ∀ v : Int, v = (if pX T nt c (fr e) < 1073741824 then pX T nt c (fr e) + pX T nt (to e) c else 1073741824) → K shX (d + 6) 6 66 [some (.ref 20), some (.int (J c)), some (.ref 32), some (.int (J (hsE T nt fr to c e))), some (.int (J (e : Int))), some (.int (J (pX T nt c (fr e)))), x6] [.int (J v)] (I, X) (fun r S2 => r = some (.int (J (hsE T nt fr to c n))) ∧ S2 = (I, X)) := by
      intro v hv
      have hvr : 0 ≤ v ∧ v < 2147483648 := by
        rw [hv]; split <;> omega
      rw [← hv] at hi
      refine k_istore i_6_66 (Nat.le_of_ble_eq_true rfl) ?_
      dsimp only [q_st1, q_st2, q_unl]
      refine k_iload_n i_6_68 rfl ?_
      refine k_aload_n i_6_69 rfl ?_
      refine k_gfR i_6_70 f_4_22 (by first | rfl | assumption | (rw [hR]; rfl) | (dsimp only; rw [hR]; rfl)) (by decide) (by decide) (Or.inr ⟨_, rfl⟩) (by first | rfl | assumption | (rw [hR]; rfl) | (dsimp only; rw [hR]; rfl)) ?_
      refine k_iload i_6_73 rfl ?_
      refine k_iald i_6_75 rfl (by decide) (by omega) (by omega) ?_
      rw [show (I, X).1 23 ((e : Int)).toNat = pX T nt (to e) (fr e) from by rw [show ((e : Int)).toNat = e by omega]; exact r2]
      refine k_iload i_6_76 rfl ?_
      refine k_sp2 i_6_78 c_4_39 (by decide) qp_155 (Nat.le_of_ble_eq_true rfl) (e_min _ _ (by omega) (by omega)) ?_
      refine k_iadd i_6_81 ?_
      refine k_istore_n i_6_82 (Nat.le_of_ble_eq_true rfl) ?_
      dsimp only [q_st1, q_st2, q_unl]
      refine k_iinc i_6_83 rfl (Nat.le_of_ble_eq_true rfl) ?_
      dsimp only [q_st1, q_st2, q_unl]
      refine k_goto (t := 10) i_6_86 rfl ?_
      exact hi _ _
    refine k_iload i_6_10 rfl ?_
    refine k_aload_n i_6_12 rfl ?_
    refine k_gfI i_6_13 f_4_9 (by first | rfl | assumption | (rw [hR]; rfl) | (dsimp only; rw [hR]; rfl)) (by decide) (by decide) (Or.inl rfl) ?_
    rw [show (I, X).1 20 0 = (n : Int) from hX.1]
    refine k_ic_ge (t := 89) i_6_16 rfl (by omega) (by omega) (fun h => ?_) (fun h => ?_)
    · omega
    · refine k_iload i_6_19 rfl ?_
      refine k_bipush i_6_21 (by decide) ?_
      refine k_ic_ge (t := 89) i_6_23 rfl (by omega) (by omega) (fun h => ?_) (fun h => ?_)
      · omega
      · refine k_aload_n i_6_26 rfl ?_
        refine k_aload_n i_6_27 rfl ?_
        refine k_gfR i_6_28 f_4_15 (by first | rfl | assumption | (rw [hR]; rfl) | (dsimp only; rw [hR]; rfl)) (by decide) (by decide) (Or.inr ⟨_, rfl⟩) (by first | rfl | assumption | (rw [hR]; rfl) | (dsimp only; rw [hR]; rfl)) ?_
        refine k_iload i_6_31 rfl ?_
        refine k_iald i_6_33 rfl (by decide) (by omega) (by omega) ?_
        rw [show (I, X).1 21 ((e : Int)).toNat = fr e from by rw [show ((e : Int)).toNat = e by omega]; exact (hX.2 e (by omega)).1]
        refine k_vp1 i_6_34 c_4_34 qp_59 qo_59 (by first | rfl | assumption | (rw [hR]; rfl) | (dsimp only; rw [hR]; rfl)) (Nat.le_of_ble_eq_true rfl) (e_penceFrom (d := d + 2) hA hc _ (by omega) hfr) ?_
        refine k_istore i_6_37 (Nat.le_of_ble_eq_true rfl) ?_
        dsimp only [q_st1, q_st2, q_unl]
        refine k_iload i_6_39 rfl ?_
        refine k_ldc (a := 1073741824) i_6_41 n_4_38 (by decide) ?_
        refine k_ic_ge (t := 64) i_6_43 rfl (by omega) (by omega) (fun g => ?_) (fun g => ?_)
        · refine k_ldc (a := 1073741824) i_6_64 n_4_38 (by decide) ?_
          exact k66 _ (by rw [if_neg (by omega)])
        · refine k_iload i_6_46 rfl ?_
          refine k_aload_n i_6_48 rfl ?_
          refine k_gfR i_6_49 f_4_25 (by first | rfl | assumption | (rw [hR]; rfl) | (dsimp only; rw [hR]; rfl)) (by decide) (by decide) (Or.inr ⟨_, rfl⟩) (by first | rfl | assumption | (rw [hR]; rfl) | (dsimp only; rw [hR]; rfl)) ?_
          refine k_iload i_6_52 rfl ?_
          refine k_bipush i_6_54 (by decide) ?_
          refine k_imul i_6_56 ?_
          refine k_iload_n i_6_57 rfl ?_
          refine k_iadd i_6_58 ?_
          refine k_iald i_6_59 rfl (by decide) (by omega) (by omega) ?_
          rw [show (I, X).1 24 ((e : Int) * 20 + c).toNat = pX T nt (to e) c from by
            obtain ⟨k, rfl⟩ : ∃ k : Nat, c = k := ⟨c.toNat, by omega⟩
            rw [show ((e : Int) * 20 + (k : Int)).toNat = 20 * e + k by omega]
            exact r3 k (by omega) hco]
          refine k_iadd i_6_60 ?_
          refine k_goto (t := 66) i_6_61 rfl ?_
          exact k66 _ (by rw [if_pos (by omega)])
theorem e_withElbow (hE : EOK T n fr to) (c : Int) (hc : 0 ≤ c ∧ c < tN T) (hco : tOpen T c = true) (hW : WX I X h0 s0 w T nt) (hX : XEr I n fr to) (hH : HW T nt fr to I n) : KC shX (d + 6) 6 [.ref 20, .int (J c), .ref 32] (I, X) (fun r S2 => r = some (.int (J (hsE T nt fr to c n))) ∧ ∃ I', S2 = (I', X) ∧ Scr I I' ∧ WX I' X h0 s0 w T nt ∧ XEr I' n fr to ∧ HW T nt fr to I' n) := by
  have hR := hW.1
  refine k_start ql_6 (Nat.le_of_ble_eq_true rfl) ?_
  simp only [q_en, List.replicate]
  refine k_aload_n i_6_0 rfl ?_
  refine k_iload_n i_6_1 rfl ?_
  refine k_cv1 i_6_2 c_4_28 qp_49 qo_49 (by first | rfl | assumption | (rw [hR]; rfl) | (dsimp only; rw [hR]; rfl)) (Nat.le_of_ble_eq_true rfl) (e_aim2 (d := d + 1) hW hc) (fun v S2 h => ?_)
  obtain ⟨rfl, I1, rfl, hS1, hA1, hsame⟩ := h
  show K shX (d + 6) 6 5 _ [] _ _
  have hX1 : XEr I1 n fr to := hX.sc (fun c hc => hsame c (by omega) (by omega) (by omega))
  have hH1 : HW T nt fr to I1 n := hH.sc (hsame 23 (by omega) (by omega) (by omega)) (hsame 24 (by omega) (by omega) (by omega))
  refine k_iconst i_6_5 ?_
  refine k_istore_n i_6_6 (Nat.le_of_ble_eq_true rfl) ?_
  dsimp only [q_st1, q_st2, q_unl]
  refine k_iconst i_6_7 ?_
  refine k_istore i_6_8 (Nat.le_of_ble_eq_true rfl) ?_
  dsimp only [q_st1, q_st2, q_unl]
  refine (l_withElbow hE c hc hco hA1 hX1 hH1 n 0 none none (by omega)).mono (fun r S2 hh => ?_)
  exact ⟨hh.1, I1, hh.2, hS1, hA1.1, hX1, hH1⟩
-- method 91: StraightTax.help.(I)I
/-- the class's least, where the reference has its own bound for none -/
theorem hsE_small (hw : tWF T) (h01 : nt = 0 ∨ nt = 1) (hE : EOK T n fr to) (hall : ∀ i, i < n → rc T (fr i) (to i)) {c : Int} (hc : tOpen T c = true) : ∀ e, e ≤ n → 0 ≤ hsE T nt fr to c e ∧ hsE T nt fr to c e ≤ 95931 * e
  | 0, _ => by show 0 ≤ 0 ∧ (0 : Int) ≤ 95931 * ((0 : Nat) : Int); omega
  | e + 1, he => by
    have ih := hsE_small hw h01 hE hall hc e (by omega)
    have := (pE_eq hw h01 (nt := nt) (hE.2 e (by omega)).1 (hE.2 e (by omega)).2 hc).1 (hall e (by omega))
    rw [hsE_S]
    omega
theorem l_xhe (hE : EOK T n fr to) (hall : ∀ i, i < n → rc T (fr i) (to i)) (what : Int) (hwh : 0 ≤ what ∧ what ≤ 1) : ∀ (f c : Nat) (I' : Nat → Nat → Int) (x5 : Option Value) (lst : Int), (c : Int) + f = tN T → lst = (if (hbs T nt n fr to c).1 = -9 then 1073741824 else (hbs T nt n fr to c).2) → WX I' X h0 s0 h0 T nt → XEr I' n fr to → HW T nt fr to I' n → ScrE I I' → K shX (d + 7) 91 53 [some (.ref 0), some (.int (J what)), some (.int (J (hbs T nt n fr to c).1)), some (.int (J lst)), some (.int (J (c : Int))), x5] [] (I', X) (fun r S2 => r = some (.int (J (Fhe T nt n fr to what))) ∧ ∃ I', S2 = (I', X) ∧ ScrE I I') := by
  have h6 := hE.1
  intro f
  induction f with
  | zero =>
    intro c I' x5 lst hc hl hW hX hH hS
    obtain ⟨hR, hw4, hT, hXx, hnt, h01, hOK, hwt⟩ := id hW
    obtain ⟨s1, s2, s3, r1, r2, a0, a1, a2, a3, a4, a5, a6, ag⟩ := id hT
    have hw := hOK.1
    have hN := tN_le hw
    obtain ⟨q1, q2, q3⟩ := hbs_range hw h01 (nt := nt) hE c (by omega)
    have ec : c = (tN T).toNat := by omega
    have eF : Fhe T nt n fr to what = if (hbs T nt n fr to c).1 = -9 then -9 else if what = 0 then (hbs T nt n fr to c).1 else (hbs T nt n fr to c).2 := by
      unfold Fhe
      rw [if_pos hwh, ec]
    rw [eF]
    refine k_iload i_91_53 rfl ?_
    refine k_aload_n i_91_55 rfl ?_
    refine k_gfR i_91_56 f_11_54 (by first | rfl | assumption | (rw [hR]; rfl) | (dsimp only; rw [hR]; rfl)) (by decide) (by decide) (Or.inl ⟨_, rfl⟩) (by first | rfl | assumption | (rw [hR]; rfl) | (dsimp only; rw [hR]; rfl)) ?_
    refine k_vp0 i_91_59 c_11_235 qp_28 qo_28 (by first | rfl | assumption | (rw [hR]; rfl) | (dsimp only; rw [hR]; rfl)) (Nat.le_of_ble_eq_true rfl) (e_squares hT) ?_
    refine k_ic_ge (t := 110) i_91_62 rfl (by omega) (by omega) (fun h => ?_) (fun h => ?_)
    · refine k_iload_n i_91_110 rfl ?_
      refine k_bipush i_91_111 (by decide) ?_
      refine k_ic_ne (t := 119) i_91_113 rfl (by omega) (by omega) (fun g => ?_) (fun g => ?_)
      · rw [if_neg g] at hl ⊢
        refine k_iload_n i_91_119 rfl ?_
        refine k_if_ne (t := 127) i_91_120 rfl (by omega) (fun g2 => ?_) (fun g2 => ?_)
        · rw [if_neg g2, hl]
          refine k_iload_n i_91_127 rfl ?_
          refine k_iret i_91_128 qt_91 ?_
          exact ⟨rfl, I', rfl, hS⟩
        · rw [if_pos (by omega)]
          refine k_iload_n i_91_123 rfl ?_
          refine k_goto (t := 128) i_91_124 rfl ?_
          refine k_iret i_91_128 qt_91 ?_
          exact ⟨rfl, I', rfl, hS⟩
      · rw [if_pos (by omega)]
        refine k_bipush i_91_116 (by decide) ?_
        refine k_iret i_91_118 qt_91 ?_
        exact ⟨rfl, I', rfl, hS⟩
    · omega
  | succ f ih =>
    intro c I' x5 lst hc hl hW hX hH hS
    obtain ⟨hR, hw4, hT, hXx, hnt, h01, hOK, hwt⟩ := id hW
    obtain ⟨s1, s2, s3, r1, r2, a0, a1, a2, a3, a4, a5, a6, ag⟩ := id hT
    have hw := hOK.1
    have hN := tN_le hw
    obtain ⟨q1, q2, q3⟩ := hbs_range hw h01 (nt := nt) hE c (by omega)
    have eS : hbs T nt n fr to (c + 1) = if tOn T c = 0 ∧ min 100000000 (hsE T nt fr to c n) < (hbs T nt n fr to c).2 then ((c : Int), min 100000000 (hsE T nt fr to c n)) else hbs T nt n fr to c := rfl
    have hlr : 0 ≤ lst ∧ lst ≤ 1073741824 := by rw [hl]; split <;> omega
    have hon2 := tOn_le hw (c : Int)
    refine k_iload i_91_53 rfl ?_
    refine k_aload_n i_91_55 rfl ?_
    refine k_gfR i_91_56 f_11_54 (by first | rfl | assumption | (rw [hR]; rfl) | (dsimp only; rw [hR]; rfl)) (by decide) (by decide) (Or.inl ⟨_, rfl⟩) (by first | rfl | assumption | (rw [hR]; rfl) | (dsimp only; rw [hR]; rfl)) ?_
    refine k_vp0 i_91_59 c_11_235 qp_28 qo_28 (by first | rfl | assumption | (rw [hR]; rfl) | (dsimp only; rw [hR]; rfl)) (Nat.le_of_ble_eq_true rfl) (e_squares hT) ?_
    refine k_ic_ge (t := 110) i_91_62 rfl (by omega) (by omega) (fun h => ?_) (fun h => ?_)
    · omega
    · refine k_aload_n i_91_65 rfl ?_
      refine k_gfR i_91_66 f_11_54 (by first | rfl | assumption | (rw [hR]; rfl) | (dsimp only; rw [hR]; rfl)) (by decide) (by decide) (Or.inl ⟨_, rfl⟩) (by first | rfl | assumption | (rw [hR]; rfl) | (dsimp only; rw [hR]; rfl)) ?_
      refine k_iload i_91_69 rfl ?_
      refine k_vp1 i_91_71 c_11_110 qp_29 qo_29 (by first | rfl | assumption | (rw [hR]; rfl) | (dsimp only; rw [hR]; rfl)) (Nat.le_of_ble_eq_true rfl) (e_thingOn hT _ (by omega)) ?_
      refine k_if_ne (t := 104) i_91_74 rfl (by omega) (fun g => ?_) (fun g => ?_)
      · refine k_iinc i_91_104 rfl (Nat.le_of_ble_eq_true rfl) ?_
        dsimp only [q_st1, q_st2, q_unl]
        refine k_goto (t := 53) i_91_107 rfl ?_
        have eS2 : hbs T nt n fr to (c + 1) = hbs T nt n fr to c := by rw [eS, if_neg (fun z => g z.1)]
        have h2 := ih (c + 1) I' x5 lst (by omega) (by rw [eS2]; exact hl) hW hX hH hS
        rw [eS2] at h2
        exact h2
      · have hon : tOn T c = 0 := by omega
        have hco := on_open (c := (c : Int)) (by omega) hon
        have hsm := hsE_small hw h01 (nt := nt) hE hall hco n (Nat.le_refl _)
        have emin : min 100000000 (hsE T nt fr to (c : Int) n) = hsE T nt fr to (c : Int) n := by omega
        rw [emin] at eS
        refine k_aload_n i_91_77 rfl ?_
        refine k_gfR i_91_78 f_11_34 (by first | rfl | assumption | (rw [hR]; rfl) | (dsimp only; rw [hR]; rfl)) (by decide) (by decide) (Or.inl ⟨_, rfl⟩) (by first | rfl | assumption | (rw [hR]; rfl) | (dsimp only; rw [hR]; rfl)) ?_
        refine k_iload i_91_81 rfl ?_
        refine k_aload_n i_91_83 rfl ?_
        refine k_gfR i_91_84 f_11_47 (by first | rfl | assumption | (rw [hR]; rfl) | (dsimp only; rw [hR]; rfl)) (by decide) (by decide) (Or.inl ⟨_, rfl⟩) (by first | rfl | assumption | (rw [hR]; rfl) | (dsimp only; rw [hR]; rfl)) ?_
        refine k_cv2 i_91_87 c_11_238 qp_6 qo_6 (by first | rfl | assumption | (rw [hR]; rfl) | (dsimp only; rw [hR]; rfl)) (Nat.le_of_ble_eq_true rfl) (e_withElbow (I := I') hE (c : Int) (by omega) hco hW hX hH) (fun v S2 h => ?_)
        obtain ⟨rfl, I1, rfl, hS1, hW1, hX1, hH1⟩ := h
        show K shX (d + 7) 91 90 _ [.int (J _)] _ _
        have hR1 := hW1.1
        refine k_istore i_91_90 (Nat.le_of_ble_eq_true rfl) ?_
        dsimp only [q_st1, q_st2, q_unl]
        refine k_iload i_91_92 rfl ?_
        refine k_iload_n i_91_94 rfl ?_
        refine k_ic_ge (t := 104) i_91_95 rfl (by omega) (by omega) (fun g2 => ?_) (fun g2 => ?_)
        · refine k_iinc i_91_104 rfl (Nat.le_of_ble_eq_true rfl) ?_
          dsimp only [q_st1, q_st2, q_unl]
          refine k_goto (t := 53) i_91_107 rfl ?_
          have hno : ¬ (tOn T c = 0 ∧ hsE T nt fr to (c : Int) n < (hbs T nt n fr to c).2) := by
            intro z
            have z2 := z.2
            rw [hl] at g2
            split at g2
            · omega
            · omega
          have eS2 : hbs T nt n fr to (c + 1) = hbs T nt n fr to c := by rw [eS, if_neg hno]
          have h2 := ih (c + 1) I1 (some (.int (J (hsE T nt fr to (c : Int) n)))) lst (by omega) (by rw [eS2]; exact hl) hW1 hX1 hH1 (hS.trans hS1.e)
          rw [eS2] at h2
          exact h2
        · have hyes : tOn T c = 0 ∧ hsE T nt fr to (c : Int) n < (hbs T nt n fr to c).2 := by
            refine ⟨hon, ?_⟩
            rw [hl] at g2
            split at g2
            · rename_i z; have := q3.mp z; omega
            · omega
          refine k_iload i_91_98 rfl ?_
          refine k_istore_n i_91_100 (Nat.le_of_ble_eq_true rfl) ?_
          dsimp only [q_st1, q_st2, q_unl]
          refine k_iload i_91_101 rfl ?_
          refine k_istore_n i_91_103 (Nat.le_of_ble_eq_true rfl) ?_
          dsimp only [q_st1, q_st2, q_unl]
          refine k_iinc i_91_104 rfl (Nat.le_of_ble_eq_true rfl) ?_
          dsimp only [q_st1, q_st2, q_unl]
          refine k_goto (t := 53) i_91_107 rfl ?_
          have eS2 : hbs T nt n fr to (c + 1) = ((c : Int), hsE T nt fr to (c : Int) n) := by rw [eS, if_pos hyes]
          have h2 := ih (c + 1) I1 (some (.int (J (hsE T nt fr to (c : Int) n)))) (hsE T nt fr to (c : Int) n) (by omega) (by rw [eS2, if_neg (by dsimp only; omega)]) hW1 hX1 hH1 (hS.trans hS1.e)
          rw [eS2] at h2
          exact h2
theorem x_help (hB : XB I X h0 s0 w T nt) (hX : XEr I n fr to) (hE : EOK T n fr to) (what : Int) (hwh : inJ what) : KC shX (d + 7) 91 [.ref 0, .int (J what)] (I, X) (fun r S2 => r = some (.int (J (Fhe T nt n fr to what))) ∧ ∃ I' w', S2 = (I', X.1, rX h0 s0 w') ∧ ScrE I I') := by
  obtain ⟨hR, hh, hT, hXx, hOK, hnt, h01, hz⟩ := hB
  have hw := hOK.1
  have hN := tN_le hw
  refine k_start ql_91 (Nat.le_of_ble_eq_true rfl) ?_
  simp only [q_en, List.replicate]
  refine k_iload_n i_91_0 rfl ?_
  refine k_sp1 i_91_1 c_11_170 (by decide) qp_78 (Nat.le_of_ble_eq_true rfl) (e_isFlag _ hwh) ?_
  refine k_if_neB (t := 9) i_91_4 rfl (fun h => ?_) (fun h => ?_)
  · have g := of_decide_eq_true h
    refine k_aload_n i_91_9 rfl ?_
    refine k_gfR i_91_10 f_11_47 (by first | rfl | assumption | (rw [hR]; rfl) | (dsimp only; rw [hR]; rfl)) (by decide) (by decide) (Or.inl ⟨_, rfl⟩) (by first | rfl | assumption | (rw [hR]; rfl) | (dsimp only; rw [hR]; rfl)) ?_
    refine k_aload_n i_91_13 rfl ?_
    refine k_gfR i_91_14 f_11_54 (by first | rfl | assumption | (rw [hR]; rfl) | (dsimp only; rw [hR]; rfl)) (by decide) (by decide) (Or.inl ⟨_, rfl⟩) (by first | rfl | assumption | (rw [hR]; rfl) | (dsimp only; rw [hR]; rfl)) ?_
    refine k_aload_n i_91_17 rfl ?_
    refine k_gfR i_91_18 f_11_19 (by first | rfl | assumption | (rw [hR]; rfl) | (dsimp only; rw [hR]; rfl)) (by decide) (by decide) (Or.inl ⟨_, rfl⟩) (by first | rfl | assumption | (rw [hR]; rfl) | (dsimp only; rw [hR]; rfl)) ?_
    refine k_gfI i_91_21 f_11_99 rfl (by decide) (by decide) (Or.inr rfl) ?_
    rw [show (I, X).1 3 3 = nt from hnt]
    refine k_cv2 i_91_24 c_11_176 qp_47 qo_47 (by first | rfl | assumption | (rw [hR]; rfl) | (dsimp only; rw [hR]; rfl)) (Nat.le_of_ble_eq_true rfl) (e_look (d := d + 5) hh hR hT hXx hOK h01 hz) (fun v S2 h => ?_)
    obtain ⟨rfl, I1, rfl, hS1, hW1⟩ := h
    show K shX (d + 7) 91 27 _ [] _ _
    have hR1 : (X.1, rX h0 s0 h0).2 = rX h0 s0 h0 := rfl
    have hX1 : XEr I1 n fr to := hX.sc (fun c hc => hS1.1 c (by omega))
    refine k_aload_n i_91_27 rfl ?_
    refine k_gfR i_91_28 f_11_34 (by first | rfl | assumption | (rw [hR]; rfl) | (dsimp only; rw [hR]; rfl)) (by decide) (by decide) (Or.inl ⟨_, rfl⟩) (by first | rfl | assumption | (rw [hR]; rfl) | (dsimp only; rw [hR]; rfl)) ?_
    refine k_aload_n i_91_31 rfl ?_
    refine k_gfR i_91_32 f_11_47 (by first | rfl | assumption | (rw [hR]; rfl) | (dsimp only; rw [hR]; rfl)) (by decide) (by decide) (Or.inl ⟨_, rfl⟩) (by first | rfl | assumption | (rw [hR]; rfl) | (dsimp only; rw [hR]; rfl)) ?_
    have hhw : KC shX (d + 6) 5 [.ref 20, .ref 32] (I1, X.1, rX h0 s0 h0) (fun r S2 => ∃ I2 : Nat → Nat → Int, S2 = (I2, X.1, rX h0 s0 h0) ∧ ScrE I I2 ∧ ((r = some (.int (J 0)) ∧ ∃ i, i < n ∧ ¬ rc T (fr i) (to i)) ∨ (r = some (.int (J 1)) ∧ WX I2 (X.1, rX h0 s0 h0) h0 s0 h0 T nt ∧ XEr I2 n fr to ∧ HW T nt fr to I2 n))) := by
      refine k_start ql_5 (Nat.le_of_ble_eq_true rfl) ?_
      simp only [q_en, List.replicate]
-- method 5: StraightTax$Errands.haveWays.(LStraightTax$Ways;)Z
      refine k_iconst i_5_0 ?_
      refine k_istore_n i_5_1 (Nat.le_of_ble_eq_true rfl) ?_
      dsimp only [q_st1, q_st2, q_unl]
      exact l_haveWays (I := I) hE (fun I' h1 h2 => ⟨I', rfl, h1, Or.inl ⟨rfl, h2⟩⟩) (fun I' h1 h2 h3 h4 => ⟨I', rfl, h1, Or.inr ⟨rfl, h2, h3, h4⟩⟩) n 0 I1 none (by omega) hW1 hX1 hS1.e (fun i hi => by omega)
-- method 91: StraightTax.help.(I)I
    refine k_cv1 i_91_35 c_11_231 qp_5 qo_5 (by first | rfl | assumption | (rw [hR]; rfl) | (dsimp only; rw [hR]; rfl)) (Nat.le_of_ble_eq_true rfl) hhw (fun v S2 h => ?_)
    obtain ⟨I2, rfl, hS2, hcase⟩ := h
    rcases hcase with ⟨rfl, i, hi, hnr⟩ | ⟨rfl, hW2, hX2, hH2⟩
    · show K shX (d + 7) 91 38 _ [.int (J 0)] _ _
      refine k_if_ne (t := 44) i_91_38 rfl (by omega) (fun h => ?_) (fun h => ?_)
      · omega
      · refine k_bipush i_91_41 (by decide) ?_
        refine k_iret i_91_43 qt_91 ?_
        refine ⟨?_, I2, h0, rfl, hS2⟩
        have hb9 : ∀ c : Nat, (c : Int) ≤ tN T → hbs T nt n fr to c = (-9, 100000000) := by
          intro c
          induction c with
          | zero => intro _; rfl
          | succ c ihc =>
            intro hc
            unfold hbs
            rw [ihc (by omega), if_neg]
            rintro ⟨z1, z2⟩
            have hco := on_open (c := (c : Int)) (by omega) z1
            have key : ∀ e, e ≤ n → i < e → 100000000 ≤ hsE T nt fr to (c : Int) e := by
              intro e
              induction e with
              | zero => intro _ h; omega
              | succ e ihe =>
                intro he hie
                rw [hsE_S]
                have y1 := (hsE_nn hw h01 (nt := nt) hE hco e (by omega)).1
                have y2 := pE_range hw h01 (nt := nt) (hE.2 e (by omega)).1 (hE.2 e (by omega)).2 hco
                by_cases ei : i = e
                · subst ei
                  have := (pE_eq hw h01 (nt := nt) (hE.2 i (by omega)).1 (hE.2 i (by omega)).2 hco).2 hnr
                  omega
                · have := ihe (by omega) (by omega)
                  omega
            have := key n (Nat.le_refl _) hi
            have z3 : min 100000000 (hsE T nt fr to (c : Int) n) < (100000000 : Int) := z2
            omega
        unfold Fhe
        rw [if_pos g, hb9 (tN T).toNat (by omega), if_pos rfl]
    · show K shX (d + 7) 91 38 _ [.int (J 1)] _ _
      refine k_if_ne (t := 44) i_91_38 rfl (by omega) (fun h => ?_) (fun h => ?_)
      · refine k_bipush i_91_44 (by decide) ?_
        refine k_istore_n i_91_46 (Nat.le_of_ble_eq_true rfl) ?_
        dsimp only [q_st1, q_st2, q_unl]
        refine k_ldc (a := 1073741824) i_91_47 n_11_194 (by decide) ?_
        refine k_istore_n i_91_49 (Nat.le_of_ble_eq_true rfl) ?_
        dsimp only [q_st1, q_st2, q_unl]
        refine k_iconst i_91_50 ?_
        refine k_istore i_91_51 (Nat.le_of_ble_eq_true rfl) ?_
        dsimp only [q_st1, q_st2, q_unl]
        refine (l_xhe (I := I) (X := (X.1, rX h0 s0 h0)) hE (fun i hi => (hH2 i hi).1) what g (tN T).toNat 0 I2 none 1073741824 (by omega) rfl hW2 hX2 hH2 hS2).mono (fun r S2 hhh => ⟨hhh.1, ?_⟩)
        obtain ⟨I3, e3, hS3⟩ := hhh.2
        exact ⟨I3, h0, e3, hS3⟩
      · omega
  · refine k_iconst i_91_7 ?_
    refine k_iret i_91_8 qt_91 ?_
    refine ⟨?_, I, w, by rw [← hR], Scr.rfl'.e⟩
    unfold Fhe
    rw [if_neg (fun z => by rw [decide_eq_true z] at h; cases h)]
end HX
