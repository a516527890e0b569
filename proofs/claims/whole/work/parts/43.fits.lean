/-! FITS: both sides -/
def sm4 (f : Int → Int) : Nat → Int
  | 0 => 0
  | k + 1 => sm4 f k + f k
theorem sm4_S {f : Int → Int} {k : Nat} : sm4 f (k + 1) = sm4 f k + f k := rfl
/-- how many ways of so many steps lead from a state to the goal for just so many pence -/
def ftn (T : Tn) (nt b : Int) : Nat → Int → Int → Int
  | 0, s, p => if s / 17 = b ∧ p = 0 then 1 else 0
  | n + 1, s, p => sm4 (fun q => if 0 ≤ mE T (tMask T 2) s q then ftn T nt b n (mE T (tMask T 2) s q) (p - tPrice T nt (mRun s q)) else 0) 4
def ftT (T : Tn) (nt b : Int) (n : Nat) (s p q : Int) : Int := if 0 ≤ mE T (tMask T 2) s q then ftn T nt b n (mE T (tMask T 2) s q) (p - tPrice T nt (mRun s q)) else 0
theorem ftn_S {T : Tn} {nt b : Int} {n : Nat} {s p : Int} : ftn T nt b (n + 1) s p = sm4 (ftT T nt b n s p) 4 := rfl
theorem sm4_0 {f : Int → Int} : ∀ k : Nat, (∀ j : Nat, j < k → f j = 0) → sm4 f k = 0
  | 0, _ => rfl
  | k + 1, h => by rw [sm4_S, sm4_0 k (fun j hj => h j (by omega)), h k (by omega)]; rfl
theorem ftn_neg {T : Tn} (hw : tWF T) {nt b : Int} : ∀ (n : Nat) (s p : Int), p < 0 → ftn T nt b n s p = 0
  | 0, s, p, h => by unfold ftn; rw [if_neg (by omega)]
  | n + 1, s, p, h => by
    rw [ftn_S]
    refine sm4_0 4 (fun q hq => ?_)
    unfold ftT
    split
    · rename_i he
      have := (tPrice4 hw (nt := nt) (mE_run he)).1
      exact ftn_neg hw n _ _ (by omega)
    · rfl
def arO (T : Tn) (m : Nat) : Nat → Nat
  | 0 => 0
  | q + 1 => arO T m q ||| shf T m q
theorem arO_lt {T : Tn} (hw : tWF T) {m : Nat} : ∀ k, arO T m k < 2 ^ 20
  | 0 => by show 0 < 2 ^ 20; decide
  | k + 1 => Nat.or_lt_two_pow (arO_lt hw k) (shk_lt hw _)
theorem arO_bit {T : Tn} {m : Nat} (j : Nat) : ∀ k, ((arO T m k).testBit j = true ↔ ∃ (q c : Nat), q < k ∧ c < (tN T).toNat ∧ m.testBit c = true ∧ nx T c q = j)
  | 0 => by
    constructor
    · intro h; simp [arO] at h
    · rintro ⟨q, c, h, -⟩; omega
  | k + 1 => by
    unfold arO
    rw [Nat.testBit_or, Bool.or_eq_true, arO_bit j k]
    unfold shf
    rw [shk_bit]
    constructor
    · rintro (⟨q, c, h1, h2⟩ | ⟨c, h1, h2⟩)
      · exact ⟨q, c, by omega, h2⟩
      · exact ⟨k, c, by omega, h1, h2⟩
    · rintro ⟨q, c, h1, h2⟩
      by_cases e : q = k
      · subst e; exact Or.inr ⟨c, h2⟩
      · exact Or.inl ⟨q, c, by omega, h2⟩
/-- the squares from which the goal is just so many steps away -/
def nrk (T : Tn) (b : Int) : Nat → Nat
  | 0 => 2 ^ b.toNat
  | k + 1 => arO T (nrk T b k) 4
theorem nrk_lt {T : Tn} (hw : tWF T) {b : Int} (hb : b < 20) : ∀ k, nrk T b k < 2 ^ 20
  | 0 => pow_lt20 hb
  | k + 1 => arO_lt hw 4
theorem ftn_near {T : Tn} (hw : tWF T) {nt b : Int} (hb : 0 ≤ b) : ∀ (n : Nat) (s c l r p : Int), Rs T s c l r → (nrk T b n).testBit c.toNat = false → ftn T nt b n s p = 0
  | 0, s, c, l, r, p, hs, h => by
    have g := hs.range
    have hc := hs.1
    unfold ftn
    rw [if_neg]
    rintro ⟨h1, -⟩
    have : (nrk T b 0).testBit c.toNat = true := by
      show (2 ^ b.toNat).testBit c.toNat = true
      rw [Nat.testBit_two_pow]
      exact decide_eq_true (by omega)
    rw [h] at this
    cases this
  | n + 1, s, c, l, r, p, hs, h => by
    have g := hs.range
    have hc := hs.1
    rw [ftn_S]
    refine sm4_0 4 (fun q hq => ?_)
    unfold ftT
    split
    · rename_i he
      obtain ⟨n1, n2⟩ := hs.next hw (q := q) (by omega) he
      refine ftn_near hw hb n _ _ _ _ _ n1 ?_
      cases e : (nrk T b n).testBit (nx T c q).toNat
      · rfl
      · exfalso
        obtain ⟨o1, o2, o3, o4⟩ := opp_d q (by omega)
        have hback := nx_back hw hs.2.1 (q := q) (by omega) n2
        have hnr := nx_range hw c q
        have : (nrk T b (n + 1)).testBit c.toNat = true := by
          show (arO T (nrk T b n) 4).testBit c.toNat = true
          rw [arO_bit]
          refine ⟨(opp q).toNat, (nx T c q).toNat, by omega, by omega, e, ?_⟩
          rw [show (((nx T c q).toNat : Nat) : Int) = nx T c q by omega, show (((opp q).toNat : Nat) : Int) = opp q by omega, hback]
          omega
        rw [h] at this
        cases this
    · rfl
/-- a run never is longer than the row -/
def RmI (T : Tn) (c l r : Int) : Prop := l = -1 ∨ r + room T c l ≤ 4
theorem RmI.ok {T : Tn} (hw : tWF T) {s c l r : Int} (hs : Rs T s c l r) (h : RmI T c l r) {q : Int} (hq : 0 ≤ q ∧ q < 4) (hn : 0 ≤ nx T c q) : 0 ≤ mE T (tMask T 2) s q ∧ RmI T (nx T c q) q (mRun s q) := by
  obtain ⟨g1, g2, g3, g4⟩ := hs.range
  have hr1 := room_nx hw hs.1 hq hn
  have hnr := nx_range hw c q
  have hr2 := room_le hw (c := nx T c q) (q := q) (by omega)
  have hr3 := room_le hw (q := q) hs.1
  have hrun := hs.run q hq
  have hm := mRun_le s q g1.1
  have h5 : mRun s q + room T (nx T c q) q ≤ 4 := by
    rw [← hrun]
    unfold tRun
    by_cases e : q = l ∧ tElb T c = false
    · rw [if_pos e]
      rcases h with z | z
      · omega
      · rw [← e.1] at z; omega
    · rw [if_neg e]; omega
  refine ⟨?_, Or.inr h5⟩
  have e := mE_of hw g1 hq (by omega : mRun s q ≤ 4)
  rw [g2, if_neg (by omega)] at e
  rw [e]
  exact (gs_range (T := T) (c := nx T c q) (q := q) (r := mRun s q) (by omega) hq (by omega)).1
theorem mE_nx {T : Tn} (hw : tWF T) {s c l r : Int} (hs : Rs T s c l r) {q : Int} (hq : 0 ≤ q ∧ q < 4) (hn : nx T c q < 0) : ¬ 0 ≤ mE T (tMask T 2) s q := fun z => by
  have := (hs.next hw hq z).2
  omega
/-- what fits answers -/
def Ffi (T : Tn) (nt a b n p : Int) : Int := if (tOpen T a && tOpen T b) = true ∧ (0 ≤ n ∧ n ≤ 8) ∧ 0 ≤ p then ftn T nt b n.toNat (17 * a + 16) p else -1
section FI
variable {d : Nat} {T : Tn} {I : Nat → Nat → Int} {X : XX} {h0 s0 w : Nat} {nt b : Int} {S : QS} {sh : QH} {t : Nat} {Q : Option Value → QS → Prop}
-- method 38: StraightTax$Town.around.(I)I
theorem l_around (hT : TAt sh S t T) (hX : TNx S t T) (hw : tWF T) {m : Nat} (hm : m < 2 ^ 20) : ∀ (i q : Nat), q + i = 4 → K sh (d + 3) 38 4 [some (.ref t), some (.int (J (m : Int))), some (.int (J (arO T m q : Int))), some (.int (J (q : Int)))] [] S (fun r S2 => r = some (.int (J (arO T m 4 : Int))) ∧ S2 = S) := by
  obtain ⟨s1, s2, s3, r1, r2, a0, a1, a2, a3, a4, a5, a6, ag⟩ := id hT
  intro i
  induction i with
  | zero =>
    intro q hi
    have e : q = 4 := by omega
    subst e
    refine k_iload_n i_38_4 rfl ?_
    refine k_iconst i_38_5 ?_
    refine k_ic_ge (t := 24) i_38_6 rfl (by omega) (by omega) (fun h => ?_) (fun h => ?_)
    · refine k_iload_n i_38_24 rfl ?_
      refine k_iret i_38_25 qt_38 ?_
      exact ⟨rfl, rfl⟩
    · omega
  | succ i ih =>
    intro q hi
    refine k_iload_n i_38_4 rfl ?_
    refine k_iconst i_38_5 ?_
    refine k_ic_ge (t := 24) i_38_6 rfl (by omega) (by omega) (fun h => ?_) (fun h => ?_)
    · omega
    · refine k_iload_n i_38_9 rfl ?_
      refine k_aload_n i_38_10 rfl ?_
      refine k_iload_n i_38_11 rfl ?_
      refine k_iload_n i_38_12 rfl ?_
      refine k_vp2 i_38_13 c_7_91 qp_37 qo_37 (by first | rfl | assumption | (rw [hR]; rfl) | (dsimp only; rw [hR]; rfl)) (Nat.le_of_ble_eq_true rfl) (e_shifted hT hX hw hm q (by omega)) ?_
      refine k_ior i_38_16 (J_or _ _) ?_
      refine k_istore_n i_38_17 (Nat.le_of_ble_eq_true rfl) ?_
      dsimp only [q_st1, q_st2, q_unl]
      refine k_iinc i_38_18 rfl (Nat.le_of_ble_eq_true rfl) ?_
      dsimp only [q_st1, q_st2, q_unl]
      refine k_goto (t := 4) i_38_21 rfl ?_
      exact ih (q + 1) (by omega)
theorem e_around (hT : TAt sh S t T) (hX : TNx S t T) (hw : tWF T) {m : Nat} (hm : m < 2 ^ 20) : KP sh (d + 3) 38 [.ref t, .int (J (m : Int))] S (.int (J (arO T m 4 : Int))) := by
  refine k_start ql_38 (Nat.le_of_ble_eq_true rfl) ?_
  simp only [q_en, List.replicate]
  refine k_iconst i_38_0 ?_
  refine k_istore_n i_38_1 (Nat.le_of_ble_eq_true rfl) ?_
  dsimp only [q_st1, q_st2, q_unl]
  refine k_iconst i_38_2 ?_
  refine k_istore_n i_38_3 (Nat.le_of_ble_eq_true rfl) ?_
  dsimp only [q_st1, q_st2, q_unl]
  exact l_around hT hX hw hm 4 0 (by omega)
-- method 66: StraightTax$Ways.fittingOn.(IIIII)I
theorem e_fittingOn (hW : WX I X h0 s0 w T nt) (hb : 0 ≤ b ∧ b < tN T) : ∀ (n : Nat) (s c l r p : Int), n ≤ 8 → (∀ k : Nat, k ≤ n → I 38 k = (nrk T b k : Int)) → Rs T s c l r → RmI T c l r → inJ p → KP shX (d + 3 + n) 66 [.ref 32, .int (J c), .int (J l), .int (J r), .int (J (n : Int)), .int (J p)] (I, X) (.int (J (ftn T nt b n s p))) := by
  obtain ⟨hR, hw4, hT, hX, hnt, h01, hOK, hwt⟩ := id hW
  obtain ⟨s1, s2, s3, r1, r2, a0, a1, a2, a3, a4, a5, a6, ag⟩ := id hT
  have hw := hOK.1
  have hN := tN_le hw
  intro n
  induction n with
  | zero =>
    intro s c l r p hn8 hnr hs hrm hp
    obtain ⟨g1, g2, g3, g4⟩ := hs.range
    have hc := hs.1
    have hlt := nrk_lt hw (T := T) (b := b) (by omega) 0
    have no : ftn T nt b 0 s p = 0 → K shX (d + 3) 66 31 [some (.ref 32), some (.int (J c)), some (.int (J l)), some (.int (J r)), some (.int (J 0)), some (.int (J p)), none, none, none, none] [] (I, X) (fun r S2 => r = some (.int (J (ftn T nt b 0 s p))) ∧ S2 = (I, X)) := by
      intro h
      refine k_iconst i_66_31 ?_
      refine k_iret i_66_32 qt_66 ?_
      rw [h]
      exact ⟨rfl, rfl⟩
    refine k_start ql_66 (Nat.le_of_ble_eq_true rfl) ?_
    simp only [q_en, List.replicate]
    refine k_iload i_66_0 rfl ?_
    refine k_if_lt (t := 31) i_66_2 rfl (by omega) (fun h => ?_) (fun h => ?_)
    · omega
    · refine k_iload i_66_5 rfl ?_
      refine k_bipush i_66_7 (by decide) ?_
      refine k_ic_gt (t := 31) i_66_9 rfl (by omega) (by omega) (fun h => ?_) (fun h => ?_)
      · omega
      · refine k_iload i_66_12 rfl ?_
        refine k_if_lt (t := 31) i_66_14 rfl (by omega) (fun h => ?_) (fun h => ?_)
        · exact no (ftn_neg hw 0 s p (by omega))
        · refine k_aload_n i_66_17 rfl ?_
          refine k_gfR i_66_18 f_10_42 (by first | rfl | assumption | (rw [hR]; rfl) | (dsimp only; rw [hR]; rfl)) (by decide) (by decide) (Or.inr ⟨_, rfl⟩) (by first | rfl | assumption | (rw [hR]; rfl) | (dsimp only; rw [hR]; rfl)) ?_
          refine k_iload i_66_21 rfl ?_
          refine k_iald i_66_23 rfl (by decide) (by omega) (by omega) ?_
          rw [show (I, X).1 (8 + 30) (((0 : Nat) : Int)).toNat = (nrk T b 0 : Int) from hnr 0 (by omega)]
          refine k_iload_n i_66_24 rfl ?_
          refine k_sp2 i_66_25 c_10_120 (by decide) qp_86 (Nat.le_of_ble_eq_true rfl) (e_isIn (by omega) _ (by omega) (by omega)) ?_
          refine k_if_neB (t := 33) i_66_28 rfl (fun h => ?_) (fun h => ?_)
          · refine k_iload i_66_33 rfl ?_
            refine k_if_ne (t := 49) i_66_35 rfl (by omega) (fun gz => ?_) (fun gz => ?_)
            · omega
            · have hcb : s / 17 = b := by
                rw [g2]
                have : (2 ^ b.toNat).testBit c.toNat = true := h
                rw [Nat.testBit_two_pow, decide_eq_true_eq] at this
                omega
              refine k_iload i_66_38 rfl ?_
              refine k_if_ne (t := 47) i_66_40 rfl (by omega) (fun h => ?_) (fun h => ?_)
              · refine k_iconst i_66_47 ?_
                refine k_iret i_66_48 qt_66 ?_
                unfold ftn
                rw [if_neg (by omega)]
                exact ⟨rfl, rfl⟩
              · refine k_iconst i_66_43 ?_
                refine k_goto (t := 48) i_66_44 rfl ?_
                refine k_iret i_66_48 qt_66 ?_
                unfold ftn
                rw [if_pos (by omega)]
                exact ⟨rfl, rfl⟩
          · exact no (ftn_near hw hb.1 0 s c l r p hs h)
  | succ n ih =>
    intro s c l r p hn8 hnr hs hrm hp
    obtain ⟨g1, g2, g3, g4⟩ := hs.range
    have hc := hs.1
    have hlt := nrk_lt hw (T := T) (b := b) (by omega) (n + 1)
    have no : ftn T nt b (n + 1) s p = 0 → K shX (d + 3 + (n + 1)) 66 31 [some (.ref 32), some (.int (J c)), some (.int (J l)), some (.int (J r)), some (.int (J ((n + 1 : Nat) : Int))), some (.int (J p)), none, none, none, none] [] (I, X) (fun r S2 => r = some (.int (J (ftn T nt b (n + 1) s p))) ∧ S2 = (I, X)) := by
      intro h
      refine k_iconst i_66_31 ?_
      refine k_iret i_66_32 qt_66 ?_
      rw [h]
      exact ⟨rfl, rfl⟩
    refine k_start ql_66 (Nat.le_of_ble_eq_true rfl) ?_
    simp only [q_en, List.replicate]
    refine k_iload i_66_0 rfl ?_
    refine k_if_lt (t := 31) i_66_2 rfl (by omega) (fun h => ?_) (fun h => ?_)
    · omega
    · refine k_iload i_66_5 rfl ?_
      refine k_bipush i_66_7 (by decide) ?_
      refine k_ic_gt (t := 31) i_66_9 rfl (by omega) (by omega) (fun h => ?_) (fun h => ?_)
      · omega
      · refine k_iload i_66_12 rfl ?_
        refine k_if_lt (t := 31) i_66_14 rfl (by omega) (fun gp => ?_) (fun gp => ?_)
        · exact no (ftn_neg hw (n + 1) s p (by omega))
        · refine k_aload_n i_66_17 rfl ?_
          refine k_gfR i_66_18 f_10_42 (by first | rfl | assumption | (rw [hR]; rfl) | (dsimp only; rw [hR]; rfl)) (by decide) (by decide) (Or.inr ⟨_, rfl⟩) (by first | rfl | assumption | (rw [hR]; rfl) | (dsimp only; rw [hR]; rfl)) ?_
          refine k_iload i_66_21 rfl ?_
          refine k_iald i_66_23 rfl (by decide) (by omega) (by omega) ?_
          rw [show (I, X).1 38 (((n + 1 : Nat) : Int)).toNat = (nrk T b (n + 1) : Int) from by rw [show (((n + 1 : Nat) : Int)).toNat = n + 1 by omega]; exact hnr (n + 1) (by omega)]
          refine k_iload_n i_66_24 rfl ?_
          refine k_sp2 i_66_25 c_10_120 (by decide) qp_86 (Nat.le_of_ble_eq_true rfl) (e_isIn (by omega) _ (by omega) (by omega)) ?_
          refine k_if_neB (t := 33) i_66_28 rfl (fun h => ?_) (fun h => ?_)
          · refine k_iload i_66_33 rfl ?_
            refine k_if_ne (t := 49) i_66_35 rfl (by omega) (fun h => ?_) (fun h => ?_)
            · refine k_iconst i_66_49 ?_
              refine k_istore i_66_50 (Nat.le_of_ble_eq_true rfl) ?_
              dsimp only [q_st1, q_st2, q_unl]
              refine k_iconst i_66_52 ?_
              refine k_istore i_66_53 (Nat.le_of_ble_eq_true rfl) ?_
              dsimp only [q_st1, q_st2, q_unl]
              have loop : ∀ (m k : Nat) (x8 x9 : Option Value), k + m = 4 → K shX (d + 3 + (n + 1)) 66 55 [some (.ref 32), some (.int (J c)), some (.int (J l)), some (.int (J r)), some (.int (J ((n + 1 : Nat) : Int))), some (.int (J p)), some (.int (J (sm4 (ftT T nt b n s p) k))), some (.int (J (k : Int))), x8, x9] [] (I, X) (fun r S2 => r = some (.int (J (ftn T nt b (n + 1) s p))) ∧ S2 = (I, X)) := by
                intro m
                induction m with
                | zero =>
                  intro k x8 x9 hk
                  have e : k = 4 := by omega
                  subst e
                  refine k_iload i_66_55 rfl ?_
                  refine k_iconst i_66_57 ?_
                  refine k_ic_ge (t := 134) i_66_58 rfl (by omega) (by omega) (fun h => ?_) (fun h => ?_)
                  · refine k_iload i_66_134 rfl ?_
                    refine k_iret i_66_136 qt_66 ?_
                    exact ⟨rfl, rfl⟩
                  · omega
                | succ m ih2 =>
                  intro k x8 x9 hk
                  have hq : (0 : Int) ≤ (k : Int) ∧ (k : Int) < 4 := by omega
                  have hrun := hs.run k hq
                  have hmr := mRun_le s k g1.1
                  have hi := fun x8 x9 => ih2 (k + 1) x8 x9 (by omega)
                  rw [sm4_S] at hi
                  refine k_iload i_66_55 rfl ?_
                  refine k_iconst i_66_57 ?_
                  refine k_ic_ge (t := 134) i_66_58 rfl (by omega) (by omega) (fun h => ?_) (fun h => ?_)
                  · omega
                  · refine k_aload_n i_66_61 rfl ?_
                    refine k_gfR i_66_62 f_10_12 (by first | rfl | assumption | (rw [hR]; rfl) | (dsimp only; rw [hR]; rfl)) (by decide) (by decide) (Or.inl ⟨_, rfl⟩) (by first | rfl | assumption | (rw [hR]; rfl) | (dsimp only; rw [hR]; rfl)) ?_
                    refine k_iload_n i_66_65 rfl ?_
                    refine k_iload i_66_66 rfl ?_
                    refine k_vp2 i_66_68 c_10_56 qp_32 qo_32 (by first | rfl | assumption | (rw [hR]; rfl) | (dsimp only; rw [hR]; rfl)) (Nat.le_of_ble_eq_true rfl) ((e_ahead (d := d + 2) hT hX _ _ (by omega) (by omega)).deep n) ?_
                    rw [tAh_nx hw hc hq]
                    have hnr2 := nx_range hw c k
                    refine k_istore i_66_71 (Nat.le_of_ble_eq_true rfl) ?_
                    dsimp only [q_st1, q_st2, q_unl]
                    refine k_iload i_66_73 rfl ?_
                    refine k_iconst i_66_75 ?_
                    refine k_ic_eq (t := 128) i_66_76 rfl (by omega) (by omega) (fun gn => ?_) (fun gn => ?_)
                    · refine k_iinc i_66_128 rfl (Nat.le_of_ble_eq_true rfl) ?_
                      dsimp only [q_st1, q_st2, q_unl]
                      refine k_goto (t := 55) i_66_131 rfl ?_
                      have e : ftT T nt b n s p k = 0 := by unfold ftT; rw [if_neg (mE_nx hw hs hq (by omega))]
                      rw [e, Int.add_zero] at hi
                      exact hi _ _
                    · obtain ⟨y1, y2⟩ := hrm.ok hw hs hq (by omega)
                      obtain ⟨y3, y4⟩ := hs.next hw hq y1
                      have hpr := tPrice4 hw (nt := nt) (mE_run y1)
                      refine k_aload_n i_66_79 rfl ?_
                      refine k_gfR i_66_80 f_10_12 (by first | rfl | assumption | (rw [hR]; rfl) | (dsimp only; rw [hR]; rfl)) (by decide) (by decide) (Or.inl ⟨_, rfl⟩) (by first | rfl | assumption | (rw [hR]; rfl) | (dsimp only; rw [hR]; rfl)) ?_
                      refine k_iload_n i_66_83 rfl ?_
                      refine k_iload_n i_66_84 rfl ?_
                      refine k_iload_n i_66_85 rfl ?_
                      refine k_iload i_66_86 rfl ?_
                      refine k_vp4 i_66_88 c_10_60 qp_33 qo_33 (by first | rfl | assumption | (rw [hR]; rfl) | (dsimp only; rw [hR]; rfl)) (Nat.le_of_ble_eq_true rfl) ((e_runOf (d := d + 1) hT hw _ _ _ _ (by omega) (by omega) (by omega)).deep n) ?_
                      rw [hrun]
                      refine k_istore i_66_91 (Nat.le_of_ble_eq_true rfl) ?_
                      dsimp only [q_st1, q_st2, q_unl]
                      refine k_iload i_66_93 rfl ?_
                      refine k_aload_n i_66_95 rfl ?_
                      refine k_iload i_66_96 rfl ?_
                      refine k_iload i_66_98 rfl ?_
                      refine k_iload i_66_100 rfl ?_
                      refine k_iload i_66_102 rfl ?_
                      refine k_iconst i_66_104 ?_
                      refine k_isub i_66_105 ?_
                      refine k_iload i_66_106 rfl ?_
                      refine k_aload_n i_66_108 rfl ?_
                      refine k_gfR i_66_109 f_10_12 (by first | rfl | assumption | (rw [hR]; rfl) | (dsimp only; rw [hR]; rfl)) (by decide) (by decide) (Or.inl ⟨_, rfl⟩) (by first | rfl | assumption | (rw [hR]; rfl) | (dsimp only; rw [hR]; rfl)) ?_
                      refine k_iload i_66_112 rfl ?_
                      refine k_aload_n i_66_114 rfl ?_
                      refine k_gfI i_66_115 f_10_18 (by first | rfl | assumption | (rw [hR]; rfl) | (dsimp only; rw [hR]; rfl)) (by decide) (by decide) (Or.inr rfl) ?_
                      rw [show (I, X).1 32 1 = nt from hnt]
                      refine k_vp2 i_66_118 c_10_51 qp_35 qo_35 (by first | rfl | assumption | (rw [hR]; rfl) | (dsimp only; rw [hR]; rfl)) (Nat.le_of_ble_eq_true rfl) (e_price hT hw _ _ (by omega) h01) ?_
                      refine k_isub i_66_121 ?_
                      have h2 := ih _ _ _ _ (p - tPrice T nt (mRun s k)) (by omega) (fun j hj => hnr j (by omega)) y3 y2 (by omega)
                      rw [show ((n : Nat) : Int) = ((n + 1 : Nat) : Int) - 1 by omega] at h2
                      refine k_vp5 i_66_122 c_10_130 qp_66 qo_66 (by first | rfl | assumption | (rw [hR]; rfl) | (dsimp only; rw [hR]; rfl)) (Nat.le_of_ble_eq_true rfl) h2 ?_
                      refine k_iadd i_66_125 ?_
                      refine k_istore i_66_126 (Nat.le_of_ble_eq_true rfl) ?_
                      dsimp only [q_st1, q_st2, q_unl]
                      refine k_iinc i_66_128 rfl (Nat.le_of_ble_eq_true rfl) ?_
                      dsimp only [q_st1, q_st2, q_unl]
                      refine k_goto (t := 55) i_66_131 rfl ?_
                      have e : ftT T nt b n s p k = ftn T nt b n (mE T (tMask T 2) s k) (p - tPrice T nt (mRun s k)) := by unfold ftT; rw [if_pos y1]
                      rw [e] at hi
                      exact hi _ _
              exact loop 4 0 none none (by omega)
            · omega
          · exact no (ftn_near hw hb.1 (n + 1) s c l r p hs h)
-- method 65: StraightTax$Ways.fitting.(IIII)I
theorem l_fitting (hW : WX I X h0 s0 w T nt) (a n p : Int) (ha : 0 ≤ a ∧ a < tN T) (hb : 0 ≤ b ∧ b < tN T) (ho : tOpen T a = true) (hn : 0 ≤ n ∧ n ≤ 8) (hp : inJ p) : ∀ (m k : Nat) (f : Nat → Int), (k : Int) + m = n + 1 → 1 ≤ k → (∀ j : Nat, j < k → f j = (nrk T b j : Int)) → K shX (d + 12) 65 12 [some (.ref 32), some (.int (J a)), some (.int (J b)), some (.int (J n)), some (.int (J p)), some (.int (J (k : Int)))] [] (sr I 38 f, X) (fun r S2 => r = some (.int (J (ftn T nt b n.toNat (17 * a + 16) p))) ∧ ∃ f', S2 = (sr I 38 f', X)) := by
  have hOK := hW.2.2.2.2.2.2.1
  have hw := hOK.1
  have hN := tN_le hw
  intro m
  induction m with
  | zero =>
    intro k f hk k1 hf
    have hW' := hW.row (c := 38) (f := f) (by omega)
    have hR := hW.1
    refine k_iload i_65_12 rfl ?_
    refine k_iload_n i_65_14 rfl ?_
    refine k_ic_gt (t := 54) i_65_15 rfl (by omega) (by omega) (fun h => ?_) (fun h => ?_)
    · refine k_aload_n i_65_54 rfl ?_
      refine k_iload_n i_65_55 rfl ?_
      refine k_iconst i_65_56 ?_
      refine k_iconst i_65_57 ?_
      refine k_iload_n i_65_58 rfl ?_
      refine k_iload i_65_59 rfl ?_
      have h2 := e_fittingOn (d := d + 8 - n.toNat) hW' hb n.toNat (17 * a + 16) a (-1) 0 p (by omega) (fun j hj => by rw [sr_s]; exact hf j (by omega)) ⟨ha, ho, Or.inl ⟨rfl, rfl, rfl⟩⟩ (Or.inl rfl) hp
      rw [show d + 8 - n.toNat + 3 + n.toNat = d + 11 by omega, show ((n.toNat : Nat) : Int) = n by omega] at h2
      refine k_vp5 i_65_61 c_10_130 qp_66 qo_66 (by first | rfl | assumption | (rw [hR]; rfl) | (dsimp only; rw [hR]; rfl)) (Nat.le_of_ble_eq_true rfl) h2 ?_
      refine k_iret i_65_64 qt_65 ?_
      exact ⟨rfl, f, rfl⟩
    · omega
  | succ m ih =>
    intro k f hk k1 hf
    obtain ⟨hR, hw4, hT, hX, hnt, h01, -, hwt⟩ := hW.row (c := 38) (f := f) (by omega)
    obtain ⟨s1, s2, s3, r1, r2, a0, a1, a2, a3, a4, a5, a6, ag⟩ := id hT
    refine k_iload i_65_12 rfl ?_
    refine k_iload_n i_65_14 rfl ?_
    refine k_ic_gt (t := 54) i_65_15 rfl (by omega) (by omega) (fun h => ?_) (fun h => ?_)
    · omega
    · refine k_iload i_65_18 rfl ?_
      refine k_bipush i_65_20 (by decide) ?_
      refine k_ic_gt (t := 54) i_65_22 rfl (by omega) (by omega) (fun h => ?_) (fun h => ?_)
      · omega
      · refine k_aload_n i_65_25 rfl ?_
        refine k_gfR i_65_26 f_10_42 (by first | rfl | assumption | (rw [hR]; rfl) | (dsimp only; rw [hR]; rfl)) (by decide) (by decide) (Or.inr ⟨_, rfl⟩) (by first | rfl | assumption | (rw [hR]; rfl) | (dsimp only; rw [hR]; rfl)) ?_
        refine k_iload i_65_29 rfl ?_
        refine k_aload_n i_65_31 rfl ?_
        refine k_gfR i_65_32 f_10_12 (by first | rfl | assumption | (rw [hR]; rfl) | (dsimp only; rw [hR]; rfl)) (by decide) (by decide) (Or.inl ⟨_, rfl⟩) (by first | rfl | assumption | (rw [hR]; rfl) | (dsimp only; rw [hR]; rfl)) ?_
        refine k_aload_n i_65_35 rfl ?_
        refine k_gfR i_65_36 f_10_42 (by first | rfl | assumption | (rw [hR]; rfl) | (dsimp only; rw [hR]; rfl)) (by decide) (by decide) (Or.inr ⟨_, rfl⟩) (by first | rfl | assumption | (rw [hR]; rfl) | (dsimp only; rw [hR]; rfl)) ?_
        refine k_iload i_65_39 rfl ?_
        refine k_iconst i_65_41 ?_
        refine k_isub i_65_42 ?_
        refine k_iald i_65_43 rfl (by decide) (by omega) (by omega) ?_
        rw [show (sr I 38 f, X).1 38 ((k : Int) - 1).toNat = (nrk T b (k - 1) : Int) from by
          show sr I 38 f 38 _ = _
          rw [sr_s, show ((k : Int) - 1).toNat = k - 1 by omega]; exact hf (k - 1) (by omega)]
        refine k_vp1 i_65_44 c_10_127 qp_38 qo_38 (by first | rfl | assumption | (rw [hR]; rfl) | (dsimp only; rw [hR]; rfl)) (Nat.le_of_ble_eq_true rfl) (e_around (d := d + 8) hT hX hw (nrk_lt hw (by omega) (k - 1))) ?_
        refine k_iast i_65_47 rfl (by decide) (by omega) (by omega) ?_
        dsimp only
        rw [sr_up, show ((k : Int)).toNat = k by omega]
        refine k_iinc i_65_48 rfl (Nat.le_of_ble_eq_true rfl) ?_
        dsimp only [q_st1, q_st2, q_unl]
        refine k_goto (t := 12) i_65_51 rfl ?_
        refine ih (k + 1) _ (by omega) (by omega) (fun j hj => ?_)
        by_cases e : j = k
        · subst e
          rw [ud_s]
          obtain ⟨i, rfl⟩ : ∃ i, j = i + 1 := ⟨j - 1, by omega⟩
          rfl
        · rw [ud_n e]; exact hf j (by omega)
theorem e_fitting (hW : WX I X h0 s0 w T nt) (a n p : Int) (ha : 0 ≤ a ∧ a < tN T) (hb : 0 ≤ b ∧ b < tN T) (ho : tOpen T a = true) (hn : 0 ≤ n ∧ n ≤ 8) (hp : inJ p) : KC shX (d + 12) 65 [.ref 32, .int (J a), .int (J b), .int (J n), .int (J p)] (I, X) (fun r S2 => r = some (.int (J (ftn T nt b n.toNat (17 * a + 16) p))) ∧ ∃ f', S2 = (sr I 38 f', X)) := by
  have hR := hW.1
  have hN := tN_le hW.2.2.2.2.2.2.1.1
  refine k_start ql_65 (Nat.le_of_ble_eq_true rfl) ?_
  simp only [q_en, List.replicate]
  refine k_aload_n i_65_0 rfl ?_
  refine k_gfR i_65_1 f_10_42 (by first | rfl | assumption | (rw [hR]; rfl) | (dsimp only; rw [hR]; rfl)) (by decide) (by decide) (Or.inr ⟨_, rfl⟩) (by first | rfl | assumption | (rw [hR]; rfl) | (dsimp only; rw [hR]; rfl)) ?_
  refine k_iconst i_65_4 ?_
  refine k_iconst i_65_5 ?_
  refine k_iload_n i_65_6 rfl ?_
  refine k_ishl i_65_7 (J_one (by omega) (by omega)) ?_
  refine k_iast i_65_8 rfl (by decide) (by omega) (by omega) ?_
  dsimp only
  rw [show q_up I 38 (0 : Int).toNat ((2 ^ b.toNat : Nat) : Int) = sr I 38 (ud (I 38) 0 ((2 ^ b.toNat : Nat) : Int)) from by
    rw [← sr_up, sr_id]; rfl]
  refine k_iconst i_65_9 ?_
  refine k_istore i_65_10 (Nat.le_of_ble_eq_true rfl) ?_
  dsimp only [q_st1, q_st2, q_unl]
  refine l_fitting hW a n p ha hb ho hn hp n.toNat 1 _ (by omega) (by omega) (fun j hj => ?_)
  have e : j = 0 := by omega
  subst e
  rw [ud_s]
  rfl
-- method 92: StraightTax.fits.(IIII)I
theorem x_fits (hB : XB I X h0 s0 w T nt) (a b n p : Int) (ha : inJ a) (hb : inJ b) (hn : inJ n) (hp : inJ p) : KC shX (d + 13) 92 [.ref 0, .int (J a), .int (J b), .int (J n), .int (J p)] (I, X) (fun r S2 => r = some (.int (J (Ffi T nt a b n p))) ∧ ∃ I' w', S2 = (I', X.1, rX h0 s0 w') ∧ Scr I I') := by
  obtain ⟨hR, hh, hT, hX, hOK, hnt, h01, hz⟩ := hB
  have hw := hOK.1
  have hN := tN_le hw
  have same : ∃ I' w', (I, X) = (I', X.1, rX h0 s0 w') ∧ Scr I I' := ⟨I, w, by rw [← hR], Scr.rfl'⟩
  have bad : ¬ ((tOpen T a && tOpen T b) = true ∧ (0 ≤ n ∧ n ≤ 8) ∧ 0 ≤ p) → K shX (d + 13) 92 24 [some (.ref 0), some (.int (J a)), some (.int (J b)), some (.int (J n)), some (.int (J p))] [] (I, X) (fun r S2 => r = some (.int (J (Ffi T nt a b n p))) ∧ ∃ I' w', S2 = (I', X.1, rX h0 s0 w') ∧ Scr I I') := by
    intro hbad
    refine k_iconst i_92_24 ?_
    refine k_iret i_92_25 qt_92 ?_
    refine ⟨?_, same⟩
    unfold Ffi
    rw [if_neg hbad]
  refine k_start ql_92 (Nat.le_of_ble_eq_true rfl) ?_
  simp only [q_en, List.replicate]
  refine k_aload_n i_92_0 rfl ?_
  refine k_iload_n i_92_1 rfl ?_
  refine k_iload_n i_92_2 rfl ?_
  refine k_vp2 i_92_3 c_11_183 qp_82 qo_82 (by first | rfl | assumption | (rw [hR]; rfl) | (dsimp only; rw [hR]; rfl)) (Nat.le_of_ble_eq_true rfl) (e_areEnds hR hT hw _ _ ha hb) ?_
  refine k_if_eqB (t := 24) i_92_6 rfl (fun h => ?_) (fun h => ?_)
  · exact bad (by rw [h]; simp)
  · have ho : tOpen T a = true ∧ tOpen T b = true := by simpa using h
    have har := open_lt ho.1
    have hbr := open_lt ho.2
    refine k_iload_n i_92_9 rfl ?_
    refine k_if_lt (t := 24) i_92_10 rfl (by omega) (fun h => ?_) (fun h => ?_)
    · exact bad (by omega)
    · refine k_iload_n i_92_13 rfl ?_
      refine k_bipush i_92_14 (by decide) ?_
      refine k_ic_gt (t := 24) i_92_16 rfl (by omega) (by omega) (fun h => ?_) (fun h => ?_)
      · exact bad (by omega)
      · refine k_iload i_92_19 rfl ?_
        refine k_if_ge (t := 26) i_92_21 rfl (by omega) (fun h => ?_) (fun h => ?_)
        · refine k_aload_n i_92_26 rfl ?_
          refine k_gfR i_92_27 f_11_47 (by first | rfl | assumption | (rw [hR]; rfl) | (dsimp only; rw [hR]; rfl)) (by decide) (by decide) (Or.inl ⟨_, rfl⟩) (by first | rfl | assumption | (rw [hR]; rfl) | (dsimp only; rw [hR]; rfl)) ?_
          refine k_aload_n i_92_30 rfl ?_
          refine k_gfR i_92_31 f_11_54 (by first | rfl | assumption | (rw [hR]; rfl) | (dsimp only; rw [hR]; rfl)) (by decide) (by decide) (Or.inl ⟨_, rfl⟩) (by first | rfl | assumption | (rw [hR]; rfl) | (dsimp only; rw [hR]; rfl)) ?_
          refine k_aload_n i_92_34 rfl ?_
          refine k_gfR i_92_35 f_11_19 (by first | rfl | assumption | (rw [hR]; rfl) | (dsimp only; rw [hR]; rfl)) (by decide) (by decide) (Or.inl ⟨_, rfl⟩) (by first | rfl | assumption | (rw [hR]; rfl) | (dsimp only; rw [hR]; rfl)) ?_
          refine k_gfI i_92_38 f_11_99 rfl (by decide) (by decide) (Or.inr rfl) ?_
          rw [show (I, X).1 3 3 = nt from hnt]
          refine k_cv2 i_92_41 c_11_176 qp_47 qo_47 (by first | rfl | assumption | (rw [hR]; rfl) | (dsimp only; rw [hR]; rfl)) (Nat.le_of_ble_eq_true rfl) (e_look (d := d + 11) hh hR hT hX hOK h01 hz) (fun v S2 h => ?_)
          obtain ⟨rfl, I1, rfl, hS1, hW1⟩ := h
          show K shX (d + 13) 92 44 _ [] _ _
          have hR1 : (X.1, rX h0 s0 h0).2 = rX h0 s0 h0 := rfl
          refine k_aload_n i_92_44 rfl ?_
          refine k_gfR i_92_45 f_11_47 (by first | rfl | assumption | (rw [hR]; rfl) | (dsimp only; rw [hR]; rfl)) (by decide) (by decide) (Or.inl ⟨_, rfl⟩) (by first | rfl | assumption | (rw [hR]; rfl) | (dsimp only; rw [hR]; rfl)) ?_
          refine k_iload_n i_92_48 rfl ?_
          refine k_iload_n i_92_49 rfl ?_
          refine k_iload_n i_92_50 rfl ?_
          refine k_iload i_92_51 rfl ?_
          refine k_cv4 i_92_53 c_11_242 qp_65 qo_65 (by first | rfl | assumption | (rw [hR]; rfl) | (dsimp only; rw [hR]; rfl)) (Nat.le_of_ble_eq_true rfl) (e_fitting hW1 a n p har hbr ho.1 (by omega) hp) (fun v S2 h => ?_)
          obtain ⟨rfl, f', rfl⟩ := h
          show K shX (d + 13) 92 56 _ [.int (J _)] _ _
          refine k_iret i_92_56 qt_92 ?_
          refine ⟨?_, _, h0, rfl, hS1.trans (Scr.row (by omega))⟩
          unfold Ffi
          rw [if_pos ⟨by rw [ho.1, ho.2]; rfl, by omega, by omega⟩]
        · exact bad (by omega)
end FI
/-! the reference's rows of a way -/
def W3 (I : Nat → Nat → Int) (f g l : Nat → Int) : Nat → Nat → Int := sr (sr (sr I 13 f) 14 g) 15 l
theorem W3_13 {I : Nat → Nat → Int} {f g l : Nat → Int} : W3 I f g l 13 = f := by simp [W3, sr]
theorem W3_14 {I : Nat → Nat → Int} {f g l : Nat → Int} : W3 I f g l 14 = g := by simp [W3, sr]
theorem W3_15 {I : Nat → Nat → Int} {f g l : Nat → Int} : W3 I f g l 15 = l := by simp [W3, sr]
theorem W3_u13 {I : Nat → Nat → Int} {f g l : Nat → Int} {k : Nat} {v : Int} : q_up (W3 I f g l) 13 k v = W3 I (ud f k v) g l := by
  funext c j
  unfold q_up W3 sr ud
  by_cases h1 : c = 15
  · subst h1; simp
  · by_cases h2 : c = 14
    · subst h2; simp
    · by_cases h3 : c = 13
      · subst h3; by_cases h4 : j = k <;> simp [h4]
      · simp [h1, h2, h3]
theorem W3_u14 {I : Nat → Nat → Int} {f g l : Nat → Int} {k : Nat} {v : Int} : q_up (W3 I f g l) 14 k v = W3 I f (ud g k v) l := by
  funext c j
  unfold q_up W3 sr ud
  by_cases h1 : c = 15
  · subst h1; simp
  · by_cases h2 : c = 14
    · subst h2; by_cases h4 : j = k <;> simp [h4]
    · simp [h1, h2]
theorem W3_u15 {I : Nat → Nat → Int} {f g l : Nat → Int} {k : Nat} {v : Int} : q_up (W3 I f g l) 15 k v = W3 I f g (ud l k v) := by
  funext c j
  unfold q_up W3 sr ud
  by_cases h1 : c = 15
  · subst h1; by_cases h4 : j = k <;> simp [h4]
  · simp [h1]
theorem W3_id {I : Nat → Nat → Int} : W3 I (I 13) (I 14) (I 15) = I := by
  unfold W3
  rw [show I 14 = sr I 13 (I 13) 14 from by simp [sr], sr_id, show I 15 = I 15 from rfl, sr_id, sr_id]
theorem ScM_W3 {I : Nat → Nat → Int} {f g l : Nat → Int} : ScM I (W3 I f g l) := ((ScM.row (by omega)).trans (ScM.row (by omega))).trans (ScM.row (by omega))
section FM
variable {d : Nat} {T : Tn} {I : Nat → Nat → Int} {X : XX} {nt b : Int} {Q : Option Value → QS → Prop}
-- method 141: StraightTaxModel.fits.(IIII)I
/-- a frame, from its first way on: what it finds is added, the frames below stand -/
theorem l_mfi (hB : MB I X T nt) (a p : Int) (hb : 0 ≤ b ∧ b < tN T) (n : Nat) (hn : n ≤ 8) (hp : inJ p) (p0 : 0 ≤ p) : ∀ (m j : Nat), j + m = n → ∀ (f g l : Nat → Int) (many s v : Int) (x7 x8 : Option Value), f j = 0 → g j = s → l j = v → (0 ≤ s ∧ s < 17 * tN T) → (0 ≤ v ∧ v ≤ 297 * j) →
    (∀ (f' g' l' : Nat → Int) (y7 y8 : Option Value), (∀ i : Nat, i < j → f' i = f i ∧ g' i = g i ∧ l' i = l i) → K shM (d + 3) 141 125 [some (.ref 0), some (.int (J a)), some (.int (J b)), some (.int (J (n : Int))), some (.int (J p)), some (.int (J (many + ftn T nt b m s (p - v)))), some (.int (J (j : Int))), y7, y8] [] (W3 I f' g' l', X) Q) →
    K shM (d + 3) 141 61 [some (.ref 0), some (.int (J a)), some (.int (J b)), some (.int (J (n : Int))), some (.int (J p)), some (.int (J many)), some (.int (J (j : Int))), x7, x8] [] (W3 I f g l, X) Q := by
  have hw := hB.2.2.1.1
  have hN := tN_le hw
  have hm2 := tMask_lt T 2
  intro m
  induction m with
  | zero =>
    intro j hj f g l many s v x7 x8 hf hg hl hs hv hk
    obtain ⟨hT, hR, hOK, hn1, h01⟩ := hB.scr (ScM_W3 (I := I) (f := f) (g := g) (l := l))
    have e : j = n := by omega
    subst e
    have eg : (W3 I f g l, X).1 14 ((j : Int)).toNat = s := by show W3 I f g l 14 _ = _; rw [W3_14, show ((j : Int)).toNat = j by omega]; exact hg
    have el : (W3 I f g l, X).1 15 ((j : Int)).toNat = v := by show W3 I f g l 15 _ = _; rw [W3_15, show ((j : Int)).toNat = j by omega]; exact hl
    refine k_iload i_141_61 rfl ?_
    refine k_if_lt (t := 268) i_141_63 rfl (by omega) (fun h => ?_) (fun h => ?_)
    · omega
    · refine k_iload i_141_66 rfl ?_
      refine k_iload_n i_141_68 rfl ?_
      refine k_ic_eq (t := 83) i_141_69 rfl (by omega) (by omega) (fun h => ?_) (fun h => ?_)
      · have no : ¬ (s / 17 = b ∧ p - v = 0) → K shM (d + 3) 141 121 [some (.ref 0), some (.int (J a)), some (.int (J b)), some (.int (J (j : Int))), some (.int (J p)), some (.int (J many)), some (.int (J (j : Int))), x7, x8] [.int (J many)] (W3 I f g l, X) Q := by
          intro hno
          refine k_iconst i_141_121 ?_
          refine k_iadd i_141_122 ?_
          refine k_istore i_141_123 (Nat.le_of_ble_eq_true rfl) ?_
          dsimp only [q_st1, q_st2, q_unl]
          have h2 := hk f g l x7 x8 (fun i _ => ⟨rfl, rfl, rfl⟩)
          rw [show ftn T nt b 0 s (p - v) = 0 from by unfold ftn; rw [if_neg hno]] at h2
          exact h2
        refine k_iload i_141_83 rfl ?_
        refine k_iload i_141_85 rfl ?_
        refine k_iload_n i_141_87 rfl ?_
        refine k_ic_ne (t := 121) i_141_88 rfl (by omega) (by omega) (fun h => ?_) (fun h => ?_)
        · omega
        · refine k_aload_n i_141_91 rfl ?_
          refine k_gfR i_141_92 f_12_66 (by first | rfl | assumption | (rw [hR]; rfl) | (dsimp only; rw [hR]; rfl)) (by decide) (by decide) (Or.inr ⟨_, rfl⟩) (by first | rfl | assumption | (rw [hR]; rfl) | (dsimp only; rw [hR]; rfl)) ?_
          refine k_iload i_141_95 rfl ?_
          refine k_iald i_141_97 rfl (by decide) (by omega) (by omega) ?_
          rw [eg]
          refine k_bipush i_141_98 (by decide) ?_
          refine k_idiv i_141_100 (by omega) (by omega) (by omega) (by omega) ?_
          refine k_iload_n i_141_101 rfl ?_
          refine k_ic_ne (t := 121) i_141_102 rfl (by omega) (by omega) (fun h => ?_) (fun h => ?_)
          · exact no (by omega)
          · refine k_aload_n i_141_105 rfl ?_
            refine k_gfR i_141_106 f_12_69 (by first | rfl | assumption | (rw [hR]; rfl) | (dsimp only; rw [hR]; rfl)) (by decide) (by decide) (Or.inr ⟨_, rfl⟩) (by first | rfl | assumption | (rw [hR]; rfl) | (dsimp only; rw [hR]; rfl)) ?_
            refine k_iload i_141_109 rfl ?_
            refine k_iald i_141_111 rfl (by decide) (by omega) (by omega) ?_
            rw [el]
            refine k_iload i_141_112 rfl ?_
            refine k_ic_ne (t := 121) i_141_114 rfl (by omega) (by omega) (fun h => ?_) (fun h => ?_)
            · exact no (by omega)
            · refine k_iconst i_141_117 ?_
              refine k_goto (t := 122) i_141_118 rfl ?_
              refine k_iadd i_141_122 ?_
              refine k_istore i_141_123 (Nat.le_of_ble_eq_true rfl) ?_
              dsimp only [q_st1, q_st2, q_unl]
              have h2 := hk f g l x7 x8 (fun i _ => ⟨rfl, rfl, rfl⟩)
              rw [show ftn T nt b 0 s (p - v) = 1 from by unfold ftn; rw [if_pos (by omega)]] at h2
              exact h2
      · omega
  | succ m ih =>
    intro j hj f g l many s v x7 x8 hf hg hl hs hv hk
    have loop : ∀ (i k : Nat) (f2 g2 l2 : Nat → Int) (y7 y8 : Option Value), k + i = 4 → f2 j = k → g2 j = s → l2 j = v → (∀ i : Nat, i < j → f2 i = f i ∧ g2 i = g i ∧ l2 i = l i) → K shM (d + 3) 141 61 [some (.ref 0), some (.int (J a)), some (.int (J b)), some (.int (J (n : Int))), some (.int (J p)), some (.int (J (many + sm4 (ftT T nt b m s (p - v)) k))), some (.int (J (j : Int))), y7, y8] [] (W3 I f2 g2 l2, X) Q := by
      intro i
      induction i with
      | zero =>
        intro k f2 g2 l2 y7 y8 hki hf2 hg2 hl2 hsame
        have e : k = 4 := by omega
        subst e
        obtain ⟨hT, hR, hOK, hn1, h01⟩ := hB.scr (ScM_W3 (I := I) (f := f2) (g := g2) (l := l2))
        have ef : (W3 I f2 g2 l2, X).1 13 ((j : Int)).toNat = 4 := by show W3 I f2 g2 l2 13 _ = _; rw [W3_13, show ((j : Int)).toNat = j by omega]; exact hf2
        refine k_iload i_141_61 rfl ?_
        refine k_if_lt (t := 268) i_141_63 rfl (by omega) (fun h => ?_) (fun h => ?_)
        · omega
        · refine k_iload i_141_66 rfl ?_
          refine k_iload_n i_141_68 rfl ?_
          refine k_ic_eq (t := 83) i_141_69 rfl (by omega) (by omega) (fun h => ?_) (fun h => ?_)
          · omega
          · refine k_aload_n i_141_72 rfl ?_
            refine k_gfR i_141_73 f_12_63 (by first | rfl | assumption | (rw [hR]; rfl) | (dsimp only; rw [hR]; rfl)) (by decide) (by decide) (Or.inr ⟨_, rfl⟩) (by first | rfl | assumption | (rw [hR]; rfl) | (dsimp only; rw [hR]; rfl)) ?_
            refine k_iload i_141_76 rfl ?_
            refine k_iald i_141_78 rfl (by decide) (by omega) (by omega) ?_
            rw [ef]
            refine k_iconst i_141_79 ?_
            refine k_ic_ne (t := 147) i_141_80 rfl (by omega) (by omega) (fun h => ?_) (fun h => ?_)
            · omega
            · refine k_iload i_141_83 rfl ?_
              refine k_iload i_141_85 rfl ?_
              refine k_iload_n i_141_87 rfl ?_
              refine k_ic_ne (t := 121) i_141_88 rfl (by omega) (by omega) (fun h => ?_) (fun h => ?_)
              · refine k_iconst i_141_121 ?_
                refine k_iadd i_141_122 ?_
                refine k_istore i_141_123 (Nat.le_of_ble_eq_true rfl) ?_
                dsimp only [q_st1, q_st2, q_unl]
                have h2 := hk f2 g2 l2 y7 y8 hsame
                rw [ftn_S] at h2
                rw [Int.add_zero]
                exact h2
              · omega
      | succ i ih2 =>
        intro k f2 g2 l2 y7 y8 hki hf2 hg2 hl2 hsame
        obtain ⟨hT, hR, hOK, hn1, h01⟩ := hB.scr (ScM_W3 (I := I) (f := f2) (g := g2) (l := l2))
        obtain ⟨a0, a1, a2, a3, a4, a5, a6, a7, a8⟩ := id hT
        have ej : ((j : Int)).toNat = j := by omega
        have ef : (W3 I f2 g2 l2, X).1 13 ((j : Int)).toNat = k := by show W3 I f2 g2 l2 13 _ = _; rw [W3_13, ej]; exact hf2
        have eg : (W3 I f2 g2 l2, X).1 14 ((j : Int)).toNat = s := by show W3 I f2 g2 l2 14 _ = _; rw [W3_14, ej]; exact hg2
        have hq : (0 : Int) ≤ (k : Int) ∧ (k : Int) < 4 := by omega
        have hmr := mRun_le s k hs.1
        have hEr := mE_range hw (el := tMask T 2) hs hq
        have k199 : ∀ e : Int, e = mE T (tMask T 2) s k → K shM (d + 3) 141 199 [some (.ref 0), some (.int (J a)), some (.int (J b)), some (.int (J (n : Int))), some (.int (J p)), some (.int (J (many + sm4 (ftT T nt b m s (p - v)) k))), some (.int (J (j : Int))), some (.int (J (mRun s k))), y8] [.int (J e)] (W3 I f2 g2 l2, X) Q := by
          intro e he
          subst he
          refine k_istore i_141_199 (Nat.le_of_ble_eq_true rfl) ?_
          dsimp only [q_st1, q_st2, q_unl]
          refine k_iload i_141_201 rfl ?_
          refine k_if_ge (t := 220) i_141_203 rfl (by omega) (fun g1 => ?_) (fun g1 => ?_)
          · have hpr := tPrice4 hw (nt := nt) (r := mRun s k) (mE_run (T := T) (el := tMask T 2) (by omega))
            refine k_aload_n i_141_220 rfl ?_
            refine k_gfR i_141_221 f_12_66 (by first | rfl | assumption | (rw [hR]; rfl) | (dsimp only; rw [hR]; rfl)) (by decide) (by decide) (Or.inr ⟨_, rfl⟩) (by first | rfl | assumption | (rw [hR]; rfl) | (dsimp only; rw [hR]; rfl)) ?_
            refine k_iload i_141_224 rfl ?_
            refine k_iconst i_141_226 ?_
            refine k_iadd i_141_227 ?_
            refine k_iload i_141_228 rfl ?_
            refine k_iast i_141_230 rfl (by decide) (by omega) (by omega) ?_
            dsimp only
            rw [W3_u14, show ((j : Int) + 1).toNat = j + 1 by omega]
            obtain ⟨hT', hR', hOK', hn1', h01'⟩ := hB.scr (ScM_W3 (I := I) (f := f2) (g := ud g2 (j + 1) (mE T (tMask T 2) s k)) (l := l2))
            refine k_aload_n i_141_231 rfl ?_
            refine k_gfR i_141_232 f_12_69 (by first | rfl | assumption | (rw [hR]; rfl) | (dsimp only; rw [hR]; rfl)) (by decide) (by decide) (Or.inr ⟨_, rfl⟩) (by first | rfl | assumption | (rw [hR]; rfl) | (dsimp only; rw [hR]; rfl)) ?_
            refine k_iload i_141_235 rfl ?_
            refine k_iconst i_141_237 ?_
            refine k_iadd i_141_238 ?_
            refine k_aload_n i_141_239 rfl ?_
            refine k_gfR i_141_240 f_12_69 (by first | rfl | assumption | (rw [hR]; rfl) | (dsimp only; rw [hR]; rfl)) (by decide) (by decide) (Or.inr ⟨_, rfl⟩) (by first | rfl | assumption | (rw [hR]; rfl) | (dsimp only; rw [hR]; rfl)) ?_
            refine k_iload i_141_243 rfl ?_
            refine k_iald i_141_245 rfl (by decide) (by omega) (by omega) ?_
            rw [show (W3 I f2 (ud g2 (j + 1) (mE T (tMask T 2) s k)) l2, X).1 15 ((j : Int)).toNat = v from by show W3 I f2 (ud g2 (j + 1) (mE T (tMask T 2) s k)) l2 15 _ = _; rw [W3_15, ej]; exact hl2]
            refine k_aload_n i_141_246 rfl ?_
            refine k_iload i_141_247 rfl ?_
            refine k_vp1 i_141_249 c_12_194 qp_120 qo_120 (by first | rfl | assumption | (rw [hR]; rfl) | (dsimp only; rw [hR]; rfl)) (Nat.le_of_ble_eq_true rfl) (m_priceOf hT' hR' hw _ nt hn1' (by omega) h01) ?_
            refine k_iadd i_141_252 ?_
            refine k_iast i_141_253 rfl (by decide) (by omega) (by omega) ?_
            dsimp only
            rw [W3_u15, show ((j : Int) + 1).toNat = j + 1 by omega]
            refine k_iinc i_141_254 rfl (Nat.le_of_ble_eq_true rfl) ?_
            dsimp only [q_st1, q_st2, q_unl]
            refine k_aload_n i_141_257 rfl ?_
            refine k_gfR i_141_258 f_12_63 (by first | rfl | assumption | (rw [hR]; rfl) | (dsimp only; rw [hR]; rfl)) (by decide) (by decide) (Or.inr ⟨_, rfl⟩) (by first | rfl | assumption | (rw [hR]; rfl) | (dsimp only; rw [hR]; rfl)) ?_
            refine k_iload i_141_261 rfl ?_
            refine k_iconst i_141_263 ?_
            refine k_iast i_141_264 rfl (by decide) (by omega) (by omega) ?_
            dsimp only
            rw [W3_u13, show ((j : Int) + 1).toNat = j + 1 by omega]
            refine k_goto (t := 61) i_141_265 rfl ?_
            have h2 := ih (j + 1) (by omega) (ud f2 (j + 1) 0) (ud g2 (j + 1) (mE T (tMask T 2) s k)) (ud l2 (j + 1) (v + tPrice T nt (mRun s k))) (many + sm4 (ftT T nt b m s (p - v)) k) (mE T (tMask T 2) s k) (v + tPrice T nt (mRun s k)) (some (.int (J (mRun s k)))) (some (.int (J (mE T (tMask T 2) s k)))) ud_s ud_s ud_s (by omega) (by omega) (fun f3 g3 l3 z7 z8 hs3 => ?_)
            · rw [show ((j + 1 : Nat) : Int) = (j : Int) + 1 by omega] at h2
              exact h2
            · obtain ⟨q1, q2, q3⟩ := hs3 j (by omega)
              rw [ud_n (by omega)] at q1 q2 q3
              rw [show ((j + 1 : Nat) : Int) = (j : Int) + 1 by omega]
              have ef3 : (W3 I f3 g3 l3, X).1 13 ((j : Int) + 1 + -1).toNat = k := by show W3 I f3 g3 l3 13 _ = _; rw [W3_13, show ((j : Int) + 1 + -1).toNat = j by omega, q1]; exact hf2
              refine k_iinc i_141_125 rfl (Nat.le_of_ble_eq_true rfl) ?_
              dsimp only [q_st1, q_st2, q_unl]
              refine k_iload i_141_128 rfl ?_
              refine k_if_lt (t := 61) i_141_130 rfl (by omega) (fun h => ?_) (fun h => ?_)
              · omega
              · obtain ⟨hT', hR', hOK', hn1', h01'⟩ := hB.scr (ScM_W3 (I := I) (f := f3) (g := g3) (l := l3))
                refine k_aload_n i_141_133 rfl ?_
                refine k_gfR i_141_134 f_12_63 (by first | rfl | assumption | (rw [hR]; rfl) | (dsimp only; rw [hR]; rfl)) (by decide) (by decide) (Or.inr ⟨_, rfl⟩) (by first | rfl | assumption | (rw [hR]; rfl) | (dsimp only; rw [hR]; rfl)) ?_
                refine k_iload i_141_137 rfl ?_
                refine k_dup2 i_141_139 ?_
                refine k_iald i_141_140 rfl (by decide) (by omega) (by omega) ?_
                rw [ef3]
                refine k_iconst i_141_141 ?_
                refine k_iadd i_141_142 ?_
                refine k_iast i_141_143 rfl (by decide) (by omega) (by omega) ?_
                dsimp only
                rw [W3_u13, show ((j : Int) + 1 + -1).toNat = j by omega, show (j : Int) + 1 + -1 = (j : Int) by omega]
                refine k_goto (t := 61) i_141_144 rfl ?_
                have h3 := ih2 (k + 1) (ud f3 j ((k : Int) + 1)) g3 l3 z7 z8 (by omega) (by rw [ud_s]; omega) (by rw [q2]; exact hg2) (by rw [q3]; exact hl2) (fun i hi => by
                  obtain ⟨u1, u2, u3⟩ := hs3 i (by omega)
                  rw [ud_n (by omega)] at u1 u2 u3
                  obtain ⟨w1, w2, w3⟩ := hsame i hi
                  rw [ud_n (by omega)]
                  exact ⟨u1.trans w1, u2.trans w2, u3.trans w3⟩)
                rw [sm4_S, show ftT T nt b m s (p - v) k = ftn T nt b m (mE T (tMask T 2) s k) (p - (v + tPrice T nt (mRun s k))) from by
                  unfold ftT
                  rw [if_pos (by omega), Int.sub_sub], ← Int.add_assoc] at h3
                exact h3
          · refine k_aload_n i_141_206 rfl ?_
            refine k_gfR i_141_207 f_12_63 (by first | rfl | assumption | (rw [hR]; rfl) | (dsimp only; rw [hR]; rfl)) (by decide) (by decide) (Or.inr ⟨_, rfl⟩) (by first | rfl | assumption | (rw [hR]; rfl) | (dsimp only; rw [hR]; rfl)) ?_
            refine k_iload i_141_210 rfl ?_
            refine k_dup2 i_141_212 ?_
            refine k_iald i_141_213 rfl (by decide) (by omega) (by omega) ?_
            rw [ef]
            refine k_iconst i_141_214 ?_
            refine k_iadd i_141_215 ?_
            refine k_iast i_141_216 rfl (by decide) (by omega) (by omega) ?_
            dsimp only
            rw [W3_u13, ej]
            refine k_goto (t := 61) i_141_217 rfl ?_
            have h3 := ih2 (k + 1) (ud f2 j ((k : Int) + 1)) g2 l2 (some (.int (J (mRun s k)))) (some (.int (J (mE T (tMask T 2) s k)))) (by omega) (by rw [ud_s]; omega) hg2 hl2 (fun i hi => by
              rw [ud_n (by omega)]
              exact hsame i hi)
            rw [sm4_S, show ftT T nt b m s (p - v) k = 0 from by unfold ftT; rw [if_neg (by omega)], Int.add_zero] at h3
            exact h3
        refine k_iload i_141_61 rfl ?_
        refine k_if_lt (t := 268) i_141_63 rfl (by omega) (fun h => ?_) (fun h => ?_)
        · omega
        · refine k_iload i_141_66 rfl ?_
          refine k_iload_n i_141_68 rfl ?_
          refine k_ic_eq (t := 83) i_141_69 rfl (by omega) (by omega) (fun h => ?_) (fun h => ?_)
          · omega
          · refine k_aload_n i_141_72 rfl ?_
            refine k_gfR i_141_73 f_12_63 (by first | rfl | assumption | (rw [hR]; rfl) | (dsimp only; rw [hR]; rfl)) (by decide) (by decide) (Or.inr ⟨_, rfl⟩) (by first | rfl | assumption | (rw [hR]; rfl) | (dsimp only; rw [hR]; rfl)) ?_
            refine k_iload i_141_76 rfl ?_
            refine k_iald i_141_78 rfl (by decide) (by omega) (by omega) ?_
            rw [ef]
            refine k_iconst i_141_79 ?_
            refine k_ic_ne (t := 147) i_141_80 rfl (by omega) (by omega) (fun h => ?_) (fun h => ?_)
            · refine k_aload_n i_141_147 rfl ?_
              refine k_aload_n i_141_148 rfl ?_
              refine k_gfR i_141_149 f_12_66 (by first | rfl | assumption | (rw [hR]; rfl) | (dsimp only; rw [hR]; rfl)) (by decide) (by decide) (Or.inr ⟨_, rfl⟩) (by first | rfl | assumption | (rw [hR]; rfl) | (dsimp only; rw [hR]; rfl)) ?_
              refine k_iload i_141_152 rfl ?_
              refine k_iald i_141_154 rfl (by decide) (by omega) (by omega) ?_
              rw [eg]
              refine k_aload_n i_141_155 rfl ?_
              refine k_gfR i_141_156 f_12_63 (by first | rfl | assumption | (rw [hR]; rfl) | (dsimp only; rw [hR]; rfl)) (by decide) (by decide) (Or.inr ⟨_, rfl⟩) (by first | rfl | assumption | (rw [hR]; rfl) | (dsimp only; rw [hR]; rfl)) ?_
              refine k_iload i_141_159 rfl ?_
              refine k_iald i_141_161 rfl (by decide) (by omega) (by omega) ?_
              rw [ef]
              refine k_vp2 i_141_162 c_12_203 qp_128 qo_128 (by first | rfl | assumption | (rw [hR]; rfl) | (dsimp only; rw [hR]; rfl)) (Nat.le_of_ble_eq_true rfl) (m_runBehind _ _ (by omega) (by omega)) ?_
              refine k_istore i_141_165 (Nat.le_of_ble_eq_true rfl) ?_
              dsimp only [q_st1, q_st2, q_unl]
              refine k_iload i_141_167 rfl ?_
              refine k_iconst i_141_169 ?_
              refine k_ic_le (t := 177) i_141_170 rfl (by omega) (by omega) (fun gg2 => ?_) (fun gg2 => ?_)
              · refine k_aload_n i_141_177 rfl ?_
                refine k_aload_n i_141_178 rfl ?_
                refine k_gfR i_141_179 f_12_66 (by first | rfl | assumption | (rw [hR]; rfl) | (dsimp only; rw [hR]; rfl)) (by decide) (by decide) (Or.inr ⟨_, rfl⟩) (by first | rfl | assumption | (rw [hR]; rfl) | (dsimp only; rw [hR]; rfl)) ?_
                refine k_iload i_141_182 rfl ?_
                refine k_iald i_141_184 rfl (by decide) (by omega) (by omega) ?_
                rw [eg]
                refine k_aload_n i_141_185 rfl ?_
                refine k_gfR i_141_186 f_12_63 (by first | rfl | assumption | (rw [hR]; rfl) | (dsimp only; rw [hR]; rfl)) (by decide) (by decide) (Or.inr ⟨_, rfl⟩) (by first | rfl | assumption | (rw [hR]; rfl) | (dsimp only; rw [hR]; rfl)) ?_
                refine k_iload i_141_189 rfl ?_
                refine k_iald i_141_191 rfl (by decide) (by omega) (by omega) ?_
                rw [ef]
                refine k_aload_n i_141_192 rfl ?_
                refine k_gfI i_141_193 f_12_167 (by first | rfl | assumption | (rw [hR]; rfl) | (dsimp only; rw [hR]; rfl)) (by decide) (by decide) (Or.inl rfl) ?_
                rw [show (W3 I f2 g2 l2, X).1 0 3 = (tMask T 2 : Int) from a3]
                refine k_vp3 i_141_196 c_12_206 qp_129 qo_129 (by first | rfl | assumption | (rw [hR]; rfl) | (dsimp only; rw [hR]; rfl)) (Nat.le_of_ble_eq_true rfl) (m_onward hT hw (by omega) _ _ hs hq) ?_
                exact k199 _ (by unfold mE; rw [if_neg (by omega)])
              · refine k_iconst i_141_173 ?_
                refine k_goto (t := 199) i_141_174 rfl ?_
                exact k199 _ (by unfold mE; rw [if_pos (by omega)])
            · omega
    have h2 := loop 4 0 f g l x7 x8 (by omega) hf hg hl (fun i _ => ⟨rfl, rfl, rfl⟩)
    rw [show sm4 (ftT T nt b m s (p - v)) 0 = 0 from rfl, Int.add_zero] at h2
    exact h2
theorem m_fits (hB : MB I X T nt) (a b n p : Int) (ha : inJ a) (hb : inJ b) (hn : inJ n) (hp : inJ p) : KC shM (d + 4) 141 [.ref 0, .int (J a), .int (J b), .int (J n), .int (J p)] (I, X) (fun r S2 => r = some (.int (J (Ffi T nt a b n p))) ∧ ∃ I', S2 = (I', X) ∧ ScM I I') := by
  obtain ⟨hT, hR, hOK, hn1, h01⟩ := id hB
  have hw := hOK.1
  have hN := tN_le hw
  have bad : ¬ ((tOpen T a && tOpen T b) = true ∧ (0 ≤ n ∧ n ≤ 8) ∧ 0 ≤ p) → K shM (d + 4) 141 26 [some (.ref 0), some (.int (J a)), some (.int (J b)), some (.int (J n)), some (.int (J p)), none, none, none, none] [] (I, X) (fun r S2 => r = some (.int (J (Ffi T nt a b n p))) ∧ ∃ I', S2 = (I', X) ∧ ScM I I') := by
    intro hbad
    refine k_iconst i_141_26 ?_
    refine k_iret i_141_27 qt_141 ?_
    refine ⟨?_, I, rfl, ScM.rf⟩
    unfold Ffi
    rw [if_neg hbad]
  refine k_start ql_141 (Nat.le_of_ble_eq_true rfl) ?_
  simp only [q_en, List.replicate]
  refine k_aload_n i_141_0 rfl ?_
  refine k_iload_n i_141_1 rfl ?_
  refine k_iload_n i_141_2 rfl ?_
  refine k_vp2 i_141_3 c_12_210 qp_126 qo_126 (by first | rfl | assumption | (rw [hR]; rfl) | (dsimp only; rw [hR]; rfl)) (Nat.le_of_ble_eq_true rfl) (m_areOpen hT hw _ _ ha hb) ?_
  refine k_if_eqB (t := 26) i_141_6 rfl (fun h => ?_) (fun h => ?_)
  · exact bad (by rw [h]; simp)
  · have ho : tOpen T a = true ∧ tOpen T b = true := by simpa using h
    have har := open_lt ho.1
    have hbr := open_lt ho.2
    refine k_iload_n i_141_9 rfl ?_
    refine k_i2lJ i_141_10 (by omega) ?_
    refine k_lconstJ (a := 0) i_141_11 rfl ?_
    refine k_ldc2J (a := 8) i_141_12 l_12_87 (by decide) ?_
    refine k_sp3 i_141_15 c_12_72 (by decide) qp_100 (Nat.le_of_ble_eq_true rfl) (m_in _ _ _ (by omega) (by omega) (by omega)) ?_
    refine k_if_eqB (t := 26) i_141_18 rfl (fun h => ?_) (fun h => ?_)
    · exact bad (fun z => by rw [decide_eq_true z.2.1] at h; cases h)
    · have gn := of_decide_eq_true h
      refine k_iload i_141_21 rfl ?_
      refine k_if_ge (t := 28) i_141_23 rfl (by omega) (fun h => ?_) (fun h => ?_)
      · refine k_iconst i_141_28 ?_
        refine k_istore i_141_29 (Nat.le_of_ble_eq_true rfl) ?_
        dsimp only [q_st1, q_st2, q_unl]
        refine k_iconst i_141_31 ?_
        refine k_istore i_141_32 (Nat.le_of_ble_eq_true rfl) ?_
        dsimp only [q_st1, q_st2, q_unl]
        refine k_aload_n i_141_34 rfl ?_
        refine k_gfR i_141_35 f_12_66 (by first | rfl | assumption | (rw [hR]; rfl) | (dsimp only; rw [hR]; rfl)) (by decide) (by decide) (Or.inr ⟨_, rfl⟩) (by first | rfl | assumption | (rw [hR]; rfl) | (dsimp only; rw [hR]; rfl)) ?_
        refine k_iconst i_141_38 ?_
        refine k_bipush i_141_39 (by decide) ?_
        refine k_iload_n i_141_41 rfl ?_
        refine k_imul i_141_42 ?_
        refine k_bipush i_141_43 (by decide) ?_
        refine k_iadd i_141_45 ?_
        refine k_iast i_141_46 rfl (by decide) (by omega) (by omega) ?_
        dsimp only
        rw [show q_up I 14 (0 : Int).toNat (17 * a + 16) = W3 I (I 13) (ud (I 14) 0 (17 * a + 16)) (I 15) from by rw [← W3_u14, W3_id]; rfl]
        refine k_aload_n i_141_47 rfl ?_
        refine k_gfR i_141_48 f_12_69 (by first | rfl | assumption | (rw [hR]; rfl) | (dsimp only; rw [hR]; rfl)) (by decide) (by decide) (Or.inr ⟨_, rfl⟩) (by first | rfl | assumption | (rw [hR]; rfl) | (dsimp only; rw [hR]; rfl)) ?_
        refine k_iconst i_141_51 ?_
        refine k_iconst i_141_52 ?_
        refine k_iast i_141_53 rfl (by decide) (by omega) (by omega) ?_
        dsimp only
        rw [W3_u15]
        refine k_aload_n i_141_54 rfl ?_
        refine k_gfR i_141_55 f_12_63 (by first | rfl | assumption | (rw [hR]; rfl) | (dsimp only; rw [hR]; rfl)) (by decide) (by decide) (Or.inr ⟨_, rfl⟩) (by first | rfl | assumption | (rw [hR]; rfl) | (dsimp only; rw [hR]; rfl)) ?_
        refine k_iconst i_141_58 ?_
        refine k_iconst i_141_59 ?_
        refine k_iast i_141_60 rfl (by decide) (by omega) (by omega) ?_
        dsimp only
        rw [W3_u13]
        obtain ⟨N, rfl⟩ : ∃ N : Nat, n = N := ⟨n.toNat, by omega⟩
        refine l_mfi (d := d + 1) hB a p hbr N (by omega) hp (by omega) N 0 (by omega) _ _ _ 0 (17 * a + 16) 0 none none ud_s ud_s ud_s (by omega) (by omega) (fun f' g' l' y7 y8 hsame => ?_)
        have eF : Ffi T nt a b N p = ftn T nt b N (17 * a + 16) p := by
          unfold Ffi
          rw [if_pos ⟨by rw [ho.1, ho.2]; rfl, gn, by omega⟩]
          rfl
        rw [eF, Int.zero_add, Int.sub_zero]
        refine k_iinc i_141_125 rfl (Nat.le_of_ble_eq_true rfl) ?_
        dsimp only [q_st1, q_st2, q_unl]
        refine k_iload i_141_128 rfl ?_
        refine k_if_lt (t := 61) i_141_130 rfl (by omega) (fun h => ?_) (fun h => ?_)
        · refine k_iload i_141_61 rfl ?_
          refine k_if_lt (t := 268) i_141_63 rfl (by omega) (fun h => ?_) (fun h => ?_)
          · refine k_iload i_141_268 rfl ?_
            refine k_iret i_141_270 qt_141 ?_
            exact ⟨rfl, _, rfl, ScM_W3⟩
          · omega
        · omega
      · exact bad (by omega)
end FM
