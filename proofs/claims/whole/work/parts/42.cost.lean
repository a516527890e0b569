/-! COST: both sides -/
/-- powers of ten -/
def P10 : Nat → Int
  | 0 => 1
  | k + 1 => 10 * P10 k
theorem P10_pos : ∀ k, 1 ≤ P10 k
  | 0 => Int.le_refl _
  | k + 1 => by have := P10_pos k; unfold P10; omega
theorem P10_le {j k : Nat} (h : j ≤ k) : P10 j ≤ P10 k := by
  obtain ⟨i, rfl⟩ : ∃ i, k = j + i := ⟨k - j, by omega⟩
  induction i with
  | zero => exact Int.le_refl _
  | succ i ih =>
    have h1 := ih (by omega)
    have h2 := P10_pos (j + i)
    show P10 j ≤ 10 * P10 (j + i)
    omega
/-- figures from 1 to 4 alone -/
def fg : Nat → Int → Bool
  | 0, _ => true
  | k + 1, n => if n ≤ 0 then true else decide (1 ≤ n % 10 ∧ n % 10 ≤ 4) && fg k (n / 10)
theorem fg_digit : ∀ (f j : Nat) (n : Int), fg f n = true → j < f → P10 j ≤ n → 1 ≤ n / P10 j % 10 ∧ n / P10 j % 10 ≤ 4
  | 0, j, n, _, hj, _ => by omega
  | f + 1, 0, n, h, _, hn => by
    have : (1 : Int) ≤ n := hn
    unfold fg at h
    rw [if_neg (by omega), Bool.and_eq_true, decide_eq_true_eq] at h
    show 1 ≤ n / 1 % 10 ∧ n / 1 % 10 ≤ 4
    omega
  | f + 1, j + 1, n, h, hj, hn => by
    have h1 := P10_pos j
    have hn2 : 10 * P10 j ≤ n := hn
    unfold fg at h
    rw [if_neg (by omega), Bool.and_eq_true] at h
    have h2 := fg_digit f j (n / 10) h.2 (by omega) (by omega)
    show 1 ≤ n / (10 * P10 j) % 10 ∧ n / (10 * P10 j) % 10 ≤ 4
    rw [← Int.ediv_ediv_of_nonneg (by omega : (0 : Int) ≤ 10)]
    exact h2
theorem fg_le : ∀ (f : Nat) (n : Int), fg f n = true → n < P10 f → 9 * n ≤ 4 * (P10 f - 1)
  | 0, n, _, h => by
    have : n < 1 := h
    show 9 * n ≤ 4 * (1 - 1)
    omega
  | f + 1, n, h, hn => by
    have h1 := P10_pos f
    have hn2 : n < 10 * P10 f := hn
    show 9 * n ≤ 4 * (10 * P10 f - 1)
    unfold fg at h
    split at h
    · omega
    · rw [Bool.and_eq_true, decide_eq_true_eq] at h
      have := fg_le f (n / 10) h.2 (by omega)
      omega
/-- how many figures -/
def dgn : Nat → Int → Nat
  | 0, _ => 0
  | f + 1, s => if s ≤ 0 then 0 else dgn f (s / 10) + 1
theorem dgn_of : ∀ (k f : Nat) (s : Int), k < f → P10 k ≤ s → s < P10 (k + 1) → dgn f s = k + 1
  | 0, 0, s, hf, _, _ => by omega
  | 0, f + 1, s, hf, h1, h2 => by
    have h3 : 1 ≤ s := h1
    have h4 : s < 10 * 1 := h2
    unfold dgn
    rw [if_neg (by omega), show s / 10 = 0 by omega]
    cases f with
    | zero => rfl
    | succ f => rfl
  | k + 1, 0, s, hf, _, _ => by omega
  | k + 1, f + 1, s, hf, h1, h2 => by
    have h0 := P10_pos k
    have h3 : 10 * P10 k ≤ s := h1
    have h4 : s < 10 * (10 * P10 k) := h2
    unfold dgn
    rw [if_neg (by omega), dgn_of k f (s / 10) (by omega) (by omega) (by show _ < 10 * P10 k; omega)]
theorem dgn_0 (f : Nat) : dgn f 0 = 0 := by cases f <;> rfl
/-- the digits of what is left -/
theorem dig_mod (s : Int) (hs : 0 ≤ s) (k : Nat) (hk : k ≤ 8) : (s % (10 * P10 k)) / P10 k = s / P10 k % 10 ∧ (s % (10 * P10 k)) % P10 k = s % P10 k := by
  rcases (show k = 0 ∨ k = 1 ∨ k = 2 ∨ k = 3 ∨ k = 4 ∨ k = 5 ∨ k = 6 ∨ k = 7 ∨ k = 8 by omega) with rfl | rfl | rfl | rfl | rfl | rfl | rfl | rfl | rfl <;> simp only [P10] <;> omega
/-- going by the figures from the k-th down -/
def tld (T : Tn) (nt s : Int) : Nat → Int → Int → Int → Int → Int → Int
  | 0, _, _, _, _, p => p
  | k + 1, i, c, l, r, p => if nx T c (s / P10 k % 10 - 1) < 0 then -10 - i else tld T nt s k (i + 1) (nx T c (s / P10 k % 10 - 1)) (s / P10 k % 10 - 1) (tRun T c l r (s / P10 k % 10 - 1)) (p + tPrice T nt (tRun T c l r (s / P10 k % 10 - 1)))
def Fco (T : Tn) (nt a s : Int) : Int := if tOpen T a = true ∧ (0 ≤ s ∧ s ≤ 999999999) ∧ fg 9 s = true then tld T nt s (dgn 9 s) 0 a (-1) 0 0 else -1
theorem tRun_range {T : Tn} {c l r q : Int} {n : Int} (hr : 0 ≤ r ∧ r ≤ n) : 1 ≤ tRun T c l r q ∧ tRun T c l r q ≤ n + 1 := by
  unfold tRun; split <;> omega
section CO
variable {d : Nat} {T : Tn} {I : Nat → Nat → Int} {X : XX} {h0 s0 w : Nat} {nt : Int} {Q : Option Value → QS → Prop}
-- method 80: StraightTax.areFigures.(I)Z
theorem l_areFig {sh : QH} {S : QS} (s0 : Int) : ∀ (f : Nat) (n : Int) (x2 : Option Value), 0 ≤ n → n ≤ 999999999 → n < P10 f → f ≤ 9 → K sh d 80 15 [some (.int (J s0)), some (.int (J n)), x2] [] S (fun r S2 => r = some (.int (J (bi (fg f n)))) ∧ S2 = S) := by
  intro f
  induction f with
  | zero =>
    intro n x2 h1 h2 h3 h4
    have : n < 1 := h3
    refine k_iload_n i_80_15 rfl ?_
    refine k_if_le (t := 44) i_80_16 rfl (by omega) (fun h => ?_) (fun h => ?_)
    · refine k_iconst i_80_44 ?_
      refine k_nret i_80_45 qt_80 (by first | exact bi_nar _ | rfl) ?_
      exact ⟨rfl, rfl⟩
    · omega
  | succ f ih =>
    intro n x2 h1 h2 h3 h4
    have h5 : n < 10 * P10 f := h3
    have no : 0 < n → ¬ (1 ≤ n % 10 ∧ n % 10 ≤ 4) → K sh d 80 34 [some (.int (J s0)), some (.int (J n)), some (.int (J (n % 10)))] [] S (fun r S2 => r = some (.int (J (bi (fg (f + 1) n)))) ∧ S2 = S) := by
      intro hn hbad
      refine k_iconst i_80_34 ?_
      refine k_nret i_80_35 qt_80 (by first | exact bi_nar _ | rfl) ?_
      refine ⟨?_, rfl⟩
      unfold fg
      rw [if_neg (by omega), decide_eq_false hbad]
      rfl
    refine k_iload_n i_80_15 rfl ?_
    refine k_if_le (t := 44) i_80_16 rfl (by omega) (fun h => ?_) (fun h => ?_)
    · refine k_iconst i_80_44 ?_
      refine k_nret i_80_45 qt_80 (by first | exact bi_nar _ | rfl) ?_
      refine ⟨?_, rfl⟩
      unfold fg
      rw [if_pos (by omega)]
      rfl
    · refine k_iload_n i_80_19 rfl ?_
      refine k_bipush i_80_20 (by decide) ?_
      refine k_irem i_80_22 (by omega) (by omega) (by omega) (by omega) ?_
      refine k_istore_n i_80_23 (Nat.le_of_ble_eq_true rfl) ?_
      dsimp only [q_st1, q_st2, q_unl]
      refine k_iload_n i_80_24 rfl ?_
      refine k_iconst i_80_25 ?_
      refine k_ic_lt (t := 34) i_80_26 rfl (by omega) (by omega) (fun h => ?_) (fun h => ?_)
      · exact no (by omega) (by omega)
      · refine k_iload_n i_80_29 rfl ?_
        refine k_iconst i_80_30 ?_
        refine k_ic_le (t := 36) i_80_31 rfl (by omega) (by omega) (fun h => ?_) (fun h => ?_)
        · refine k_iload_n i_80_36 rfl ?_
          refine k_bipush i_80_37 (by decide) ?_
          refine k_idiv i_80_39 (by omega) (by omega) (by omega) (by omega) ?_
          refine k_istore_n i_80_40 (Nat.le_of_ble_eq_true rfl) ?_
          dsimp only [q_st1, q_st2, q_unl]
          refine k_goto (t := 15) i_80_41 rfl ?_
          unfold fg
          rw [if_neg (by omega), decide_eq_true (by omega), Bool.true_and]
          exact ih (n / 10) _ (by omega) (by omega) (by omega) (by omega)
        · exact no (by omega) (by omega)
theorem e_areFig {sh : QH} {S : QS} (s : Int) (hs : inJ s) : KP sh d 80 [.int (J s)] S (.int (J (bi (decide (0 ≤ s ∧ s ≤ 999999999) && fg 9 s)))) := by
  have no : ¬ (0 ≤ s ∧ s ≤ 999999999) → K sh d 80 11 [some (.int (J s)), none, none] [] S (fun r S2 => r = some (.int (J (bi (decide (0 ≤ s ∧ s ≤ 999999999) && fg 9 s)))) ∧ S2 = S) := by
    intro hbad
    refine k_iconst i_80_11 ?_
    refine k_nret i_80_12 qt_80 (by first | exact bi_nar _ | rfl) ?_
    rw [decide_eq_false hbad]
    exact ⟨rfl, rfl⟩
  refine k_start ql_80 (Nat.le_of_ble_eq_true rfl) ?_
  simp only [q_en, List.replicate]
  refine k_iload_n i_80_0 rfl ?_
  refine k_if_lt (t := 11) i_80_1 rfl (by omega) (fun h => ?_) (fun h => ?_)
  · exact no (by omega)
  · refine k_iload_n i_80_4 rfl ?_
    refine k_ldcw (a := 999999999) i_80_5 n_11_265 (by decide) ?_
    refine k_ic_le (t := 13) i_80_8 rfl (by omega) (by omega) (fun h => ?_) (fun h => ?_)
    · refine k_iload_n i_80_13 rfl ?_
      refine k_istore_n i_80_14 (Nat.le_of_ble_eq_true rfl) ?_
      dsimp only [q_st1, q_st2, q_unl]
      rw [decide_eq_true (by omega), Bool.true_and]
      exact l_areFig s 9 s none (by omega) (by omega) (by show s < 1000000000; omega) (by omega)
    · exact no (by omega)
-- method 48: StraightTax$Ways.told.(II)I
theorem l_told_p (a s : Int) (hs : 0 ≤ s ∧ s ≤ 999999999) {S : QS}
    (hk : ∀ k : Nat, k ≤ 8 → (s = 0 ∧ k = 0 ∨ P10 k ≤ s ∧ s < P10 (k + 1)) → K shX (d + 3) 48 24 [some (.ref 32), some (.int (J a)), some (.int (J s)), some (.int (J (P10 k))), none, none, none, none, none, none, none, none] [] S Q) : ∀ (f k : Nat), k + f = 8 → (k = 0 ∨ P10 k ≤ s) → K shX (d + 3) 48 2 [some (.ref 32), some (.int (J a)), some (.int (J s)), some (.int (J (P10 k))), none, none, none, none, none, none, none, none] [] S Q := by
  intro f
  induction f with
  | zero =>
    intro k hf hk0
    have e : k = 8 := by omega
    subst e
    have e8 : P10 8 = 100000000 := rfl
    rw [e8]
    refine k_iload_n i_48_2 rfl ?_
    refine k_iload_n i_48_3 rfl ?_
    refine k_bipush i_48_4 (by decide) ?_
    refine k_idiv i_48_6 (by omega) (by omega) (by omega) (by omega) ?_
    refine k_ic_gt (t := 24) i_48_7 rfl (by omega) (by omega) (fun h => ?_) (fun h => ?_)
    · exact hk 8 (by omega) (Or.inr ⟨by omega, by show s < 1000000000; omega⟩)
    · refine k_iload_n i_48_10 rfl ?_
      refine k_ldc (a := 99999999) i_48_11 n_10_55 (by decide) ?_
      refine k_ic_gt (t := 24) i_48_13 rfl (by omega) (by omega) (fun h => ?_) (fun h => ?_)
      · exact hk 8 (by omega) (Or.inr ⟨by omega, by show s < 1000000000; omega⟩)
      · omega
  | succ f ih =>
    intro k hf hk0
    have h1 := P10_pos k
    have h2 := P10_le (j := k) (k := 7) (by omega)
    have e7 : P10 7 = 10000000 := rfl
    have eS : P10 (k + 1) = 10 * P10 k := rfl
    have hk0' : s = 0 ∧ k = 0 ∨ P10 k ≤ s := by
      rcases hk0 with rfl | z
      · by_cases e : s = 0
        · exact Or.inl ⟨e, rfl⟩
        · right; show (1 : Int) ≤ s; omega
      · exact Or.inr z
    refine k_iload_n i_48_2 rfl ?_
    refine k_iload_n i_48_3 rfl ?_
    refine k_bipush i_48_4 (by decide) ?_
    refine k_idiv i_48_6 (by omega) (by omega) (by omega) (by omega) ?_
    refine k_ic_gt (t := 24) i_48_7 rfl (by omega) (by omega) (fun g => ?_) (fun g => ?_)
    · exact hk k (by omega) (hk0'.imp id (fun z => ⟨z, by omega⟩))
    · refine k_iload_n i_48_10 rfl ?_
      refine k_ldc (a := 99999999) i_48_11 n_10_55 (by decide) ?_
      refine k_ic_gt (t := 24) i_48_13 rfl (by omega) (by omega) (fun h => ?_) (fun h => ?_)
      · omega
      · refine k_iload_n i_48_16 rfl ?_
        refine k_bipush i_48_17 (by decide) ?_
        refine k_imul i_48_19 ?_
        refine k_istore_n i_48_20 (Nat.le_of_ble_eq_true rfl) ?_
        dsimp only [q_st1, q_st2, q_unl]
        refine k_goto (t := 2) i_48_21 rfl ?_
        rw [show P10 k * 10 = P10 (k + 1) by omega]
        exact ih (k + 1) (by omega) (Or.inr (by omega))
theorem l_told (hW : WX I X h0 s0 w T nt) (a s : Int) (hs : 0 ≤ s ∧ s ≤ 999999999) (hfg : fg 9 s = true) : ∀ (k i : Nat) (c l r p : Int) (x10 x11 : Option Value), k + i ≤ 9 → (k = 0 ∨ P10 (k - 1) ≤ s) → (0 ≤ c ∧ c < tN T) → (-1 ≤ l ∧ l < 4) → (0 ≤ r ∧ r ≤ i) → (0 ≤ p ∧ p ≤ 180009 * i) → K shX (d + 3) 48 42 [some (.ref 32), some (.int (J a)), some (.int (J s)), some (.int (J (P10 k / 10))), some (.int (J c)), some (.int (J l)), some (.int (J r)), some (.int (J p)), some (.int (J (s % P10 k))), some (.int (J (i : Int))), x10, x11] [] (I, X) (fun r1 S2 => r1 = some (.int (J (tld T nt s k i c l r p))) ∧ S2 = (I, X)) := by
  obtain ⟨hR, hw4, hT, hX, hnt, h01, hOK, hwt⟩ := id hW
  obtain ⟨s1, s2, s3, r1, r2, a0, a1, a2, a3, a4, a5, a6, ag⟩ := id hT
  have hw := hOK.1
  have hN := tN_le hw
  intro k
  induction k with
  | zero =>
    intro i c l r p x10 x11 hki htop hc hl hr hp
    have e0 : P10 0 = 1 := rfl
    rw [e0]
    refine k_iload i_48_42 rfl ?_
    refine k_if_le (t := 144) i_48_44 rfl (by omega) (fun h => ?_) (fun h => ?_)
    · refine k_iload i_48_144 rfl ?_
      refine k_iret i_48_146 qt_48 ?_
      exact ⟨rfl, rfl⟩
    · omega
  | succ k ih =>
    intro i c l r p x10 x11 hki htop hc hl hr hp
    have htop' : P10 k ≤ s := by
      rcases htop with z | z
      · omega
      · exact z
    have h1 := P10_pos k
    have h2 := P10_le (j := k) (k := 8) (by omega)
    have e8 : P10 8 = 100000000 := rfl
    have eS : P10 (k + 1) = 10 * P10 k := rfl
    have ed : P10 (k + 1) / 10 = P10 k := by omega
    obtain ⟨m1, m2⟩ := dig_mod s hs.1 k (by omega)
    obtain ⟨f1, f2⟩ := fg_digit 9 k s hfg (by omega) htop'
    rw [← eS] at m1 m2
    have hrest : 0 ≤ s % P10 (k + 1) ∧ s % P10 (k + 1) < P10 (k + 1) := ⟨Int.emod_nonneg _ (by omega), Int.emod_lt_of_pos _ (by omega)⟩
    have hpos : 0 < s % P10 (k + 1) := by
      by_cases z : s % P10 (k + 1) = 0
      · rw [z, Int.zero_ediv] at m1; omega
      · omega
    have hrun := tRun_range (T := T) (c := c) (l := l) (q := s / P10 k % 10 - 1) hr
    have hpr := tPrice_range hw (nt := nt) (r := tRun T c l r (s / P10 k % 10 - 1)) (by omega)
    have hnr := nx_range hw c (s / P10 k % 10 - 1)
    rw [ed]
    unfold tld
    refine k_iload i_48_42 rfl ?_
    refine k_if_le (t := 144) i_48_44 rfl (by omega) (fun h => ?_) (fun h => ?_)
    · omega
    · refine k_iload_n i_48_47 rfl ?_
      refine k_if_le (t := 144) i_48_48 rfl (by omega) (fun h => ?_) (fun h => ?_)
      · omega
      · refine k_iload i_48_51 rfl ?_
        refine k_iload_n i_48_53 rfl ?_
        refine k_idiv i_48_54 (by omega) (by omega) (by omega) (by omega) ?_
        rw [m1]
        refine k_iconst i_48_55 ?_
        refine k_isub i_48_56 ?_
        refine k_istore i_48_57 (Nat.le_of_ble_eq_true rfl) ?_
        dsimp only [q_st1, q_st2, q_unl]
        refine k_aload_n i_48_59 rfl ?_
        refine k_gfR i_48_60 f_10_12 (by first | rfl | assumption | (rw [hR]; rfl) | (dsimp only; rw [hR]; rfl)) (by decide) (by decide) (Or.inl ⟨_, rfl⟩) (by first | rfl | assumption | (rw [hR]; rfl) | (dsimp only; rw [hR]; rfl)) ?_
        refine k_iload i_48_63 rfl ?_
        refine k_iload i_48_65 rfl ?_
        refine k_vp2 i_48_67 c_10_56 qp_32 qo_32 (by first | rfl | assumption | (rw [hR]; rfl) | (dsimp only; rw [hR]; rfl)) (Nat.le_of_ble_eq_true rfl) (e_ahead hT hX _ _ (by omega) (by omega)) ?_
        rw [tAh_nx hw hc (by omega)]
        refine k_istore i_48_70 (Nat.le_of_ble_eq_true rfl) ?_
        dsimp only [q_st1, q_st2, q_unl]
        refine k_iload i_48_72 rfl ?_
        refine k_iconst i_48_74 ?_
        refine k_ic_ne (t := 84) i_48_75 rfl (by omega) (by omega) (fun g => ?_) (fun g => ?_)
        · rw [if_neg (by omega)]
          refine k_aload_n i_48_84 rfl ?_
          refine k_gfR i_48_85 f_10_12 (by first | rfl | assumption | (rw [hR]; rfl) | (dsimp only; rw [hR]; rfl)) (by decide) (by decide) (Or.inl ⟨_, rfl⟩) (by first | rfl | assumption | (rw [hR]; rfl) | (dsimp only; rw [hR]; rfl)) ?_
          refine k_iload i_48_88 rfl ?_
          refine k_iload i_48_90 rfl ?_
          refine k_iload i_48_92 rfl ?_
          refine k_iload i_48_94 rfl ?_
          refine k_vp4 i_48_96 c_10_60 qp_33 qo_33 (by first | rfl | assumption | (rw [hR]; rfl) | (dsimp only; rw [hR]; rfl)) (Nat.le_of_ble_eq_true rfl) (e_runOf hT hw _ _ _ _ (by omega) (by omega) (by omega)) ?_
          refine k_istore i_48_99 (Nat.le_of_ble_eq_true rfl) ?_
          dsimp only [q_st1, q_st2, q_unl]
          refine k_iload i_48_101 rfl ?_
          refine k_aload_n i_48_103 rfl ?_
          refine k_gfR i_48_104 f_10_12 (by first | rfl | assumption | (rw [hR]; rfl) | (dsimp only; rw [hR]; rfl)) (by decide) (by decide) (Or.inl ⟨_, rfl⟩) (by first | rfl | assumption | (rw [hR]; rfl) | (dsimp only; rw [hR]; rfl)) ?_
          refine k_iload i_48_107 rfl ?_
          refine k_aload_n i_48_109 rfl ?_
          refine k_gfI i_48_110 f_10_18 (by first | rfl | assumption | (rw [hR]; rfl) | (dsimp only; rw [hR]; rfl)) (by decide) (by decide) (Or.inr rfl) ?_
          rw [show (I, X).1 32 1 = nt from hnt]
          refine k_vp2 i_48_113 c_10_51 qp_35 qo_35 (by first | rfl | assumption | (rw [hR]; rfl) | (dsimp only; rw [hR]; rfl)) (Nat.le_of_ble_eq_true rfl) (e_price hT hw _ _ (by omega) h01) ?_
          refine k_iadd i_48_116 ?_
          refine k_istore i_48_117 (Nat.le_of_ble_eq_true rfl) ?_
          dsimp only [q_st1, q_st2, q_unl]
          refine k_iload i_48_119 rfl ?_
          refine k_istore i_48_121 (Nat.le_of_ble_eq_true rfl) ?_
          dsimp only [q_st1, q_st2, q_unl]
          refine k_iload i_48_123 rfl ?_
          refine k_istore i_48_125 (Nat.le_of_ble_eq_true rfl) ?_
          dsimp only [q_st1, q_st2, q_unl]
          refine k_iload i_48_127 rfl ?_
          refine k_iload_n i_48_129 rfl ?_
          refine k_irem i_48_130 (by omega) (by omega) (by omega) (by omega) ?_
          rw [m2]
          refine k_istore i_48_131 (Nat.le_of_ble_eq_true rfl) ?_
          dsimp only [q_st1, q_st2, q_unl]
          refine k_iload_n i_48_133 rfl ?_
          refine k_bipush i_48_134 (by decide) ?_
          refine k_idiv i_48_136 (by omega) (by omega) (by omega) (by omega) ?_
          refine k_istore_n i_48_137 (Nat.le_of_ble_eq_true rfl) ?_
          dsimp only [q_st1, q_st2, q_unl]
          refine k_iinc i_48_138 rfl (Nat.le_of_ble_eq_true rfl) ?_
          dsimp only [q_st1, q_st2, q_unl]
          refine k_goto (t := 42) i_48_141 rfl ?_
          refine ih (i + 1) _ _ _ _ _ _ (by omega) ?_ (by omega) (by omega) (by omega) (by omega)
          cases k with
          | zero => exact Or.inl rfl
          | succ k => right; have : P10 (k + 1) = 10 * P10 k := rfl; have := P10_pos k; show P10 k ≤ s; omega
        · rw [if_pos (by omega)]
          refine k_bipush i_48_78 (by decide) ?_
          refine k_iload i_48_80 rfl ?_
          refine k_isub i_48_82 ?_
          refine k_iret i_48_83 qt_48 ?_
          exact ⟨rfl, rfl⟩
theorem e_told (hW : WX I X h0 s0 w T nt) (a s : Int) (ha : 0 ≤ a ∧ a < tN T) (hs : 0 ≤ s ∧ s ≤ 999999999) (hfg : fg 9 s = true) : KP shX (d + 3) 48 [.ref 32, .int (J a), .int (J s)] (I, X) (.int (J (tld T nt s (dgn 9 s) 0 a (-1) 0 0))) := by
  have hR := hW.1
  refine k_start ql_48 (Nat.le_of_ble_eq_true rfl) ?_
  simp only [q_en, List.replicate]
  refine k_iconst i_48_0 ?_
  refine k_istore_n i_48_1 (Nat.le_of_ble_eq_true rfl) ?_
  dsimp only [q_st1, q_st2, q_unl]
  refine l_told_p a s hs (fun k hk8 hk => ?_) 8 0 (by omega) (Or.inl rfl)
  refine k_iload_n i_48_24 rfl ?_
  refine k_istore i_48_25 (Nat.le_of_ble_eq_true rfl) ?_
  dsimp only [q_st1, q_st2, q_unl]
  refine k_iconst i_48_27 ?_
  refine k_istore i_48_28 (Nat.le_of_ble_eq_true rfl) ?_
  dsimp only [q_st1, q_st2, q_unl]
  refine k_iconst i_48_30 ?_
  refine k_istore i_48_31 (Nat.le_of_ble_eq_true rfl) ?_
  dsimp only [q_st1, q_st2, q_unl]
  refine k_iconst i_48_33 ?_
  refine k_istore i_48_34 (Nat.le_of_ble_eq_true rfl) ?_
  dsimp only [q_st1, q_st2, q_unl]
  refine k_iload_n i_48_36 rfl ?_
  refine k_istore i_48_37 (Nat.le_of_ble_eq_true rfl) ?_
  dsimp only [q_st1, q_st2, q_unl]
  refine k_iconst i_48_39 ?_
  refine k_istore i_48_40 (Nat.le_of_ble_eq_true rfl) ?_
  dsimp only [q_st1, q_st2, q_unl]
  rcases hk with ⟨rfl, rfl⟩ | ⟨h1, h2⟩
  · rw [dgn_0]
    refine k_iload i_48_42 rfl ?_
    refine k_if_le (t := 144) i_48_44 rfl (by omega) (fun h => ?_) (fun h => ?_)
    · refine k_iload i_48_144 rfl ?_
      refine k_iret i_48_146 qt_48 ?_
      exact ⟨rfl, rfl⟩
    · omega
  · rw [dgn_of k 9 s (by omega) h1 h2]
    have hl := l_told (d := d) hW a s hs hfg (k + 1) 0 a (-1) 0 0 none none (by omega) (Or.inr h1) ha (by omega) (by omega) (by omega)
    have eS : P10 (k + 1) = 10 * P10 k := rfl
    rw [show P10 (k + 1) / 10 = P10 k by omega, Int.emod_eq_of_lt hs.1 h2] at hl
    exact hl
-- method 79: StraightTax.cost.(II)I
theorem x_cost (hB : XB I X h0 s0 w T nt) (a s : Int) (ha : inJ a) (hs : inJ s) : KC shX (d + 4) 79 [.ref 0, .int (J a), .int (J s)] (I, X) (fun r S2 => r = some (.int (J (Fco T nt a s))) ∧ ∃ I' w', S2 = (I', X.1, rX h0 s0 w') ∧ Scr I I') := by
  obtain ⟨hR, hh, hT, hX, hOK, hnt, h01, hz⟩ := hB
  obtain ⟨s1, s2, s3, r1, r2, a0, a1, a2, a3, a4, a5, a6, ag⟩ := id hT
  have hw := hOK.1
  have hN := tN_le hw
  have same : ∃ I' w', (I, X) = (I', X.1, rX h0 s0 w') ∧ Scr I I' := ⟨I, w, by rw [← hR], Scr.rfl'⟩
  have bad : ¬ (tOpen T a = true ∧ (0 ≤ s ∧ s ≤ 999999999) ∧ fg 9 s = true) → K shX (d + 4) 79 18 [some (.ref 0), some (.int (J a)), some (.int (J s))] [] (I, X) (fun r S2 => r = some (.int (J (Fco T nt a s))) ∧ ∃ I' w', S2 = (I', X.1, rX h0 s0 w') ∧ Scr I I') := by
    intro hbad
    refine k_iconst i_79_18 ?_
    refine k_iret i_79_19 qt_79 ?_
    refine ⟨?_, same⟩
    unfold Fco
    rw [if_neg hbad]
  refine k_start ql_79 (Nat.le_of_ble_eq_true rfl) ?_
  simp only [q_en, List.replicate]
  refine k_aload_n i_79_0 rfl ?_
  refine k_gfR i_79_1 f_11_54 (by first | rfl | assumption | (rw [hR]; rfl) | (dsimp only; rw [hR]; rfl)) (by decide) (by decide) (Or.inl ⟨_, rfl⟩) (by first | rfl | assumption | (rw [hR]; rfl) | (dsimp only; rw [hR]; rfl)) ?_
  refine k_iload_n i_79_4 rfl ?_
  refine k_vp1 i_79_5 c_11_129 qp_26 qo_26 (by first | rfl | assumption | (rw [hR]; rfl) | (dsimp only; rw [hR]; rfl)) (Nat.le_of_ble_eq_true rfl) (e_isOpen hT hw _ (by omega)) ?_
  refine k_if_eqB (t := 18) i_79_8 rfl (fun h => ?_) (fun h => ?_)
  · exact bad (by rw [h]; simp)
  · have ho := h
    have har := open_lt ho
    refine k_iload_n i_79_11 rfl ?_
    refine k_sp1 i_79_12 c_11_173 (by decide) qp_80 (Nat.le_of_ble_eq_true rfl) (e_areFig s hs) ?_
    refine k_if_neB (t := 20) i_79_15 rfl (fun h => ?_) (fun h => ?_)
    · have g : (0 ≤ s ∧ s ≤ 999999999) ∧ fg 9 s = true := by simpa using h
      refine k_aload_n i_79_20 rfl ?_
      refine k_gfR i_79_21 f_11_47 (by first | rfl | assumption | (rw [hR]; rfl) | (dsimp only; rw [hR]; rfl)) (by decide) (by decide) (Or.inl ⟨_, rfl⟩) (by first | rfl | assumption | (rw [hR]; rfl) | (dsimp only; rw [hR]; rfl)) ?_
      refine k_aload_n i_79_24 rfl ?_
      refine k_gfR i_79_25 f_11_54 (by first | rfl | assumption | (rw [hR]; rfl) | (dsimp only; rw [hR]; rfl)) (by decide) (by decide) (Or.inl ⟨_, rfl⟩) (by first | rfl | assumption | (rw [hR]; rfl) | (dsimp only; rw [hR]; rfl)) ?_
      refine k_aload_n i_79_28 rfl ?_
      refine k_gfR i_79_29 f_11_19 (by first | rfl | assumption | (rw [hR]; rfl) | (dsimp only; rw [hR]; rfl)) (by decide) (by decide) (Or.inl ⟨_, rfl⟩) (by first | rfl | assumption | (rw [hR]; rfl) | (dsimp only; rw [hR]; rfl)) ?_
      refine k_gfI i_79_32 f_11_99 rfl (by decide) (by decide) (Or.inr rfl) ?_
      rw [show (I, X).1 3 3 = nt from hnt]
      refine k_cv2 i_79_35 c_11_176 qp_47 qo_47 (by first | rfl | assumption | (rw [hR]; rfl) | (dsimp only; rw [hR]; rfl)) (Nat.le_of_ble_eq_true rfl) (e_look (d := d + 2) hh hR hT hX hOK h01 hz) (fun v S2 h => ?_)
      obtain ⟨rfl, I1, rfl, hS1, hW1⟩ := h
      show K shX (d + 4) 79 38 _ [] _ _
      have hR1 : (X.1, rX h0 s0 h0).2 = rX h0 s0 h0 := rfl
      refine k_aload_n i_79_38 rfl ?_
      refine k_gfR i_79_39 f_11_47 (by first | rfl | assumption | (rw [hR]; rfl) | (dsimp only; rw [hR]; rfl)) (by decide) (by decide) (Or.inl ⟨_, rfl⟩) (by first | rfl | assumption | (rw [hR]; rfl) | (dsimp only; rw [hR]; rfl)) ?_
      refine k_iload_n i_79_42 rfl ?_
      refine k_iload_n i_79_43 rfl ?_
      refine k_vp2 i_79_44 c_11_180 qp_48 qo_48 (by first | rfl | assumption | (rw [hR]; rfl) | (dsimp only; rw [hR]; rfl)) (Nat.le_of_ble_eq_true rfl) (e_told hW1 a s har g.1 g.2) ?_
      refine k_iret i_79_47 qt_79 ?_
      refine ⟨?_, I1, h0, rfl, hS1⟩
      unfold Fco
      rw [if_pos ⟨ho, g⟩]
    · exact bad (fun z => by simp [z.2.1.1, z.2.1.2, z.2.2] at h)
-- method 124: StraightTaxModel.cost.(II)I
theorem l_mco_p (a s : Int) (ha : inJ a) {S : QS} {Q : Option Value → QS → Prop} (hs : 0 ≤ s ∧ s ≤ 444444444)
    (hbad : fg 9 s = false → Q (some (.int (J (-1)))) S)
    (hk : ∀ k : Nat, fg 9 s = true → k ≤ 8 → (s = 0 ∧ k = 0 ∨ P10 k ≤ s ∧ s < P10 (k + 1)) → K shM (d + 3) 124 76 [some (.ref 0), some (.int (J a)), some (.int (J s)), some (.int (J (P10 k))), some (.int (J 0)), none, none, none, none, none] [] S Q) : ∀ (f k : Nat), k + f = 8 → (s = 0 ∧ k = 0 ∨ P10 k ≤ s) → fg 9 s = fg (f + 1) (s / P10 k) → K shM (d + 3) 124 27 [some (.ref 0), some (.int (J a)), some (.int (J s)), some (.int (J (P10 k))), some (.int (J (s / P10 k))), none, none, none, none, none] [] S Q := by
  intro f
  induction f with
  | zero =>
    intro k hf hk0 hfg
    have e : k = 8 := by omega
    subst e
    have e8 : P10 8 = 100000000 := rfl
    rw [e8] at hfg hk0 ⊢
    refine k_iload i_124_27 rfl ?_
    refine k_if_le (t := 76) i_124_29 rfl (by omega) (fun h => ?_) (fun h => ?_)
    · omega
    · refine k_iload i_124_32 rfl ?_
      refine k_bipush i_124_34 (by decide) ?_
      refine k_irem i_124_36 (by omega) (by omega) (by omega) (by omega) ?_
      refine k_i2lJ i_124_37 (by omega) ?_
      refine k_lconstJ (a := 1) i_124_38 rfl ?_
      refine k_ldc2J (a := 4) i_124_39 l_12_200 (by decide) ?_
      refine k_sp3 i_124_42 c_12_72 (by decide) qp_100 (Nat.le_of_ble_eq_true rfl) (m_in _ _ _ (by omega) (by omega) (by omega)) ?_
      refine k_if_neB (t := 50) i_124_45 rfl (fun h => ?_) (fun h => ?_)
      · have h2 := of_decide_eq_true h
        refine k_iload_n i_124_50 rfl ?_
        refine k_iload i_124_51 rfl ?_
        refine k_bipush i_124_53 (by decide) ?_
        refine k_ic_le (t := 63) i_124_55 rfl (by omega) (by omega) (fun h => ?_) (fun h => ?_)
        · refine k_iconst i_124_63 ?_
          refine k_imul i_124_64 ?_
          refine k_istore_n i_124_65 (Nat.le_of_ble_eq_true rfl) ?_
          dsimp only [q_st1, q_st2, q_unl]
          refine k_iload i_124_66 rfl ?_
          refine k_bipush i_124_68 (by decide) ?_
          refine k_idiv i_124_70 (by omega) (by omega) (by omega) (by omega) ?_
          refine k_istore i_124_71 (Nat.le_of_ble_eq_true rfl) ?_
          dsimp only [q_st1, q_st2, q_unl]
          refine k_goto (t := 27) i_124_73 rfl ?_
          rw [show s / 100000000 / 10 = 0 by omega]
          refine k_iload i_124_27 rfl ?_
          refine k_if_le (t := 76) i_124_29 rfl (by omega) (fun h => ?_) (fun h => ?_)
          · have := hk 8 (by rw [hfg]; unfold fg; rw [if_neg (by omega), decide_eq_true h2]; rfl) (by omega) (Or.inr ⟨by rw [e8]; omega, by show s < 1000000000; omega⟩)
            rw [e8] at this
            exact this
          · omega
        · omega
      · refine k_iconst i_124_48 ?_
        refine k_iret i_124_49 qt_124 ?_
        refine hbad ?_
        rw [hfg]
        unfold fg
        rw [if_neg (by omega), h]
        rfl
  | succ f ih =>
    intro k hf hk0 hfg
    have h1 := P10_pos k
    have h2 := P10_le (j := k) (k := 7) (by omega)
    have e7 : P10 7 = 10000000 := rfl
    have eS : P10 (k + 1) = 10 * P10 k := rfl
    have hdn : 0 ≤ s / P10 k := Int.ediv_nonneg hs.1 (by omega)
    have hdle : s / P10 k ≤ s := Int.ediv_le_self _ hs.1
    have hdd : s / P10 (k + 1) = s / P10 k / 10 := by
      rw [eS, Int.mul_comm, ← Int.ediv_ediv_of_nonneg (by omega)]
    have hmul : P10 k * (s / P10 k) ≤ s ∧ s < P10 k * (s / P10 k) + P10 k := by
      have e1 := Int.mul_ediv_add_emod s (P10 k)
      have e2 := Int.emod_nonneg s (b := P10 k) (by omega)
      have e3 := Int.emod_lt_of_pos s (b := P10 k) (by omega)
      omega
    refine k_iload i_124_27 rfl ?_
    refine k_if_le (t := 76) i_124_29 rfl (by omega) (fun g => ?_) (fun g => ?_)
    · -- nothing told
      rcases hk0 with ⟨rfl, rfl⟩ | z
      · have := hk 0 (by rfl) (by omega) (Or.inl ⟨rfl, rfl⟩)
        exact this
      · exfalso
        have := (Int.le_ediv_iff_mul_le (a := 1) (b := s) (c := P10 k) (by omega)).mpr (by omega)
        omega
    · refine k_iload i_124_32 rfl ?_
      refine k_bipush i_124_34 (by decide) ?_
      refine k_irem i_124_36 (by omega) (by omega) (by omega) (by omega) ?_
      refine k_i2lJ i_124_37 (by omega) ?_
      refine k_lconstJ (a := 1) i_124_38 rfl ?_
      refine k_ldc2J (a := 4) i_124_39 l_12_200 (by decide) ?_
      refine k_sp3 i_124_42 c_12_72 (by decide) qp_100 (Nat.le_of_ble_eq_true rfl) (m_in _ _ _ (by omega) (by omega) (by omega)) ?_
      have efg : fg (f + 1 + 1) (s / P10 k) = (decide (1 ≤ s / P10 k % 10 ∧ s / P10 k % 10 ≤ 4) && fg (f + 1) (s / P10 k / 10)) := by
        show (if s / P10 k ≤ 0 then true else _) = _
        rw [if_neg (by omega)]
      refine k_if_neB (t := 50) i_124_45 rfl (fun h => ?_) (fun h => ?_)
      · have h3 := of_decide_eq_true h
        rw [efg, h, Bool.true_and] at hfg
        have hks : P10 k ≤ s := by
          rcases hk0 with ⟨z1, z2⟩ | z
          · rw [z1, Int.zero_ediv] at g; omega
          · exact z
        refine k_iload_n i_124_50 rfl ?_
        refine k_iload i_124_51 rfl ?_
        refine k_bipush i_124_53 (by decide) ?_
        refine k_ic_le (t := 63) i_124_55 rfl (by omega) (by omega) (fun g2 => ?_) (fun g2 => ?_)
        · refine k_iconst i_124_63 ?_
          refine k_imul i_124_64 ?_
          refine k_istore_n i_124_65 (Nat.le_of_ble_eq_true rfl) ?_
          dsimp only [q_st1, q_st2, q_unl]
          refine k_iload i_124_66 rfl ?_
          refine k_bipush i_124_68 (by decide) ?_
          refine k_idiv i_124_70 (by omega) (by omega) (by omega) (by omega) ?_
          refine k_istore i_124_71 (Nat.le_of_ble_eq_true rfl) ?_
          dsimp only [q_st1, q_st2, q_unl]
          refine k_goto (t := 27) i_124_73 rfl ?_
          rw [show s / P10 k / 10 = 0 by omega, Int.mul_one]
          rw [show s / P10 k / 10 = 0 by omega] at hfg
          refine k_iload i_124_27 rfl ?_
          refine k_if_le (t := 76) i_124_29 rfl (by omega) (fun h => ?_) (fun h => ?_)
          · refine hk k (by rw [hfg]; rfl) (by omega) (Or.inr ⟨hks, ?_⟩)
            rw [eS]
            have := (Int.ediv_lt_iff_lt_mul (a := s) (b := 10) (c := P10 k) (by omega)).mp (by omega)
            omega
          · omega
        · refine k_bipush i_124_58 (by decide) ?_
          refine k_goto (t := 64) i_124_60 rfl ?_
          refine k_imul i_124_64 ?_
          refine k_istore_n i_124_65 (Nat.le_of_ble_eq_true rfl) ?_
          dsimp only [q_st1, q_st2, q_unl]
          refine k_iload i_124_66 rfl ?_
          refine k_bipush i_124_68 (by decide) ?_
          refine k_idiv i_124_70 (by omega) (by omega) (by omega) (by omega) ?_
          refine k_istore i_124_71 (Nat.le_of_ble_eq_true rfl) ?_
          dsimp only [q_st1, q_st2, q_unl]
          refine k_goto (t := 27) i_124_73 rfl ?_
          rw [← hdd, show P10 k * 10 = P10 (k + 1) by omega]
          refine ih (k + 1) (by omega) (Or.inr ?_) (by rw [hfg, hdd])
          have := (Int.le_ediv_iff_mul_le (a := 10) (b := s) (c := P10 k) (by omega)).mp (by omega)
          omega
      · refine k_iconst i_124_48 ?_
        refine k_iret i_124_49 qt_124 ?_
        refine hbad ?_
        rw [hfg, efg, h]
        rfl
theorem l_mco (hB : MB I X T nt) (a s : Int) (hs : 0 ≤ s ∧ s ≤ 444444444) (hfg : fg 9 s = true) : ∀ (k i : Nat) (c l r p : Int) (x9 : Option Value), k + i ≤ 9 → (k = 0 ∨ P10 (k - 1) ≤ s) → s ≠ 0 → (0 ≤ c ∧ c < tN T) → (-1 ≤ l ∧ l < 4) → (0 ≤ r ∧ r ≤ i) → (0 ≤ p ∧ p ≤ 180009 * i) → K shM (d + 3) 124 91 [some (.ref 0), some (.int (J a)), some (.int (J s)), some (.int (J (P10 k / 10))), some (.int (J c)), some (.int (J p)), some (.int (J r)), some (.int (J (if tElb T c = true then -1 else l))), some (.int (J (i : Int))), x9] [] (I, X) (fun r1 S2 => r1 = some (.int (J (tld T nt s k i c l r p))) ∧ S2 = (I, X)) := by
  obtain ⟨hT, hR, hOK, hn, h01⟩ := id hB
  obtain ⟨a0, a1, a2, a3, a4, a5, a6, a7, a8⟩ := id hT
  have hw := hOK.1
  have hN := tN_le hw
  have hm2 := tMask_lt T 2
  intro k
  induction k with
  | zero =>
    intro i c l r p x9 hki htop hs0 hc hl hr hp
    have e0 : P10 0 / 10 = 0 := rfl
    rw [e0]
    refine k_iload_n i_124_91 rfl ?_
    refine k_if_le (t := 189) i_124_92 rfl (by omega) (fun h => ?_) (fun h => ?_)
    · omega
    · refine k_iload_n i_124_95 rfl ?_
      refine k_if_le (t := 189) i_124_96 rfl (by omega) (fun h => ?_) (fun h => ?_)
      · refine k_iload i_124_189 rfl ?_
        refine k_iret i_124_191 qt_124 ?_
        exact ⟨rfl, rfl⟩
      · omega
  | succ k ih =>
    intro i c l r p x9 hki htop hs0 hc hl hr hp
    have htop' : P10 k ≤ s := by
      rcases htop with z | z
      · omega
      · exact z
    have h1 := P10_pos k
    have h2 := P10_le (j := k) (k := 8) (by omega)
    have e8 : P10 8 = 100000000 := rfl
    have eS : P10 (k + 1) = 10 * P10 k := rfl
    have ed : P10 (k + 1) / 10 = P10 k := by omega
    obtain ⟨f1, f2⟩ := fg_digit 9 k s hfg (by omega) htop'
    have hdn : 0 ≤ s / P10 k := Int.ediv_nonneg hs.1 (by omega)
    have hdle : s / P10 k ≤ s := Int.ediv_le_self _ hs.1
    have hrun := tRun_range (T := T) (c := c) (l := l) (q := s / P10 k % 10 - 1) hr
    have hpr := tPrice_range hw (nt := nt) (r := tRun T c l r (s / P10 k % 10 - 1)) (by omega)
    have hnr := nx_range hw c (s / P10 k % 10 - 1)
    have hlr : -1 ≤ (if tElb T c = true then -1 else l) ∧ (if tElb T c = true then -1 else l) < 4 := by split <;> omega
    rw [ed]
    generalize hml : (if tElb T c = true then -1 else l) = ml at hlr ⊢
    unfold tld
    refine k_iload_n i_124_91 rfl ?_
    refine k_if_le (t := 189) i_124_92 rfl (by omega) (fun h => ?_) (fun h => ?_)
    · omega
    · refine k_iload_n i_124_95 rfl ?_
      refine k_if_le (t := 189) i_124_96 rfl (by omega) (fun h => ?_) (fun h => ?_)
      · omega
      · refine k_iload_n i_124_99 rfl ?_
        refine k_iload_n i_124_100 rfl ?_
        refine k_idiv i_124_101 (by omega) (by omega) (by omega) (by omega) ?_
        refine k_bipush i_124_102 (by decide) ?_
        refine k_irem i_124_104 (by omega) (by omega) (by omega) (by omega) ?_
        refine k_iconst i_124_105 ?_
        refine k_isub i_124_106 ?_
        refine k_istore i_124_107 (Nat.le_of_ble_eq_true rfl) ?_
        dsimp only [q_st1, q_st2, q_unl]
        refine k_iload_n i_124_109 rfl ?_
        refine k_bipush i_124_110 (by decide) ?_
        refine k_idiv i_124_112 (by omega) (by omega) (by omega) (by omega) ?_
        refine k_istore_n i_124_113 (Nat.le_of_ble_eq_true rfl) ?_
        dsimp only [q_st1, q_st2, q_unl]
        refine k_aload_n i_124_114 rfl ?_
        refine k_iload i_124_115 rfl ?_
        refine k_iload i_124_117 rfl ?_
        refine k_vp2 i_124_119 c_12_187 qp_117 qo_117 (by first | rfl | assumption | (rw [hR]; rfl) | (dsimp only; rw [hR]; rfl)) (Nat.le_of_ble_eq_true rfl) (m_to hT hw _ _ hc (by omega)) ?_
        refine k_istore i_124_122 (Nat.le_of_ble_eq_true rfl) ?_
        dsimp only [q_st1, q_st2, q_unl]
        refine k_iload i_124_124 rfl ?_
        refine k_if_ge (t := 135) i_124_126 rfl (by omega) (fun g => ?_) (fun g => ?_)
        · rw [if_neg (by omega)]
          have k150 : ∀ v : Int, v = tRun T c l r (s / P10 k % 10 - 1) → K shM (d + 3) 124 150 [some (.ref 0), some (.int (J a)), some (.int (J s)), some (.int (J (P10 k / 10))), some (.int (J (nx T c (s / P10 k % 10 - 1)))), some (.int (J p)), some (.int (J r)), some (.int (J ml)), some (.int (J (i : Int))), some (.int (J (s / P10 k % 10 - 1)))] [.int (J v)] (I, X) (fun r1 S2 => r1 = some (.int (J (tld T nt s k (i + 1) (nx T c (s / P10 k % 10 - 1)) (s / P10 k % 10 - 1) (tRun T c l r (s / P10 k % 10 - 1)) (p + tPrice T nt (tRun T c l r (s / P10 k % 10 - 1)))))) ∧ S2 = (I, X)) := by
            intro v hv
            subst hv
            have k170 : ∀ v : Int, v = (if tElb T (nx T c (s / P10 k % 10 - 1)) = true then -1 else s / P10 k % 10 - 1) → K shM (d + 3) 124 170 [some (.ref 0), some (.int (J a)), some (.int (J s)), some (.int (J (P10 k / 10))), some (.int (J (nx T c (s / P10 k % 10 - 1)))), some (.int (J p)), some (.int (J (tRun T c l r (s / P10 k % 10 - 1)))), some (.int (J ml)), some (.int (J (i : Int))), some (.int (J (s / P10 k % 10 - 1)))] [.int (J v)] (I, X) (fun r1 S2 => r1 = some (.int (J (tld T nt s k (i + 1) (nx T c (s / P10 k % 10 - 1)) (s / P10 k % 10 - 1) (tRun T c l r (s / P10 k % 10 - 1)) (p + tPrice T nt (tRun T c l r (s / P10 k % 10 - 1)))))) ∧ S2 = (I, X)) := by
              intro v hv
              subst hv
              refine k_istore i_124_170 (Nat.le_of_ble_eq_true rfl) ?_
              dsimp only [q_st1, q_st2, q_unl]
              refine k_iload i_124_172 rfl ?_
              refine k_aload_n i_124_174 rfl ?_
              refine k_iload i_124_175 rfl ?_
              refine k_vp1 i_124_177 c_12_194 qp_120 qo_120 (by first | rfl | assumption | (rw [hR]; rfl) | (dsimp only; rw [hR]; rfl)) (Nat.le_of_ble_eq_true rfl) (m_priceOf hT hR hw _ nt hn (by omega) h01) ?_
              refine k_iadd i_124_180 ?_
              refine k_istore i_124_181 (Nat.le_of_ble_eq_true rfl) ?_
              dsimp only [q_st1, q_st2, q_unl]
              refine k_iinc i_124_183 rfl (Nat.le_of_ble_eq_true rfl) ?_
              dsimp only [q_st1, q_st2, q_unl]
              refine k_goto (t := 91) i_124_186 rfl ?_
              refine ih (i + 1) _ _ _ _ _ (by omega) ?_ hs0 (by omega) (by omega) (by omega) (by omega)
              cases k with
              | zero => exact Or.inl rfl
              | succ k => right; have : P10 (k + 1) = 10 * P10 k := rfl; have := P10_pos k; show P10 k ≤ s; omega
            refine k_istore i_124_150 (Nat.le_of_ble_eq_true rfl) ?_
            dsimp only [q_st1, q_st2, q_unl]
            refine k_aload_n i_124_152 rfl ?_
            refine k_gfI i_124_153 f_12_167 (by first | rfl | assumption | (rw [hR]; rfl) | (dsimp only; rw [hR]; rfl)) (by decide) (by decide) (Or.inl rfl) ?_
            rw [show (I, X).1 0 3 = (tMask T 2 : Int) from a3]
            refine k_iload i_124_156 rfl ?_
            refine k_sp2 i_124_158 c_12_83 (by decide) qp_109 (Nat.le_of_ble_eq_true rfl) (m_has (by omega) _ (by omega) (by omega)) ?_
            rw [tElb_mask (by omega)]
            refine k_if_eqB (t := 168) i_124_161 rfl (fun h => ?_) (fun h => ?_)
            · refine k_iload i_124_168 rfl ?_
              exact k170 _ (by rw [h]; rfl)
            · refine k_iconst i_124_164 ?_
              refine k_goto (t := 170) i_124_165 rfl ?_
              exact k170 _ (by rw [h]; rfl)
          refine k_iload i_124_135 rfl ?_
          refine k_iload i_124_137 rfl ?_
          refine k_ic_ne (t := 149) i_124_139 rfl (by omega) (by omega) (fun g2 => ?_) (fun g2 => ?_)
          · refine k_iconst i_124_149 ?_
            refine k150 _ ?_
            unfold tRun
            rw [if_neg]
            rintro ⟨z1, z2⟩
            rw [z2] at hml
            exact g2 (z1.trans hml)
          · refine k_iload i_124_142 rfl ?_
            refine k_iconst i_124_144 ?_
            refine k_iadd i_124_145 ?_
            refine k_goto (t := 150) i_124_146 rfl ?_
            refine k150 _ ?_
            unfold tRun
            rw [if_pos]
            cases e : tElb T c
            · rw [e] at hml
              exact ⟨by rw [show l = ml from hml]; omega, rfl⟩
            · rw [e] at hml
              have : -1 = ml := hml
              omega
        · rw [if_pos (by omega)]
          refine k_bipush i_124_129 (by decide) ?_
          refine k_iload i_124_131 rfl ?_
          refine k_isub i_124_133 ?_
          refine k_iret i_124_134 qt_124 ?_
          exact ⟨rfl, rfl⟩
theorem m_cost (hB : MB I X T nt) (a s : Int) (ha : inJ a) (hs : inJ s) : KC shM (d + 3) 124 [.ref 0, .int (J a), .int (J s)] (I, X) (fun r S2 => r = some (.int (J (Fco T nt a s))) ∧ S2 = (I, X)) := by
  obtain ⟨hT, hR, hOK, hn, h01⟩ := id hB
  obtain ⟨a0, a1, a2, a3, a4, a5, a6, a7, a8⟩ := id hT
  have hw := hOK.1
  have hN := tN_le hw
  have bad : ¬ (tOpen T a = true ∧ (0 ≤ s ∧ s ≤ 999999999) ∧ fg 9 s = true) → K shM (d + 3) 124 20 [some (.ref 0), some (.int (J a)), some (.int (J s)), none, none, none, none, none, none, none] [] (I, X) (fun r S2 => r = some (.int (J (Fco T nt a s))) ∧ S2 = (I, X)) := by
    intro hbad
    refine k_iconst i_124_20 ?_
    refine k_iret i_124_21 qt_124 ?_
    refine ⟨?_, rfl⟩
    unfold Fco
    rw [if_neg hbad]
  refine k_start ql_124 (Nat.le_of_ble_eq_true rfl) ?_
  simp only [q_en, List.replicate]
  refine k_aload_n i_124_0 rfl ?_
  refine k_iload_n i_124_1 rfl ?_
  refine k_vp1 i_124_2 c_12_182 qp_115 qo_115 (by first | rfl | assumption | (rw [hR]; rfl) | (dsimp only; rw [hR]; rfl)) (Nat.le_of_ble_eq_true rfl) (m_isOpen hT hw _ (by omega)) ?_
  refine k_if_eqB (t := 20) i_124_5 rfl (fun h => ?_) (fun h => ?_)
  · exact bad (by rw [h]; simp)
  · have ho := h
    have har := open_lt ho
    refine k_iload_n i_124_8 rfl ?_
    refine k_i2lJ i_124_9 (by omega) ?_
    refine k_lconstJ (a := 0) i_124_10 rfl ?_
    refine k_ldc2J (a := 444444444) i_124_11 l_12_198 (by decide) ?_
    refine k_sp3 i_124_14 c_12_72 (by decide) qp_100 (Nat.le_of_ble_eq_true rfl) (m_in _ _ _ (by omega) (by omega) (by omega)) ?_
    refine k_if_neB (t := 22) i_124_17 rfl (fun h => ?_) (fun h => ?_)
    · have g := of_decide_eq_true h
      refine k_iconst i_124_22 ?_
      refine k_istore_n i_124_23 (Nat.le_of_ble_eq_true rfl) ?_
      dsimp only [q_st1, q_st2, q_unl]
      refine k_iload_n i_124_24 rfl ?_
      refine k_istore i_124_25 (Nat.le_of_ble_eq_true rfl) ?_
      dsimp only [q_st1, q_st2, q_unl]
      have hl := l_mco_p (d := d) (S := (I, X)) (Q := fun r S2 => r = some (.int (J (Fco T nt a s))) ∧ S2 = (I, X)) a s ha g (fun hb => ?_) (fun k hfg hk8 hk => ?_) 8 0 (by omega) (by
        by_cases e : s = 0
        · exact Or.inl ⟨e, rfl⟩
        · right; show (1 : Int) ≤ s; omega) (by rw [show P10 0 = 1 from rfl, Int.ediv_one])
      · rw [show P10 0 = 1 from rfl, Int.ediv_one] at hl
        exact hl
      · refine ⟨?_, rfl⟩
        unfold Fco
        rw [if_neg (by rw [hb]; simp)]
      · have eF : Fco T nt a s = tld T nt s (dgn 9 s) 0 a (-1) 0 0 := by
          unfold Fco
          rw [if_pos ⟨ho, by omega, hfg⟩]
        rw [eF]
        refine k_iload_n i_124_76 rfl ?_
        refine k_istore i_124_77 (Nat.le_of_ble_eq_true rfl) ?_
        dsimp only [q_st1, q_st2, q_unl]
        refine k_iconst i_124_79 ?_
        refine k_istore i_124_80 (Nat.le_of_ble_eq_true rfl) ?_
        dsimp only [q_st1, q_st2, q_unl]
        refine k_iconst i_124_82 ?_
        refine k_istore i_124_83 (Nat.le_of_ble_eq_true rfl) ?_
        dsimp only [q_st1, q_st2, q_unl]
        refine k_iconst i_124_85 ?_
        refine k_istore i_124_86 (Nat.le_of_ble_eq_true rfl) ?_
        dsimp only [q_st1, q_st2, q_unl]
        refine k_iconst i_124_88 ?_
        refine k_istore i_124_89 (Nat.le_of_ble_eq_true rfl) ?_
        dsimp only [q_st1, q_st2, q_unl]
        rcases hk with ⟨rfl, rfl⟩ | ⟨h1, h2⟩
        · rw [dgn_0]
          refine k_iload_n i_124_91 rfl ?_
          refine k_if_le (t := 189) i_124_92 rfl (by omega) (fun h => ?_) (fun h => ?_)
          · refine k_iload i_124_189 rfl ?_
            refine k_iret i_124_191 qt_124 ?_
            exact ⟨rfl, rfl⟩
          · omega
        · rw [dgn_of k 9 s (by omega) h1 h2]
          have hk1 := P10_pos k
          have hl := l_mco (d := d) hB a s g hfg (k + 1) 0 a (-1) 0 0 none (by omega) (Or.inr h1) (by omega) har (by omega) (by omega) (by omega)
          have eS : P10 (k + 1) = 10 * P10 k := rfl
          rw [show P10 (k + 1) / 10 = P10 k by omega, ite_self] at hl
          exact hl
    · refine bad (fun z => ?_)
      have := fg_le 9 s z.2.2 (by show s < 1000000000; omega)
      have e9 : P10 9 = 1000000000 := rfl
      rw [decide_eq_true (by omega)] at h
      cases h
end CO
