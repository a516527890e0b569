/-! SETS OF SQUARES; fewTurns -/
theorem J_one {c : Int} (h0 : 0 ≤ c) (h1 : c < 31) : J 1 <<< (J c &&& 31) = J ((2 ^ c.toNat : Nat) : Int) := by
  obtain ⟨k, rfl⟩ : ∃ k : Nat, c = k := ⟨c.toNat, by omega⟩
  have hk : k < 31 := by omega
  have h2 : 2 ^ k < 2 ^ 31 := Nat.pow_lt_pow_right (by decide) hk
  have := J_shl (m := 1) (c := k) (by omega) (by omega)
  rw [show ((k : Int)).toNat = k by omega, ← Nat.one_mul (2 ^ k)]
  exact this
theorem pow_lt20 {c : Int} (h1 : c < 20) : 2 ^ c.toNat < 2 ^ 20 := Nat.pow_lt_pow_right (by decide) (by omega)
/-- k steps straight on -/
def nxk (T : Tn) (q : Int) : Nat → Int → Int
  | 0, c => c
  | k + 1, c => if nxk T q k c < 0 then -1 else nx T (nxk T q k c) q
theorem nxk_S {T : Tn} {q : Int} {k : Nat} {c : Int} : nxk T q (k + 1) c = if nxk T q k c < 0 then -1 else nx T (nxk T q k c) q := rfl
theorem nxk_range {T : Tn} (hw : tWF T) {q : Int} {c : Int} (hc : 0 ≤ c ∧ c < tN T) : ∀ k, -1 ≤ nxk T q k c ∧ nxk T q k c < tN T
  | 0 => ⟨by show -1 ≤ c; omega, hc.2⟩
  | k + 1 => by
    rw [nxk_S]
    have := nx_range hw (nxk T q k c) q
    have := tN_le hw
    split <;> omega
/-- how far a square is from the edge ahead -/
def room (T : Tn) (c q : Int) : Int := if q = 0 then c / tW T else if q = 1 then tW T - 1 - c % tW T else if q = 2 then tH T - 1 - c / tW T else c % tW T
theorem room_le {T : Tn} (hw : tWF T) {c q : Int} (hc : 0 ≤ c ∧ c < tN T) : 0 ≤ room T c q ∧ room T c q ≤ 4 := by
  obtain ⟨w1, w2, -⟩ := id hw
  have hx0 : 0 ≤ c % tW T ∧ c % tW T < tW T := ⟨Int.emod_nonneg _ (by omega), Int.emod_lt_of_pos _ (by omega)⟩
  have hy0 : 0 ≤ c / tW T := Int.ediv_nonneg hc.1 (by omega)
  have hy1 : c / tW T < tH T := by
    refine Int.ediv_lt_of_lt_mul (by omega) ?_
    rw [Int.mul_comm]
    exact hc.2
  unfold room
  repeat' split
  all_goals omega
theorem room_nx {T : Tn} (hw : tWF T) {c q : Int} (hc : 0 ≤ c ∧ c < tN T) (hq : 0 ≤ q ∧ q < 4) (h : 0 ≤ nx T c q) : room T (nx T c q) q = room T c q - 1 := by
  obtain ⟨w1, w2, -⟩ := id hw
  unfold nx at h
  split at h
  · rename_i hop
    have e1 : nx T c q = tSq T (c % tW T + dxx q) (c / tW T + dyy q) := by unfold nx; rw [if_pos hop]
    have hin : 0 ≤ c % tW T + dxx q ∧ c % tW T + dxx q < tW T ∧ 0 ≤ c / tW T + dyy q ∧ c / tW T + dyy q < tH T := by
      by_cases z : 0 ≤ c % tW T + dxx q ∧ c % tW T + dxx q < tW T ∧ 0 ≤ c / tW T + dyy q ∧ c / tW T + dyy q < tH T
      · exact z
      · unfold tSq at h
        rw [if_neg z] at h
        omega
    have e2 : nx T c q = (c / tW T + dyy q) * tW T + (c % tW T + dxx q) := by
      rw [e1]; unfold tSq; rw [if_pos hin]
    obtain ⟨d1, d2⟩ := sq_dm (y := c / tW T + dyy q) w1 ⟨hin.1, hin.2.1⟩
    unfold room
    rw [e2, d1, d2]
    rcases (show q = 0 ∨ q = 1 ∨ q = 2 ∨ q = 3 by omega) with rfl | rfl | rfl | rfl
    · simp [dyy, dxx]; omega
    · simp [dyy, dxx]; omega
    · simp [dyy, dxx]; omega
    · simp [dyy, dxx]; omega
  · omega
theorem nxk_room {T : Tn} (hw : tWF T) {c q : Int} (hc : 0 ≤ c ∧ c < tN T) (hq : 0 ≤ q ∧ q < 4) : ∀ k : Nat, 0 ≤ nxk T q k c → room T (nxk T q k c) q = room T c q - k
  | 0, _ => by show room T c q = _; simp
  | k + 1, h => by
    have h0 := nxk_range hw (q := q) hc k
    rw [nxk_S] at h ⊢
    by_cases z : nxk T q k c < 0
    · rw [if_pos z] at h; omega
    · rw [if_neg z] at h ⊢
      rw [room_nx hw (by omega) hq h, nxk_room hw hc hq k (by omega)]
      omega
theorem nxk_4 {T : Tn} (hw : tWF T) {c q : Int} (hc : 0 ≤ c ∧ c < tN T) (hq : 0 ≤ q ∧ q < 4) {k : Nat} (h : 0 ≤ nxk T q k c) : k ≤ 4 := by
  have h1 := nxk_room hw hc hq k h
  have h2 := room_le hw (q := q) hc
  have h3 := room_le hw (q := q) (c := nxk T q k c) ⟨h, (nxk_range hw hc k).2⟩
  omega
theorem nxk_neg {T : Tn} {c q : Int} {k : Nat} (h : nxk T q k c < 0) : ∀ j, nxk T q (k + j) c < 0
  | 0 => h
  | j + 1 => by
    have := nxk_neg h j
    rw [show k + (j + 1) = (k + j) + 1 by omega, nxk_S, if_pos this]
    decide
/-- all squares to which a step leads from some -/
def shk (T : Tn) (m : Nat) (q : Int) : Nat → Nat
  | 0 => 0
  | k + 1 => if m.testBit k = true ∧ 0 ≤ nx T k q then shk T m q k ||| 2 ^ (nx T k q).toNat else shk T m q k
def shf (T : Tn) (m : Nat) (q : Int) : Nat := shk T m q (tN T).toNat
theorem shk_lt {T : Tn} (hw : tWF T) {m : Nat} {q : Int} : ∀ k, shk T m q k < 2 ^ 20
  | 0 => by show 0 < 2 ^ 20; decide
  | k + 1 => by
    have ih := shk_lt hw (m := m) (q := q) k
    unfold shk
    split
    · have := nx_range hw k q
      have := tN_le hw
      exact Nat.or_lt_two_pow ih (pow_lt20 (by omega))
    · exact ih
theorem shk_bit {T : Tn} {m : Nat} {q : Int} (j : Nat) : ∀ k, ((shk T m q k).testBit j = true ↔ ∃ c : Nat, c < k ∧ m.testBit c = true ∧ nx T c q = j)
  | 0 => by
    constructor
    · intro h; simp [shk] at h
    · rintro ⟨c, h, -⟩; omega
  | k + 1 => by
    have ih := shk_bit (T := T) (m := m) (q := q) j k
    unfold shk
    split
    · rename_i h
      rw [Nat.testBit_or, Bool.or_eq_true, ih, Nat.testBit_two_pow, decide_eq_true_eq]
      constructor
      · rintro (⟨c, h1, h2, h3⟩ | h1)
        · exact ⟨c, by omega, h2, h3⟩
        · exact ⟨k, by omega, h.1, by omega⟩
      · rintro ⟨c, h1, h2, h3⟩
        by_cases e : c = k
        · subst e; right; omega
        · exact Or.inl ⟨c, by omega, h2, h3⟩
    · rename_i h
      rw [ih]
      constructor
      · rintro ⟨c, h1, h2, h3⟩; exact ⟨c, by omega, h2, h3⟩
      · rintro ⟨c, h1, h2, h3⟩
        by_cases e : c = k
        · subst e; exact absurd ⟨h2, by omega⟩ h
        · exact ⟨c, by omega, h2, h3⟩
def frk (T : Tn) (m : Nat) (q : Int) : Nat → Nat
  | 0 => m
  | k + 1 => shf T (frk T m q k) q
theorem frk_lt {T : Tn} (hw : tWF T) {m : Nat} (hm : m < 2 ^ 20) {q : Int} : ∀ k, frk T m q k < 2 ^ 20
  | 0 => hm
  | k + 1 => shk_lt hw _
/-- a set of the town's squares -/
def inT (T : Tn) (m : Nat) : Prop := ∀ j : Nat, m.testBit j = true → (j : Int) < tN T
theorem inT_lt {T : Tn} (hw : tWF T) {m : Nat} (h : inT T m) : m < 2 ^ 20 := by
  have hN := tN_le hw
  refine Nat.lt_pow_two_of_testBit m (fun i hi => ?_)
  cases e : m.testBit i
  · rfl
  · have := h i e; omega
theorem frk_bit {T : Tn} (hw : tWF T) {m : Nat} (hm : inT T m) {q : Int} : ∀ (k j : Nat), ((frk T m q k).testBit j = true ↔ ∃ c : Nat, m.testBit c = true ∧ nxk T q k c = j)
  | 0, j => by
    constructor
    · intro h; exact ⟨j, h, rfl⟩
    · rintro ⟨c, h1, h2⟩
      have : (c : Int) = j := h2
      rw [← show c = j by omega]; exact h1
  | k + 1, j => by
    show (shk T (frk T m q k) q (tN T).toNat).testBit j = true ↔ _
    rw [shk_bit]
    constructor
    · rintro ⟨c, h1, h2, h3⟩
      rw [frk_bit hw hm k c] at h2
      obtain ⟨c', h4, h5⟩ := h2
      refine ⟨c', h4, ?_⟩
      rw [nxk_S, h5, if_neg (by omega)]
      exact h3
    · rintro ⟨c, h1, h2⟩
      have hc := hm c h1
      have hr := nxk_range hw (q := q) (c := c) ⟨by omega, hc⟩ k
      rw [nxk_S] at h2
      by_cases z : nxk T q k c < 0
      · rw [if_pos z] at h2; omega
      · rw [if_neg z] at h2
        refine ⟨(nxk T q k c).toNat, by omega, ?_, ?_⟩
        · rw [frk_bit hw hm k]; exact ⟨c, h1, by omega⟩
        · rw [show (((nxk T q k c).toNat : Nat) : Int) = nxk T q k c by omega]; exact h2
def stI (T : Tn) (m : Nat) (q : Int) (acc : Nat) : Nat → Nat
  | 0 => acc
  | k + 1 => stI T m q acc k ||| frk T m q (k + 1)
def stO (T : Tn) (m : Nat) : Nat → Nat
  | 0 => 0
  | q + 1 => stI T m q (stO T m q) 4
theorem stI_lt {T : Tn} (hw : tWF T) {m : Nat} (hm : m < 2 ^ 20) {q : Int} {acc : Nat} (ha : acc < 2 ^ 20) : ∀ k, stI T m q acc k < 2 ^ 20
  | 0 => ha
  | k + 1 => Nat.or_lt_two_pow (stI_lt hw hm ha k) (frk_lt hw hm (k + 1))
theorem stO_lt {T : Tn} (hw : tWF T) {m : Nat} (hm : m < 2 ^ 20) : ∀ k, stO T m k < 2 ^ 20
  | 0 => by show 0 < 2 ^ 20; decide
  | k + 1 => stI_lt hw hm (stO_lt hw hm k) 4
theorem stI_bit {T : Tn} {m : Nat} {q : Int} {acc : Nat} (j : Nat) : ∀ k, ((stI T m q acc k).testBit j = true ↔ acc.testBit j = true ∨ ∃ i : Nat, 1 ≤ i ∧ i ≤ k ∧ (frk T m q i).testBit j = true)
  | 0 => by
    constructor
    · intro h; exact Or.inl h
    · rintro (h | ⟨i, h1, h2, -⟩)
      · exact h
      · omega
  | k + 1 => by
    unfold stI
    rw [Nat.testBit_or, Bool.or_eq_true, stI_bit j k]
    constructor
    · rintro ((h | ⟨i, h1, h2, h3⟩) | h)
      · exact Or.inl h
      · exact Or.inr ⟨i, h1, by omega, h3⟩
      · exact Or.inr ⟨k + 1, by omega, by omega, h⟩
    · rintro (h | ⟨i, h1, h2, h3⟩)
      · exact Or.inl (Or.inl h)
      · by_cases e : i = k + 1
        · subst e; exact Or.inr h3
        · exact Or.inl (Or.inr ⟨i, h1, by omega, h3⟩)
theorem stO_bit {T : Tn} {m : Nat} (j : Nat) : ∀ k, ((stO T m k).testBit j = true ↔ ∃ (q i : Nat), q < k ∧ (1 ≤ i ∧ i ≤ 4) ∧ (frk T m q i).testBit j = true)
  | 0 => by
    constructor
    · intro h; simp [stO] at h
    · rintro ⟨q, i, h, -⟩; omega
  | k + 1 => by
    unfold stO
    rw [stI_bit, stO_bit j k]
    constructor
    · rintro (⟨q, i, h1, h2, h3⟩ | ⟨i, h1, h2, h3⟩)
      · exact ⟨q, i, by omega, h2, h3⟩
      · exact ⟨k, i, by omega, ⟨h1, h2⟩, h3⟩
    · rintro ⟨q, i, h1, h2, h3⟩
      by_cases e : q = k
      · subst e; exact Or.inr ⟨i, h2.1, h2.2, h3⟩
      · exact Or.inl ⟨q, i, by omega, h2, h3⟩
/-- with what is straight ahead of some -/
def stp (T : Tn) (m : Nat) : Nat := m ||| stO T m 4
theorem stp_bit {T : Tn} (hw : tWF T) {m : Nat} (hm : inT T m) (j : Nat) : (stp T m).testBit j = true ↔ m.testBit j = true ∨ ∃ (c q i : Nat), (q < 4 ∧ 1 ≤ i) ∧ m.testBit c = true ∧ nxk T q i c = j := by
  unfold stp
  rw [Nat.testBit_or, Bool.or_eq_true, stO_bit]
  constructor
  · rintro (h | ⟨q, i, h1, h2, h3⟩)
    · exact Or.inl h
    · rw [frk_bit hw hm] at h3
      obtain ⟨c, h4, h5⟩ := h3
      exact Or.inr ⟨c, q, i, ⟨h1, h2.1⟩, h4, h5⟩
  · rintro (h | ⟨c, q, i, ⟨h1, h2⟩, h3, h4⟩)
    · exact Or.inl h
    · have h5 := nxk_4 hw (c := c) (q := q) (k := i) ⟨by omega, hm c h3⟩ (by omega) (by omega)
      exact Or.inr ⟨q, i, h1, ⟨h2, h5⟩, by rw [frk_bit hw hm]; exact ⟨c, h3, h4⟩⟩
theorem stp_inT {T : Tn} (hw : tWF T) {m : Nat} (hm : inT T m) : inT T (stp T m) := by
  intro j hj
  rw [stp_bit hw hm] at hj
  rcases hj with h | ⟨c, q, i, h1, h2, h3⟩
  · exact hm j h
  · have := nxk_range hw (q := q) (c := c) ⟨by omega, hm c h2⟩ i
    omega
/-- how many squares a set has, below k -/
def pc (m : Nat) : Nat → Nat
  | 0 => 0
  | k + 1 => pc m k + (if m.testBit k = true then 1 else 0)
theorem pc_S {m k : Nat} : pc m (k + 1) = pc m k + (if m.testBit k = true then 1 else 0) := rfl
theorem pc_le {m : Nat} : ∀ k, pc m k ≤ k
  | 0 => Nat.le_refl _
  | k + 1 => by have := pc_le (m := m) k; rw [pc_S]; split <;> omega
theorem pc_mono {m m' : Nat} (h : ∀ j, m.testBit j = true → m'.testBit j = true) : ∀ k, pc m k ≤ pc m' k
  | 0 => Nat.le_refl _
  | k + 1 => by
    have := pc_mono h k
    rw [pc_S, pc_S]
    by_cases z : m.testBit k = true
    · rw [if_pos z, if_pos (h k z)]; omega
    · rw [if_neg z]; split <;> omega
theorem pc_lt {m m' : Nat} (h : ∀ j, m.testBit j = true → m'.testBit j = true) {i : Nat} (h1 : m'.testBit i = true) (h2 : ¬ m.testBit i = true) : ∀ k, i < k → pc m k < pc m' k
  | 0, hk => by omega
  | k + 1, hk => by
    rw [pc_S, pc_S]
    by_cases e : i = k
    · subst e
      have := pc_mono h i
      rw [if_pos h1, if_neg h2]; omega
    · have := pc_lt h h1 h2 k (by omega)
      by_cases z : m.testBit k = true
      · rw [if_pos z, if_pos (h k z)]; omega
      · rw [if_neg z]; split <;> omega
theorem stp_pc {T : Tn} (hw : tWF T) {m : Nat} (hm : inT T m) (h : stp T m ≠ m) : pc m 20 < pc (stp T m) 20 := by
  have hN := tN_le hw
  have hsub : ∀ j, m.testBit j = true → (stp T m).testBit j = true := fun j hj => (stp_bit hw hm j).mpr (Or.inl hj)
  by_cases z : ∃ i, (stp T m).testBit i = true ∧ ¬ m.testBit i = true
  · obtain ⟨i, h1, h2⟩ := z
    have := stp_inT hw hm i h1
    exact pc_lt hsub h1 h2 20 (by omega)
  · exfalso
    apply h
    refine Nat.eq_of_testBit_eq (fun i => ?_)
    cases e : m.testBit i
    · cases e2 : (stp T m).testBit i
      · rfl
      · exact absurd ⟨i, e2, by rw [e]; decide⟩ z
    · exact hsub i e
/-- what fewTurns answers -/
def ftg (T : Tn) (b : Nat) : Nat → Nat → Int → Int
  | 0, _, _ => -9
  | k + 1, m, t => if (stp T m).testBit b = true then t else if stp T m = m then -9 else ftg T b k (stp T m) (t + 1)
def Fft (T : Tn) (a b : Int) : Int := if (tOpen T a && tOpen T b) = true then (if a = b then 0 else ftg T b.toNat 21 (2 ^ a.toNat) 0) else -1
theorem one_inT {T : Tn} {a : Int} (ha : 0 ≤ a ∧ a < tN T) : inT T (2 ^ a.toNat) := by
  intro j hj
  rw [Nat.testBit_two_pow, decide_eq_true_eq] at hj
  omega
section FT
variable {d : Nat} {T : Tn} {I : Nat → Nat → Int} {X : XX} {h0 s0 w : Nat} {nt a b : Int} {S : QS} {sh : QH} {t : Nat} {Q : Option Value → QS → Prop}
-- method 37: StraightTax$Town.shifted.(II)I
theorem l_shifted (hT : TAt sh S t T) (hX : TNx S t T) (hw : tWF T) {m : Nat} (hm : m < 2 ^ 20) (q : Int) (hq : 0 ≤ q ∧ q < 4) (hk : Q (some (.int (J (shf T m q : Int)))) S) : ∀ (i k : Nat) (x5 : Option Value), (k : Int) + i = tN T → K sh (d + 2) 37 5 [some (.ref t), some (.int (J (m : Int))), some (.int (J q)), some (.int (J (shk T m q k : Int))), some (.int (J (k : Int))), x5] [] S Q := by
  have hN := tN_le hw
  obtain ⟨s1, s2, s3, r1, r2, a0, a1, a2, a3, a4, a5, a6, ag⟩ := id hT
  intro i
  induction i with
  | zero =>
    intro k x5 hi
    refine k_iload i_37_5 rfl ?_
    refine k_aload_n i_37_7 rfl ?_
    refine k_vp0 i_37_8 c_7_67 qp_28 qo_28 (by first | rfl | assumption | (rw [hR]; rfl) | (dsimp only; rw [hR]; rfl)) (Nat.le_of_ble_eq_true rfl) (e_squares hT) ?_
    refine k_ic_ge (t := 55) i_37_11 rfl (by omega) (by omega) (fun h => ?_) (fun h => ?_)
    · refine k_iload_n i_37_55 rfl ?_
      refine k_iret i_37_56 qt_37 ?_
      rw [show k = (tN T).toNat by omega]
      exact hk
    · omega
  | succ i ih =>
    intro k x5 hi
    have hnr := nx_range hw k q
    have hah : tAh T k q = nx T k q := tAh_nx hw (by omega) hq
    have eS : shk T m q (k + 1) = if m.testBit k = true ∧ 0 ≤ nx T k q then shk T m q k ||| 2 ^ (nx T k q).toNat else shk T m q k := rfl
    have hi2 := fun x => ih (k + 1) x (by omega)
    rw [eS] at hi2
    refine k_iload i_37_5 rfl ?_
    refine k_aload_n i_37_7 rfl ?_
    refine k_vp0 i_37_8 c_7_67 qp_28 qo_28 (by first | rfl | assumption | (rw [hR]; rfl) | (dsimp only; rw [hR]; rfl)) (Nat.le_of_ble_eq_true rfl) (e_squares hT) ?_
    refine k_ic_ge (t := 55) i_37_11 rfl (by omega) (by omega) (fun h => ?_) (fun h => ?_)
    · omega
    · refine k_iload_n i_37_14 rfl ?_
      refine k_iload i_37_15 rfl ?_
      refine k_sp2 i_37_17 c_7_84 (by decide) qp_86 (Nat.le_of_ble_eq_true rfl) (e_isIn (by omega) _ (by omega) (by omega)) ?_
      rw [show ((k : Int)).toNat = k by omega]
      refine k_if_eqB (t := 33) i_37_20 rfl (fun h => ?_) (fun h => ?_)
      · rw [if_neg (by rw [h]; simp)] at hi2
        refine k_iconst i_37_33 ?_
        refine k_istore i_37_34 (Nat.le_of_ble_eq_true rfl) ?_
        dsimp only [q_st1, q_st2, q_unl]
        refine k_iload i_37_36 rfl ?_
        refine k_iconst i_37_38 ?_
        refine k_ic_eq (t := 49) i_37_39 rfl (by omega) (by omega) (fun h => ?_) (fun h => ?_)
        · refine k_iinc i_37_49 rfl (Nat.le_of_ble_eq_true rfl) ?_
          dsimp only [q_st1, q_st2, q_unl]
          refine k_goto (t := 5) i_37_52 rfl ?_
          exact hi2 _
        · omega
      · refine k_aload_n i_37_23 rfl ?_
        refine k_iload i_37_24 rfl ?_
        refine k_iload_n i_37_26 rfl ?_
        refine k_vp2 i_37_27 c_7_88 qp_32 qo_32 (by first | rfl | assumption | (rw [hR]; rfl) | (dsimp only; rw [hR]; rfl)) (Nat.le_of_ble_eq_true rfl) (e_ahead hT hX _ _ (by omega) (by omega)) ?_
        rw [hah]
        refine k_goto (t := 34) i_37_30 rfl ?_
        refine k_istore i_37_34 (Nat.le_of_ble_eq_true rfl) ?_
        dsimp only [q_st1, q_st2, q_unl]
        refine k_iload i_37_36 rfl ?_
        refine k_iconst i_37_38 ?_
        refine k_ic_eq (t := 49) i_37_39 rfl (by omega) (by omega) (fun g => ?_) (fun g => ?_)
        · rw [if_neg (by omega)] at hi2
          refine k_iinc i_37_49 rfl (Nat.le_of_ble_eq_true rfl) ?_
          dsimp only [q_st1, q_st2, q_unl]
          refine k_goto (t := 5) i_37_52 rfl ?_
          exact hi2 _
        · rw [if_pos ⟨h, by omega⟩] at hi2
          refine k_iload_n i_37_42 rfl ?_
          refine k_iconst i_37_43 ?_
          refine k_iload i_37_44 rfl ?_
          refine k_ishl i_37_46 (J_one (by omega) (by omega)) ?_
          refine k_ior i_37_47 (J_or _ _) ?_
          refine k_istore_n i_37_48 (Nat.le_of_ble_eq_true rfl) ?_
          dsimp only [q_st1, q_st2, q_unl]
          refine k_iinc i_37_49 rfl (Nat.le_of_ble_eq_true rfl) ?_
          dsimp only [q_st1, q_st2, q_unl]
          refine k_goto (t := 5) i_37_52 rfl ?_
          exact hi2 _
theorem e_shifted (hT : TAt sh S t T) (hX : TNx S t T) (hw : tWF T) {m : Nat} (hm : m < 2 ^ 20) (q : Int) (hq : 0 ≤ q ∧ q < 4) : KP sh (d + 2) 37 [.ref t, .int (J (m : Int)), .int (J q)] S (.int (J (shf T m q : Int))) := by
  have hN := tN_le hw
  refine k_start ql_37 (Nat.le_of_ble_eq_true rfl) ?_
  simp only [q_en, List.replicate]
  refine k_iconst i_37_0 ?_
  refine k_istore_n i_37_1 (Nat.le_of_ble_eq_true rfl) ?_
  dsimp only [q_st1, q_st2, q_unl]
  refine k_iconst i_37_2 ?_
  refine k_istore i_37_3 (Nat.le_of_ble_eq_true rfl) ?_
  dsimp only [q_st1, q_st2, q_unl]
  exact l_shifted hT hX hw hm q hq ⟨rfl, rfl⟩ (tN T).toNat 0 none (by omega)
-- method 36: StraightTax$Town.straightFrom.(I)I
theorem l_straight_k (hT : TAt sh S t T) (hX : TNx S t T) (hw : tWF T) {m : Nat} (hm : m < 2 ^ 20) (q : Int) (hq : 0 ≤ q ∧ q < 4) (acc : Nat) (hk : K sh (d + 3) 36 41 [some (.ref t), some (.int (J (m : Int))), some (.int (J (stI T m q acc 4 : Int))), some (.int (J q)), some (.int (J (frk T m q 4 : Int))), some (.int (J 4))] [] S Q) : ∀ (i k : Nat), k + i = 4 → K sh (d + 3) 36 15 [some (.ref t), some (.int (J (m : Int))), some (.int (J (stI T m q acc k : Int))), some (.int (J q)), some (.int (J (frk T m q k : Int))), some (.int (J (k : Int)))] [] S Q := by
  obtain ⟨s1, s2, s3, r1, r2, a0, a1, a2, a3, a4, a5, a6, ag⟩ := id hT
  intro i
  induction i with
  | zero =>
    intro k hi
    have e : k = 4 := by omega
    subst e
    refine k_iload i_36_15 rfl ?_
    refine k_iconst i_36_17 ?_
    refine k_ic_ge (t := 41) i_36_18 rfl (by omega) (by omega) (fun h => ?_) (fun h => ?_)
    · exact hk
    · omega
  | succ i ih =>
    intro k hi
    refine k_iload i_36_15 rfl ?_
    refine k_iconst i_36_17 ?_
    refine k_ic_ge (t := 41) i_36_18 rfl (by omega) (by omega) (fun h => ?_) (fun h => ?_)
    · omega
    · refine k_aload_n i_36_21 rfl ?_
      refine k_iload i_36_22 rfl ?_
      refine k_iload_n i_36_24 rfl ?_
      refine k_vp2 i_36_25 c_7_91 qp_37 qo_37 (by first | rfl | assumption | (rw [hR]; rfl) | (dsimp only; rw [hR]; rfl)) (Nat.le_of_ble_eq_true rfl) (e_shifted hT hX hw (frk_lt hw hm k) q hq) ?_
      refine k_istore i_36_28 (Nat.le_of_ble_eq_true rfl) ?_
      dsimp only [q_st1, q_st2, q_unl]
      refine k_iload_n i_36_30 rfl ?_
      refine k_iload i_36_31 rfl ?_
      refine k_ior i_36_33 (J_or _ _) ?_
      refine k_istore_n i_36_34 (Nat.le_of_ble_eq_true rfl) ?_
      dsimp only [q_st1, q_st2, q_unl]
      refine k_iinc i_36_35 rfl (Nat.le_of_ble_eq_true rfl) ?_
      dsimp only [q_st1, q_st2, q_unl]
      refine k_goto (t := 15) i_36_38 rfl ?_
      exact ih (k + 1) (by omega)
theorem l_straight_q (hT : TAt sh S t T) (hX : TNx S t T) (hw : tWF T) {m : Nat} (hm : m < 2 ^ 20) : ∀ (i q : Nat) (x4 x5 : Option Value), q + i = 4 → K sh (d + 3) 36 4 [some (.ref t), some (.int (J (m : Int))), some (.int (J (stO T m q : Int))), some (.int (J (q : Int))), x4, x5] [] S (fun r S2 => r = some (.int (J (stO T m 4 : Int))) ∧ S2 = S) := by
  intro i
  induction i with
  | zero =>
    intro q x4 x5 hi
    have e : q = 4 := by omega
    subst e
    refine k_iload_n i_36_4 rfl ?_
    refine k_iconst i_36_5 ?_
    refine k_ic_ge (t := 47) i_36_6 rfl (by omega) (by omega) (fun h => ?_) (fun h => ?_)
    · refine k_iload_n i_36_47 rfl ?_
      refine k_iret i_36_48 qt_36 ?_
      exact ⟨rfl, rfl⟩
    · omega
  | succ i ih =>
    intro q x4 x5 hi
    refine k_iload_n i_36_4 rfl ?_
    refine k_iconst i_36_5 ?_
    refine k_ic_ge (t := 47) i_36_6 rfl (by omega) (by omega) (fun h => ?_) (fun h => ?_)
    · omega
    · refine k_iload_n i_36_9 rfl ?_
      refine k_istore i_36_10 (Nat.le_of_ble_eq_true rfl) ?_
      dsimp only [q_st1, q_st2, q_unl]
      refine k_iconst i_36_12 ?_
      refine k_istore i_36_13 (Nat.le_of_ble_eq_true rfl) ?_
      dsimp only [q_st1, q_st2, q_unl]
      refine l_straight_k hT hX hw hm q (by omega) (stO T m q) ?_ 4 0 (by omega)
      refine k_iinc i_36_41 rfl (Nat.le_of_ble_eq_true rfl) ?_
      dsimp only [q_st1, q_st2, q_unl]
      refine k_goto (t := 4) i_36_44 rfl ?_
      exact ih (q + 1) _ _ (by omega)
theorem e_straightFrom (hT : TAt sh S t T) (hX : TNx S t T) (hw : tWF T) {m : Nat} (hm : m < 2 ^ 20) : KP sh (d + 3) 36 [.ref t, .int (J (m : Int))] S (.int (J (stO T m 4 : Int))) := by
  refine k_start ql_36 (Nat.le_of_ble_eq_true rfl) ?_
  simp only [q_en, List.replicate]
  refine k_iconst i_36_0 ?_
  refine k_istore_n i_36_1 (Nat.le_of_ble_eq_true rfl) ?_
  dsimp only [q_st1, q_st2, q_unl]
  refine k_iconst i_36_2 ?_
  refine k_istore_n i_36_3 (Nat.le_of_ble_eq_true rfl) ?_
  dsimp only [q_st1, q_st2, q_unl]
  exact l_straight_q hT hX hw hm 4 0 none none (by omega)
-- method 85: StraightTax.fewTurns.(II)I
theorem l_few (hR : X.2 = rX h0 s0 w) (hT : TAt shX (I, X) h0 T) (hX : TNx (I, X) h0 T) (hw : tWF T) (a b : Int) (hb : 0 ≤ b ∧ b < tN T) : ∀ (k tn : Nat) (m : Nat) (x5 : Option Value), tn + k = 21 → inT T m → K shX (d + 4) 85 25 [some (.ref 0), some (.int (J a)), some (.int (J b)), some (.int (J (m : Int))), some (.int (J (tn : Int))), x5] [] (I, X) (fun r S2 => r = some (.int (J (ftg T b.toNat k m tn))) ∧ S2 = (I, X)) := by
  obtain ⟨s1, s2, s3, r1, r2, a0, a1, a2, a3, a4, a5, a6, ag⟩ := id hT
  have hN := tN_le hw
  intro k
  induction k with
  | zero =>
    intro tn m x5 hk hm
    refine k_iload i_85_25 rfl ?_
    refine k_bipush i_85_27 (by decide) ?_
    refine k_ic_gt (t := 74) i_85_29 rfl (by omega) (by omega) (fun h => ?_) (fun h => ?_)
    · refine k_bipush i_85_74 (by decide) ?_
      refine k_iret i_85_76 qt_85 ?_
      exact ⟨rfl, rfl⟩
    · omega
  | succ k ih =>
    intro tn m x5 hk hm
    have hm2 := inT_lt hw hm
    have hs := stp_inT hw hm
    have hs2 := inT_lt hw hs
    unfold ftg
    refine k_iload i_85_25 rfl ?_
    refine k_bipush i_85_27 (by decide) ?_
    refine k_ic_gt (t := 74) i_85_29 rfl (by omega) (by omega) (fun h => ?_) (fun h => ?_)
    · omega
    · refine k_iload_n i_85_32 rfl ?_
      refine k_aload_n i_85_33 rfl ?_
      refine k_gfR i_85_34 f_11_54 (by first | rfl | assumption | (rw [hR]; rfl) | (dsimp only; rw [hR]; rfl)) (by decide) (by decide) (Or.inl ⟨_, rfl⟩) (by first | rfl | assumption | (rw [hR]; rfl) | (dsimp only; rw [hR]; rfl)) ?_
      refine k_iload_n i_85_37 rfl ?_
      refine k_vp1 i_85_38 c_11_217 qp_36 qo_36 (by first | rfl | assumption | (rw [hR]; rfl) | (dsimp only; rw [hR]; rfl)) (Nat.le_of_ble_eq_true rfl) (e_straightFrom hT hX hw hm2) ?_
      refine k_ior i_85_41 (J_or _ _) ?_
      rw [show m ||| stO T m 4 = stp T m from rfl]
      refine k_istore i_85_42 (Nat.le_of_ble_eq_true rfl) ?_
      dsimp only [q_st1, q_st2, q_unl]
      refine k_iload i_85_44 rfl ?_
      refine k_iload_n i_85_46 rfl ?_
      refine k_sp2 i_85_47 c_11_220 (by decide) qp_86 (Nat.le_of_ble_eq_true rfl) (e_isIn (by omega) _ (by omega) (by omega)) ?_
      refine k_if_eqB (t := 56) i_85_50 rfl (fun h => ?_) (fun h => ?_)
      · rw [if_neg (by rw [h]; simp)]
        refine k_iload i_85_56 rfl ?_
        refine k_iload_n i_85_58 rfl ?_
        refine k_ic_ne (t := 65) i_85_59 rfl (by omega) (by omega) (fun g => ?_) (fun g => ?_)
        · rw [if_neg (by omega)]
          refine k_iload i_85_65 rfl ?_
          refine k_istore_n i_85_67 (Nat.le_of_ble_eq_true rfl) ?_
          dsimp only [q_st1, q_st2, q_unl]
          refine k_iinc i_85_68 rfl (Nat.le_of_ble_eq_true rfl) ?_
          dsimp only [q_st1, q_st2, q_unl]
          refine k_goto (t := 25) i_85_71 rfl ?_
          exact ih (tn + 1) _ _ (by omega) hs
        · rw [if_pos (by omega)]
          refine k_bipush i_85_62 (by decide) ?_
          refine k_iret i_85_64 qt_85 ?_
          exact ⟨rfl, rfl⟩
      · rw [if_pos h]
        refine k_iload i_85_53 rfl ?_
        refine k_iret i_85_55 qt_85 ?_
        exact ⟨rfl, rfl⟩
theorem x_fewTurns (hB : XB I X h0 s0 w T nt) (a b : Int) (ha : inJ a) (hb : inJ b) : KP shX (d + 4) 85 [.ref 0, .int (J a), .int (J b)] (I, X) (.int (J (Fft T a b))) := by
  obtain ⟨hR, hh, hT, hX, hOK, hnt, h01, hz⟩ := hB
  have hw := hOK.1
  have hN := tN_le hw
  refine k_start ql_85 (Nat.le_of_ble_eq_true rfl) ?_
  simp only [q_en, List.replicate]
  refine k_aload_n i_85_0 rfl ?_
  refine k_iload_n i_85_1 rfl ?_
  refine k_iload_n i_85_2 rfl ?_
  refine k_vp2 i_85_3 c_11_183 qp_82 qo_82 (by first | rfl | assumption | (rw [hR]; rfl) | (dsimp only; rw [hR]; rfl)) (Nat.le_of_ble_eq_true rfl) (e_areEnds hR hT hw _ _ ha hb) ?_
  refine k_if_neB (t := 11) i_85_6 rfl (fun h => ?_) (fun h => ?_)
  · have ho : tOpen T a = true ∧ tOpen T b = true := by simpa using h
    have har := open_lt ho.1
    have hbr := open_lt ho.2
    unfold Fft
    rw [if_pos h]
    refine k_iload_n i_85_11 rfl ?_
    refine k_iload_n i_85_12 rfl ?_
    refine k_ic_ne (t := 18) i_85_13 rfl (by omega) (by omega) (fun g => ?_) (fun g => ?_)
    · rw [if_neg g]
      refine k_iconst i_85_18 ?_
      refine k_iload_n i_85_19 rfl ?_
      refine k_ishl i_85_20 (J_one (by omega) (by omega)) ?_
      refine k_istore_n i_85_21 (Nat.le_of_ble_eq_true rfl) ?_
      dsimp only [q_st1, q_st2, q_unl]
      refine k_iconst i_85_22 ?_
      refine k_istore i_85_23 (Nat.le_of_ble_eq_true rfl) ?_
      dsimp only [q_st1, q_st2, q_unl]
      exact l_few hR hT hX hw a b hbr 21 0 _ _ (by omega) (one_inT har)
    · rw [if_pos (by omega)]
      refine k_iconst i_85_16 ?_
      refine k_iret i_85_17 qt_85 ?_
      exact ⟨rfl, rfl⟩
  · refine k_iconst i_85_9 ?_
    refine k_iret i_85_10 qt_85 ?_
    unfold Fft
    rw [if_neg (by rw [h]; simp)]
    exact ⟨rfl, rfl⟩
-- method 134: StraightTaxModel.fewTurns.(II)I
/-- what has been found from the squares before c, and from c in the directions before q -/
def PRd (T : Tn) (m : Nat) (c q : Int) (j : Nat) : Prop := ∃ (c' : Nat) (q' i : Nat), ((c' : Int) < c ∨ ((c' : Int) = c ∧ (q' : Int) < q)) ∧ (q' < 4 ∧ 1 ≤ i) ∧ m.testBit c' = true ∧ nxk T q' i c' = j
def ASt (T : Tn) (m : Nat) (c q : Int) (acc : Nat) : Prop := acc < 2 ^ 20 ∧ ∀ j : Nat, (acc.testBit j = true ↔ m.testBit j = true ∨ PRd T m c q j)
theorem l_mft_w (hT : MT (I, X) T) (hw : tWF T) (a b : Int) (m : Nat) (tn : Int) (c q : Nat) (hc : (c : Int) < tN T) (hq : q < 4) (hmc : m.testBit c = true) (acc0 : Nat) (h0 : ASt T m c q acc0)
    (hk : ∀ (acc : Nat) (x8 : Option Value), ASt T m c (q + 1) acc → K shM (d + 2) 134 101 [some (.ref 0), some (.int (J a)), some (.int (J b)), some (.int (J (m : Int))), some (.int (J tn)), some (.int (J (acc : Int))), some (.int (J (c : Int))), some (.int (J (q : Int))), x8] [] (I, X) Q) :
    ∀ (f k acc : Nat), k + f = 5 → acc < 2 ^ 20 → (∀ j : Nat, acc.testBit j = true ↔ acc0.testBit j = true ∨ ∃ i : Nat, (1 ≤ i ∧ i ≤ k) ∧ nxk T q i c = j) → K shM (d + 2) 134 74 [some (.ref 0), some (.int (J a)), some (.int (J b)), some (.int (J (m : Int))), some (.int (J tn)), some (.int (J (acc : Int))), some (.int (J (c : Int))), some (.int (J (q : Int))), some (.int (J (nxk T q (k + 1) c)))] [] (I, X) Q := by
  have hN := tN_le hw
  have hcr : (0 : Int) ≤ (c : Int) ∧ (c : Int) < tN T := by omega
  have hqr : (0 : Int) ≤ (q : Int) ∧ (q : Int) < 4 := by omega
  intro f
  induction f with
  | zero =>
    intro k acc hkf hacc hb
    have hr := nxk_range hw (q := q) hcr (k + 1)
    refine k_iload i_134_74 rfl ?_
    refine k_if_lt (t := 101) i_134_76 rfl (by omega) (fun g => ?_) (fun g => ?_)
    · refine hk acc _ ⟨hacc, fun j => ?_⟩
      rw [hb j, h0.2 j]
      constructor
      · rintro ((z | ⟨c', q', i, z1, z2, z3, z4⟩) | ⟨i, z1, z2⟩)
        · exact Or.inl z
        · exact Or.inr ⟨c', q', i, by omega, z2, z3, z4⟩
        · exact Or.inr ⟨c, q, i, by omega, by omega, hmc, z2⟩
      · rintro (z | ⟨c', q', i, z1, z2, z3, z4⟩)
        · exact Or.inl (Or.inl z)
        · by_cases e : c' = c ∧ q' = q
          · obtain ⟨rfl, rfl⟩ := e
            refine Or.inr ⟨i, ⟨z2.2, ?_⟩, z4⟩
            have := nxk_4 hw hcr hqr (k := i) (by omega)
            omega
          · exact Or.inl (Or.inr ⟨c', q', i, by omega, z2, z3, z4⟩)
    · have := nxk_4 hw hcr hqr (k := k + 1) (by omega)
      omega
  | succ f ih =>
    intro k acc hkf hacc hb
    have hr := nxk_range hw (q := q) hcr (k + 1)
    refine k_iload i_134_74 rfl ?_
    refine k_if_lt (t := 101) i_134_76 rfl (by omega) (fun g => ?_) (fun g => ?_)
    · refine hk acc _ ⟨hacc, fun j => ?_⟩
      rw [hb j, h0.2 j]
      constructor
      · rintro ((z | ⟨c', q', i, z1, z2, z3, z4⟩) | ⟨i, z1, z2⟩)
        · exact Or.inl z
        · exact Or.inr ⟨c', q', i, by omega, z2, z3, z4⟩
        · exact Or.inr ⟨c, q, i, by omega, by omega, hmc, z2⟩
      · rintro (z | ⟨c', q', i, z1, z2, z3, z4⟩)
        · exact Or.inl (Or.inl z)
        · by_cases e : c' = c ∧ q' = q
          · obtain ⟨rfl, rfl⟩ := e
            refine Or.inr ⟨i, ⟨z2.2, ?_⟩, z4⟩
            by_cases e2 : i ≤ k
            · exact e2
            · have := nxk_neg g (i - (k + 1))
              rw [show k + 1 + (i - (k + 1)) = i by omega] at this
              omega
          · exact Or.inl (Or.inr ⟨c', q', i, by omega, z2, z3, z4⟩)
    · refine k_iload i_134_79 rfl ?_
      refine k_iconst i_134_81 ?_
      refine k_iload i_134_82 rfl ?_
      refine k_ishl i_134_84 (J_one (by omega) (by omega)) ?_
      refine k_ior i_134_85 (J_or _ _) ?_
      refine k_istore i_134_86 (Nat.le_of_ble_eq_true rfl) ?_
      dsimp only [q_st1, q_st2, q_unl]
      refine k_aload_n i_134_88 rfl ?_
      refine k_iload i_134_89 rfl ?_
      refine k_iload i_134_91 rfl ?_
      refine k_vp2 i_134_93 c_12_187 qp_117 qo_117 (by first | rfl | assumption | (rw [hR]; rfl) | (dsimp only; rw [hR]; rfl)) (Nat.le_of_ble_eq_true rfl) (m_to hT hw _ _ ⟨by omega, hr.2⟩ (by omega)) ?_
      refine k_istore i_134_96 (Nat.le_of_ble_eq_true rfl) ?_
      dsimp only [q_st1, q_st2, q_unl]
      refine k_goto (t := 74) i_134_98 rfl ?_
      have h2 := ih (k + 1) (acc ||| 2 ^ (nxk T q (k + 1) c).toNat) (by omega) (Nat.or_lt_two_pow hacc (pow_lt20 (by omega))) (fun j => by
        rw [Nat.testBit_or, Bool.or_eq_true, hb j, Nat.testBit_two_pow, decide_eq_true_eq]
        constructor
        · rintro ((z | ⟨i, z1, z2⟩) | z)
          · exact Or.inl z
          · exact Or.inr ⟨i, by omega, z2⟩
          · exact Or.inr ⟨k + 1, by omega, by omega⟩
        · rintro (z | ⟨i, z1, z2⟩)
          · exact Or.inl (Or.inl z)
          · by_cases e : i = k + 1
            · subst e; right; omega
            · exact Or.inl (Or.inr ⟨i, by omega, z2⟩))
      rw [show nxk T (q : Int) (k + 1 + 1) (c : Int) = nx T (nxk T (q : Int) (k + 1) (c : Int)) (q : Int) from by rw [nxk_S, if_neg (by omega)]] at h2
      exact h2
theorem l_mft_d (hT : MT (I, X) T) (hw : tWF T) (a b : Int) (m : Nat) (hm : inT T m) (tn : Int) (c : Nat) (hc : (c : Int) < tN T)
    (hk : ∀ (acc : Nat) (x7 x8 : Option Value), ASt T m (c + 1) 0 acc → K shM (d + 2) 134 107 [some (.ref 0), some (.int (J a)), some (.int (J b)), some (.int (J (m : Int))), some (.int (J tn)), some (.int (J (acc : Int))), some (.int (J (c : Int))), x7, x8] [] (I, X) Q) :
    ∀ (f q acc : Nat) (x8 : Option Value), q + f = 4 → ASt T m c q acc → K shM (d + 2) 134 49 [some (.ref 0), some (.int (J a)), some (.int (J b)), some (.int (J (m : Int))), some (.int (J tn)), some (.int (J (acc : Int))), some (.int (J (c : Int))), some (.int (J (q : Int))), x8] [] (I, X) Q := by
  have hN := tN_le hw
  have hm2 := inT_lt hw hm
  intro f
  induction f with
  | zero =>
    intro q acc x8 hf hA
    have e : q = 4 := by omega
    subst e
    refine k_iload i_134_49 rfl ?_
    refine k_iconst i_134_51 ?_
    refine k_ic_ge (t := 107) i_134_52 rfl (by omega) (by omega) (fun h => ?_) (fun h => ?_)
    · refine hk acc _ _ ⟨hA.1, fun j => (hA.2 j).trans ?_⟩
      constructor
      · rintro (z | ⟨c', q', i, z1, z2, z3, z4⟩)
        · exact Or.inl z
        · exact Or.inr ⟨c', q', i, by omega, z2, z3, z4⟩
      · rintro (z | ⟨c', q', i, z1, z2, z3, z4⟩)
        · exact Or.inl z
        · exact Or.inr ⟨c', q', i, by omega, z2, z3, z4⟩
    · omega
  | succ f ih =>
    intro q acc x8 hf hA
    refine k_iload i_134_49 rfl ?_
    refine k_iconst i_134_51 ?_
    refine k_ic_ge (t := 107) i_134_52 rfl (by omega) (by omega) (fun h => ?_) (fun h => ?_)
    · omega
    · refine k_iload_n i_134_55 rfl ?_
      refine k_iload i_134_56 rfl ?_
      refine k_sp2 i_134_58 c_12_83 (by decide) qp_109 (Nat.le_of_ble_eq_true rfl) (m_has (by omega) _ (by omega) (by omega)) ?_
      rw [show ((c : Int)).toNat = c by omega]
      refine k_if_eqB (t := 107) i_134_61 rfl (fun h => ?_) (fun h => ?_)
      · refine hk acc _ _ ⟨hA.1, fun j => (hA.2 j).trans ?_⟩
        constructor
        · rintro (z | ⟨c', q', i, z1, z2, z3, z4⟩)
          · exact Or.inl z
          · exact Or.inr ⟨c', q', i, by omega, z2, z3, z4⟩
        · rintro (z | ⟨c', q', i, z1, z2, z3, z4⟩)
          · exact Or.inl z
          · refine Or.inr ⟨c', q', i, ?_, z2, z3, z4⟩
            by_cases e : c' = c
            · subst e; rw [h] at z3; cases z3
            · omega
      · refine k_aload_n i_134_64 rfl ?_
        refine k_iload i_134_65 rfl ?_
        refine k_iload i_134_67 rfl ?_
        refine k_vp2 i_134_69 c_12_187 qp_117 qo_117 (by first | rfl | assumption | (rw [hR]; rfl) | (dsimp only; rw [hR]; rfl)) (Nat.le_of_ble_eq_true rfl) (m_to hT hw _ _ (by omega) (by omega)) ?_
        refine k_istore i_134_72 (Nat.le_of_ble_eq_true rfl) ?_
        dsimp only [q_st1, q_st2, q_unl]
        have h2 := l_mft_w (d := d) hT hw a b m tn c q hc (by omega) h acc hA (Q := Q) (fun acc2 y8 hA2 => ?_) 5 0 acc (by omega) hA.1 (fun j => ⟨fun z => Or.inl z, fun z => by
          rcases z with z | ⟨i, z1, z2⟩
          · exact z
          · omega⟩)
        · rw [nxk_S, show nxk T (q : Int) 0 (c : Int) = (c : Int) from rfl, if_neg (by omega)] at h2
          exact h2
        · refine k_iinc i_134_101 rfl (Nat.le_of_ble_eq_true rfl) ?_
          dsimp only [q_st1, q_st2, q_unl]
          refine k_goto (t := 49) i_134_104 rfl ?_
          exact ih (q + 1) acc2 _ (by omega) hA2
theorem l_mft_c (hT : MT (I, X) T) (hw : tWF T) (a b : Int) (m : Nat) (hm : inT T m) (tn : Int)
    (hk : ∀ (x6 x7 x8 : Option Value), K shM (d + 2) 134 113 [some (.ref 0), some (.int (J a)), some (.int (J b)), some (.int (J (m : Int))), some (.int (J tn)), some (.int (J (stp T m : Int))), x6, x7, x8] [] (I, X) Q) :
    ∀ (f c acc : Nat) (x7 x8 : Option Value), (c : Int) + f = tN T → ASt T m c 0 acc → K shM (d + 2) 134 32 [some (.ref 0), some (.int (J a)), some (.int (J b)), some (.int (J (m : Int))), some (.int (J tn)), some (.int (J (acc : Int))), some (.int (J (c : Int))), x7, x8] [] (I, X) Q := by
  have hN := tN_le hw
  obtain ⟨a0, a1, a2, a3, a4, a5, a6, a7, a8⟩ := id hT
  have eN : (I, X).1 0 0 * (I, X).1 0 1 = tN T := by rw [a0, a1]; rfl
  intro f
  induction f with
  | zero =>
    intro c acc x7 x8 hf hA
    refine k_iload i_134_32 rfl ?_
    refine k_aload_n i_134_34 rfl ?_
    refine k_gfI i_134_35 f_12_7 (by first | rfl | assumption | (rw [hR]; rfl) | (dsimp only; rw [hR]; rfl)) (by decide) (by decide) (Or.inl rfl) ?_
    refine k_aload_n i_134_38 rfl ?_
    refine k_gfI i_134_39 f_12_13 (by first | rfl | assumption | (rw [hR]; rfl) | (dsimp only; rw [hR]; rfl)) (by decide) (by decide) (Or.inl rfl) ?_
    refine k_imul i_134_42 ?_
    rw [eN]
    refine k_ic_ge (t := 113) i_134_43 rfl (by omega) (by omega) (fun h => ?_) (fun h => ?_)
    · have e : acc = stp T m := by
        refine Nat.eq_of_testBit_eq (fun i => ?_)
        rw [Bool.eq_iff_iff, hA.2 i, stp_bit hw hm i]
        constructor
        · rintro (z | ⟨c', q', i', z1, z2, z3, z4⟩)
          · exact Or.inl z
          · exact Or.inr ⟨c', q', i', z2, z3, z4⟩
        · rintro (z | ⟨c', q', i', z2, z3, z4⟩)
          · exact Or.inl z
          · have := hm c' z3
            exact Or.inr ⟨c', q', i', by omega, z2, z3, z4⟩
      rw [e]
      exact hk _ _ _
    · omega
  | succ f ih =>
    intro c acc x7 x8 hf hA
    refine k_iload i_134_32 rfl ?_
    refine k_aload_n i_134_34 rfl ?_
    refine k_gfI i_134_35 f_12_7 (by first | rfl | assumption | (rw [hR]; rfl) | (dsimp only; rw [hR]; rfl)) (by decide) (by decide) (Or.inl rfl) ?_
    refine k_aload_n i_134_38 rfl ?_
    refine k_gfI i_134_39 f_12_13 (by first | rfl | assumption | (rw [hR]; rfl) | (dsimp only; rw [hR]; rfl)) (by decide) (by decide) (Or.inl rfl) ?_
    refine k_imul i_134_42 ?_
    rw [eN]
    refine k_ic_ge (t := 113) i_134_43 rfl (by omega) (by omega) (fun h => ?_) (fun h => ?_)
    · omega
    · refine k_iconst i_134_46 ?_
      refine k_istore i_134_47 (Nat.le_of_ble_eq_true rfl) ?_
      dsimp only [q_st1, q_st2, q_unl]
      refine l_mft_d hT hw a b m hm tn c (by omega) (fun acc2 y7 y8 hA2 => ?_) 4 0 acc _ (by omega) hA
      refine k_iinc i_134_107 rfl (Nat.le_of_ble_eq_true rfl) ?_
      dsimp only [q_st1, q_st2, q_unl]
      refine k_goto (t := 32) i_134_110 rfl ?_
      exact ih (c + 1) acc2 _ _ (by omega) hA2
theorem l_mft (hT : MT (I, X) T) (hw : tWF T) (a b : Int) (hb : 0 ≤ b ∧ b < tN T) : ∀ (f tn m : Nat) (x5 x6 x7 x8 : Option Value), inT T m → 21 ≤ pc m 20 + f → tn ≤ 21 - f → f ≤ 21 → (m.testBit b.toNat = false) → K shM (d + 2) 134 18 [some (.ref 0), some (.int (J a)), some (.int (J b)), some (.int (J (m : Int))), some (.int (J ((tn : Int) - 1))), x5, x6, x7, x8] [] (I, X) (fun r S2 => r = some (.int (J (ftg T b.toNat f m tn))) ∧ S2 = (I, X)) := by
  have hN := tN_le hw
  intro f
  induction f with
  | zero =>
    intro tn m x5 x6 x7 x8 hm hp ht hf hmb
    have := pc_le (m := m) 20
    omega
  | succ f ih =>
    intro tn m x5 x6 x7 x8 hm hp ht hf hmb
    have hm2 := inT_lt hw hm
    have hs := stp_inT hw hm
    have hs2 := inT_lt hw hs
    refine k_iload_n i_134_18 rfl ?_
    refine k_iload_n i_134_19 rfl ?_
    refine k_sp2 i_134_20 c_12_83 (by decide) qp_109 (Nat.le_of_ble_eq_true rfl) (m_has (by omega) _ (by omega) (by omega)) ?_
    rw [hmb]
    refine k_if_neB (t := 131) i_134_23 rfl (fun h => ?_) (fun h => ?_)
    · cases h
    · refine k_iload_n i_134_26 rfl ?_
      refine k_istore i_134_27 (Nat.le_of_ble_eq_true rfl) ?_
      dsimp only [q_st1, q_st2, q_unl]
      refine k_iconst i_134_29 ?_
      refine k_istore i_134_30 (Nat.le_of_ble_eq_true rfl) ?_
      dsimp only [q_st1, q_st2, q_unl]
      refine l_mft_c hT hw a b m hm ((tn : Int) - 1) (fun y6 y7 y8 => ?_) (tN T).toNat 0 m x7 x8 (by omega) ⟨hm2, fun j => ⟨fun z => Or.inl z, fun z => by
        rcases z with z | ⟨c', q', i, z1, z2, z3, z4⟩
        · exact z
        · omega⟩⟩
      unfold ftg
      refine k_iload i_134_113 rfl ?_
      refine k_iload_n i_134_115 rfl ?_
      refine k_ic_ne (t := 122) i_134_116 rfl (by omega) (by omega) (fun g => ?_) (fun g => ?_)
      · have hne : stp T m ≠ m := by omega
        have hpc := stp_pc hw hm hne
        refine k_iload i_134_122 rfl ?_
        refine k_istore_n i_134_124 (Nat.le_of_ble_eq_true rfl) ?_
        dsimp only [q_st1, q_st2, q_unl]
        refine k_iinc i_134_125 rfl (Nat.le_of_ble_eq_true rfl) ?_
        dsimp only [q_st1, q_st2, q_unl]
        refine k_goto (t := 18) i_134_128 rfl ?_
        rw [show (tn : Int) - 1 + 1 = (tn : Int) by omega]
        cases e : (stp T m).testBit b.toNat
        · rw [if_neg (by decide), if_neg hne]
          have h2 := ih (tn + 1) (stp T m) (some (.int (J (stp T m : Int)))) y6 y7 y8 hs (by omega) (by omega) (by omega) e
          rw [show ((tn + 1 : Nat) : Int) - 1 = (tn : Int) by omega, show ((tn + 1 : Nat) : Int) = (tn : Int) + 1 by omega] at h2
          exact h2
        · rw [if_pos rfl]
          refine k_iload_n i_134_18 rfl ?_
          refine k_iload_n i_134_19 rfl ?_
          refine k_sp2 i_134_20 c_12_83 (by decide) qp_109 (Nat.le_of_ble_eq_true rfl) (m_has (by omega) _ (by omega) (by omega)) ?_
          rw [e]
          refine k_if_neB (t := 131) i_134_23 rfl (fun h => ?_) (fun h => ?_)
          · refine k_iload i_134_131 rfl ?_
            refine k_if_ge (t := 140) i_134_133 rfl (by omega) (fun h => ?_) (fun h => ?_)
            · refine k_iload i_134_140 rfl ?_
              refine k_iret i_134_142 qt_134 ?_
              exact ⟨rfl, rfl⟩
            · omega
          · cases h
      · have hne : stp T m = m := by omega
        rw [hne, hmb, if_neg (by decide), if_pos rfl]
        refine k_bipush i_134_119 (by decide) ?_
        refine k_iret i_134_121 qt_134 ?_
        exact ⟨rfl, rfl⟩
theorem m_fewTurns (hB : MB I X T nt) (a b : Int) (ha : inJ a) (hb : inJ b) : KP shM (d + 4) 134 [.ref 0, .int (J a), .int (J b)] (I, X) (.int (J (Fft T a b))) := by
  obtain ⟨hT, hR, hOK, hn, h01⟩ := id hB
  have hw := hOK.1
  have hN := tN_le hw
  refine k_start ql_134 (Nat.le_of_ble_eq_true rfl) ?_
  simp only [q_en, List.replicate]
  refine k_aload_n i_134_0 rfl ?_
  refine k_iload_n i_134_1 rfl ?_
  refine k_iload_n i_134_2 rfl ?_
  refine k_vp2 i_134_3 c_12_210 qp_126 qo_126 (by first | rfl | assumption | (rw [hR]; rfl) | (dsimp only; rw [hR]; rfl)) (Nat.le_of_ble_eq_true rfl) (m_areOpen hT hw _ _ ha hb) ?_
  refine k_if_neB (t := 11) i_134_6 rfl (fun h => ?_) (fun h => ?_)
  · have ho : tOpen T a = true ∧ tOpen T b = true := by simpa using h
    have har := open_lt ho.1
    have hbr := open_lt ho.2
    unfold Fft
    rw [if_pos h]
    refine k_iconst i_134_11 ?_
    refine k_iload_n i_134_12 rfl ?_
    refine k_ishl i_134_13 (J_one (by omega) (by omega)) ?_
    refine k_istore_n i_134_14 (Nat.le_of_ble_eq_true rfl) ?_
    dsimp only [q_st1, q_st2, q_unl]
    refine k_iconst i_134_15 ?_
    refine k_istore i_134_16 (Nat.le_of_ble_eq_true rfl) ?_
    dsimp only [q_st1, q_st2, q_unl]
    by_cases e : a = b
    · rw [if_pos e]
      refine k_iload_n i_134_18 rfl ?_
      refine k_iload_n i_134_19 rfl ?_
      refine k_sp2 i_134_20 c_12_83 (by decide) qp_109 (Nat.le_of_ble_eq_true rfl) (m_has (by have := pow_lt20 (c := a) (by omega); omega) _ (by omega) (by omega)) ?_
      rw [e, Nat.testBit_two_pow, decide_eq_true rfl]
      refine k_if_neB (t := 131) i_134_23 rfl (fun h => ?_) (fun h => ?_)
      · refine k_iload i_134_131 rfl ?_
        refine k_if_ge (t := 140) i_134_133 rfl (by omega) (fun h => ?_) (fun h => ?_)
        · omega
        · refine k_iconst i_134_136 ?_
          refine k_goto (t := 142) i_134_137 rfl ?_
          refine k_iret i_134_142 qt_134 ?_
          exact ⟨rfl, rfl⟩
      · cases h
    · rw [if_neg e]
      have h2 := l_mft (d := d + 2) hT hw a b hbr 21 0 (2 ^ a.toNat) none none none none (one_inT har) (by omega) (by omega) (by omega) (by rw [Nat.testBit_two_pow]; exact decide_eq_false (by omega))
      exact h2
  · refine k_iconst i_134_9 ?_
    refine k_iret i_134_10 qt_134 ?_
    unfold Fft
    rw [if_neg (by rw [h]; simp)]
    exact ⟨rfl, rfl⟩
end FT
