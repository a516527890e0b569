/-! THE CLASS: its world, and Ways -/
def shX : QH := [(11, 10), (6, 9), (101, 200), (8, 8), (100, 60), (100, 60), (100, 60), (100, 60), (103, 2), (8, 8), (100, 60), (100, 60), (100, 60), (100, 60), (8, 8), (100, 60), (100, 60), (100, 60), (100, 60), (102, 2), (4, 5), (100, 6), (100, 6), (100, 6), (100, 120), (104, 6), (9, 0), (3, 0), (1, 0), (2, 0), (5, 0), (0, 0), (10, 11), (100, 5), (100, 5), (100, 80), (100, 80), (100, 400), (100, 9), (100, 5), (100, 25), (7, 9), (100, 20), (100, 80), (7, 9), (100, 20), (100, 80), (7, 9), (100, 20), (100, 80)]
/-- its references: here, spare, and the town that Ways looks at -/
def rX (h s w : Nat) : Nat → Nat → Option Nat := fun c k => match c with
  | 0 => match k with
    | 0 => some 1
    | 1 => some 3
    | 2 => some 8
    | 3 => some 19
    | 4 => some 20
    | 5 => some 25
    | 6 => some 32
    | 7 => some h
    | 8 => some s
    | _ => none
  | 1 => if k = 1 then some 2 else none
  | 3 => if 4 ≤ k ∧ k < 8 then some k else none
  | 8 => if k = 0 then some 9 else if k = 1 then some 14 else none
  | 9 => if 4 ≤ k ∧ k < 8 then some (k + 6) else none
  | 14 => if 4 ≤ k ∧ k < 8 then some (k + 11) else none
  | 20 => if 1 ≤ k ∧ k < 5 then some (k + 20) else none
  | 25 => if k < 6 then some (k + 26) else none
  | 32 => if k = 0 then some w else if 3 ≤ k ∧ k < 11 then some (k + 30) else none
  | 41 => if k = 7 then some 42 else if k = 8 then some 43 else none
  | 44 => if k = 7 then some 45 else if k = 8 then some 46 else none
  | 47 => if k = 7 then some 48 else if k = 8 then some 49 else none
  | _ => none
/-- what the first r steps of a run cost, in pence and as a burden -/
def sm (T : Tn) (nt : Int) : Nat → Int
  | 0 => 0
  | r + 1 => sm T nt r + tPrice T nt ((r : Int) + 1)
def wt (T : Tn) (nt : Int) (r : Nat) : Int := sm T nt r * 1024 + r
abbrev XX : Type := (Nat → Nat → Int64) × (Nat → Nat → Option Nat)
/-- Ways looks at a town, by day or by night -/
def WX (I : Nat → Nat → Int) (X : XX) (h s w : Nat) (T : Tn) (nt : Int) : Prop := X.2 = rX h s w ∧ (w = 41 ∨ w = 44) ∧ TAt shX (I, X) w T ∧ TNx (I, X) w T ∧ I 32 1 = nt ∧ (nt = 0 ∨ nt = 1) ∧ tOK T ∧ ∀ r : Nat, r ≤ 4 → I 33 r = sm T nt r ∧ I 34 r = wt T nt r
theorem TAt.row {sh : QH} {I : Nat → Nat → Int} {X : XX} {t c : Nat} {T : Tn} {f : Nat → Int} (hc : c ≠ t ∧ c ≠ t + 1) (h : TAt sh (I, X) t T) : TAt sh (sr I c f, X) t T := by
  unfold TAt at h ⊢
  simp only [sr_n (Ne.symm hc.1), sr_n (Ne.symm hc.2)]
  exact h
theorem TNx.row {I : Nat → Nat → Int} {X : XX} {t c : Nat} {T : Tn} {f : Nat → Int} (hc : c ≠ t + 2) (h : TNx (I, X) t T) : TNx (sr I c f, X) t T := by
  unfold TNx at h ⊢
  simp only [sr_n (Ne.symm hc)]
  exact h
theorem WX.row {I : Nat → Nat → Int} {X : XX} {h s w c : Nat} {T : Tn} {nt : Int} {f : Nat → Int} (hc : 35 ≤ c ∧ c ≤ 40) (hw : WX I X h s w T nt) : WX (sr I c f) X h s w T nt := by
  obtain ⟨h1, h2, h3, h4, h5, h6, h7, h8⟩ := hw
  refine ⟨h1, h2, h3.row (by omega), h4.row (by omega), by rw [sr_n (by omega)]; exact h5, h6, h7, fun r hr => ?_⟩
  rw [sr_n (by omega), sr_n (by omega)]
  exact h8 r hr
theorem sm_range {T : Tn} (hw : tWF T) (nt : Int) : ∀ r, r ≤ 4 → 0 ≤ sm T nt r ∧ sm T nt r ≤ 297 * r
  | 0, _ => by simp [sm]
  | r + 1, hr => by
    have h1 := sm_range hw nt r (by omega)
    have h2 := tPrice4 hw (nt := nt) (r := (r : Int) + 1) (by omega)
    unfold sm
    omega
theorem wt_range {T : Tn} (hw : tWF T) (nt : Int) (r : Nat) (hr : r ≤ 4) : 0 ≤ wt T nt r ∧ wt T nt r ≤ 1216516 := by
  have := sm_range hw nt r hr
  unfold wt
  omega
def W1 (T : Tn) (nt r : Int) : Int := 1024 * tPrice T nt r + 1
theorem wt_S (T : Tn) (nt : Int) (r : Nat) : wt T nt (r + 1) = wt T nt r + W1 T nt ((r : Int) + 1) := by
  unfold wt W1
  rw [show sm T nt (r + 1) = sm T nt r + tPrice T nt ((r : Int) + 1) from rfl]
  omega
/-- by going on in a direction, m steps of the run being left -/
def sO (T : Tn) (nt : Int) (N : Int → Int → Int) (q : Int) : Nat → Int → Int
  | 0, _ => 1073741824
  | m + 1, c => if tAh T c q < 0 then 1073741824 else min 1073741824 (W1 T nt (4 - (m : Int)) + min (N (tAh T c q) q) (if tElb T (tAh T c q) = true then 1073741824 else sO T nt N q m (tAh T c q)))
/-- by a new run, in another direction than one -/
def tuk (O : Int → Int → Int) (c but : Int) : Nat → Int
  | 0 => 1073741824
  | k + 1 => if (k : Int) = but then tuk O c but k else min (tuk O c but k) (O c k)
def tu (O : Int → Int → Int) (c but : Int) : Int := tuk O c but 4
theorem sO_le {T : Tn} {nt : Int} {N : Int → Int → Int} {q : Int} : ∀ m c, sO T nt N q m c ≤ 1073741824
  | 0, c => Int.le_refl _
  | m + 1, c => by unfold sO; split <;> omega
theorem tuk_le {O : Int → Int → Int} {c but : Int} : ∀ k, tuk O c but k ≤ 1073741824
  | 0 => Int.le_refl _
  | k + 1 => by
    have := tuk_le (O := O) (c := c) (but := but) k
    unfold tuk; split <;> omega
/-- a row of ports, as a table -/
def pt (f : Nat → Int) (c q : Int) : Int := f (c * 4 + q).toNat
section WY
variable {S : QS} {d : Nat} {T : Tn} {I : Nat → Nat → Int} {X : XX} {h0 s0 w : Nat} {nt : Int}
-- method 155: java/lang/Math.min.(II)I
theorem e_min {sh : QH} (a b : Int) (ha : inJ a) (hb : inJ b) : KP sh d 155 [.int (J a), .int (J b)] S (.int (J (min a b))) := by
  refine k_start ql_155 (Nat.le_of_ble_eq_true rfl) ?_
  simp only [q_en, List.replicate]
  refine k_iload_n i_155_0 rfl ?_
  refine k_iload_n i_155_1 rfl ?_
  refine k_ic_gt (t := 9) i_155_2 rfl (by omega) (by omega) (fun h2 => ?_) (fun h2 => ?_)
  · refine k_iload_n i_155_9 rfl ?_
    refine k_iret i_155_10 qt_155 ?_
    exact ⟨by first | rw [Int.min_eq_left (by omega)] | rw [Int.min_eq_right (by omega)], rfl⟩
  · refine k_iload_n i_155_5 rfl ?_
    refine k_goto (t := 10) i_155_6 rfl ?_
    refine k_iret i_155_10 qt_155 ?_
    exact ⟨by first | rw [Int.min_eq_left (by omega)] | rw [Int.min_eq_right (by omega)], rfl⟩
-- method 52: StraightTax$Ways.turning.(II)I
theorem l_turning (hR : X.2 = rX h0 s0 w) (c but : Int) (hc : 0 ≤ c ∧ c < 20) (hb : inJ but) (ho : ∀ j : Nat, j < 80 → inJ (I 35 j)) : ∀ (m k : Nat), k + m = 4 → K shX (d + 1) 52 6 [some (.ref 32), some (.int (J c)), some (.int (J but)), some (.int (J (tuk (pt (I 35)) c but k))), some (.int (J (k : Int)))] [] (I, X) (fun r S2 => r = some (.int (J (tu (pt (I 35)) c but))) ∧ S2 = (I, X)) := by
  intro m
  induction m with
  | zero =>
    intro k hk
    have e : k = 4 := by omega
    subst e
    refine k_iload i_52_6 rfl ?_
    refine k_iconst i_52_8 ?_
    refine k_ic_ge (t := 40) i_52_9 rfl (by omega) (by omega) (fun h => ?_) (fun h => ?_)
    · refine k_iload_n i_52_40 rfl ?_
      refine k_iret i_52_41 qt_52 ?_
      exact ⟨rfl, rfl⟩
    · omega
  | succ m ih =>
    intro k hk
    have hi := ih (k + 1) (by omega)
    have hle := tuk_le (O := pt (I 35)) (c := c) (but := but) k
    have hlo : ∀ k : Nat, k ≤ 4 → -2147483648 ≤ tuk (pt (I 35)) c but k := by
      intro k hk
      induction k with
      | zero => unfold tuk; omega
      | succ k ihk =>
        have := ihk (by omega)
        unfold tuk
        split
        · exact this
        · have h3 := ho (c * 4 + k).toNat (by omega)
          have h4 : pt (I 35) c k = I 35 (c * 4 + k).toNat := rfl
          omega
    have h1 := hlo k (by omega)
    have h2 := ho (c * 4 + k).toNat (by omega)
    refine k_iload i_52_6 rfl ?_
    refine k_iconst i_52_8 ?_
    refine k_ic_ge (t := 40) i_52_9 rfl (by omega) (by omega) (fun h => ?_) (fun h => ?_)
    · omega
    · refine k_iload i_52_12 rfl ?_
      refine k_iload_n i_52_14 rfl ?_
      refine k_ic_eq (t := 34) i_52_15 rfl (by omega) (by omega) (fun g => ?_) (fun g => ?_)
      · refine k_iinc i_52_34 rfl (Nat.le_of_ble_eq_true rfl) ?_
        dsimp only [q_st1, q_st2, q_unl]
        refine k_goto (t := 6) i_52_37 rfl ?_
        rw [show tuk (pt (I 35)) c but (k + 1) = tuk (pt (I 35)) c but k from by
          show (if (k : Int) = but then _ else _) = _
          rw [if_pos g]] at hi
        exact hi
      · refine k_iload_n i_52_18 rfl ?_
        refine k_aload_n i_52_19 rfl ?_
        refine k_gfR i_52_20 f_10_33 (by first | rfl | assumption | (rw [hR]; rfl) | (dsimp only; rw [hR]; rfl)) (by decide) (by decide) (Or.inr ⟨_, rfl⟩) (by first | rfl | assumption | (rw [hR]; rfl) | (dsimp only; rw [hR]; rfl)) ?_
        refine k_iload_n i_52_23 rfl ?_
        refine k_iconst i_52_24 ?_
        refine k_imul i_52_25 ?_
        refine k_iload i_52_26 rfl ?_
        refine k_iadd i_52_28 ?_
        refine k_iald i_52_29 rfl (by decide) (by omega) (by omega) ?_
        refine k_sp2 i_52_30 c_10_92 (by decide) qp_155 (Nat.le_of_ble_eq_true rfl) (e_min _ _ (by omega) h2) ?_
        refine k_istore_n i_52_33 (Nat.le_of_ble_eq_true rfl) ?_
        dsimp only [q_st1, q_st2, q_unl]
        refine k_iinc i_52_34 rfl (Nat.le_of_ble_eq_true rfl) ?_
        dsimp only [q_st1, q_st2, q_unl]
        refine k_goto (t := 6) i_52_37 rfl ?_
        rw [show tuk (pt (I 35)) c but (k + 1) = min (tuk (pt (I 35)) c but k) (I 35 (c * 4 + k).toNat) from by
          show (if (k : Int) = but then _ else _) = _
          rw [if_neg g]; rfl] at hi
        exact hi
theorem e_turning (hR : X.2 = rX h0 s0 w) (c but : Int) (hc : 0 ≤ c ∧ c < 20) (hb : inJ but) (ho : ∀ j : Nat, j < 80 → inJ (I 35 j)) : KP shX (d + 1) 52 [.ref 32, .int (J c), .int (J but)] (I, X) (.int (J (tu (pt (I 35)) c but))) := by
  refine k_start ql_52 (Nat.le_of_ble_eq_true rfl) ?_
  simp only [q_en, List.replicate]
  refine k_ldc (a := 1073741824) i_52_0 n_10_64 (by decide) ?_
  refine k_istore_n i_52_2 (Nat.le_of_ble_eq_true rfl) ?_
  dsimp only [q_st1, q_st2, q_unl]
  refine k_iconst i_52_3 ?_
  refine k_istore i_52_4 (Nat.le_of_ble_eq_true rfl) ?_
  dsimp only [q_st1, q_st2, q_unl]
  exact l_turning hR c but hc hb ho 4 0 (by omega)
-- method 51: StraightTax$Ways.straightOn.(III)I
theorem l_straightOn (hW : WX I X h0 s0 w T nt) (c0 q : Int) (hq : 0 ≤ q ∧ q < 4) (dn : Nat) (hn : ∀ j : Nat, j < 80 → 0 ≤ I 36 j ∧ I 36 j ≤ 1073741824) : ∀ (m r : Nat) (c least : Int), r + m = 5 → dn < r → (0 ≤ c ∧ c < 20) → (0 ≤ least ∧ least ≤ 1073741824) → K shX (d + 2) 51 12 [some (.ref 32), some (.int (J c0)), some (.int (J q)), some (.int (J (dn : Int))), some (.int (J least)), some (.int (J c)), some (.int (J (r : Int)))] [] (I, X) (fun r1 S2 => r1 = some (.int (J (min least (wt T nt (r - 1) - wt T nt dn + sO T nt (pt (I 36)) q m c)))) ∧ S2 = (I, X)) := by
  obtain ⟨hR, hw4, hT, hX, hnt, h01, hOK, hwt⟩ := id hW
  obtain ⟨s1, s2, s3, r1, r2, a0, a1, a2, a3, a4, a5, a6, ag⟩ := id hT
  have hw := hOK.1
  intro m
  induction m with
  | zero =>
    intro r c least hrm hdr hc hl
    have e : r = 5 := by omega
    subst e
    have h1 := wt_range hw nt 4 (by omega)
    have h2 : wt T nt dn ≤ wt T nt 4 := by
      have : ∀ a b : Nat, a + b ≤ 4 → wt T nt a ≤ wt T nt (a + b) := by
        intro a b
        induction b with
        | zero => intro _; exact Int.le_refl _
        | succ b ih =>
          intro hb
          have h3 := ih (by omega)
          have h4 := wt_S T nt (a + b)
          have h5 := tPrice4 hw (nt := nt) (r := ((a + b : Nat) : Int) + 1) (by omega)
          rw [show a + (b + 1) = (a + b) + 1 by omega, h4]
          unfold W1
          omega
      have h6 := this dn (4 - dn) (by omega)
      rw [show dn + (4 - dn) = 4 by omega] at h6
      exact h6
    refine k_iload i_51_12 rfl ?_
    refine k_iconst i_51_14 ?_
    refine k_ic_gt (t := 93) i_51_15 rfl (by omega) (by omega) (fun h => ?_) (fun h => ?_)
    · refine k_iload i_51_93 rfl ?_
      refine k_iret i_51_95 qt_51 ?_
      refine ⟨?_, rfl⟩
      rw [show (5 - 1 : Nat) = 4 from rfl, show sO T nt (pt (I 36)) q 0 c = 1073741824 from rfl, Int.min_eq_left (by omega)]
    · omega
  | succ m ih =>
    intro r c least hrm hdr hc hl
    have hN := tN_le hw
    have har := tAh_range hw c q
    have hmono : wt T nt dn ≤ wt T nt (r - 1) := by
      have : ∀ a b : Nat, a + b ≤ 4 → wt T nt a ≤ wt T nt (a + b) := by
        intro a b
        induction b with
        | zero => intro _; exact Int.le_refl _
        | succ b ih =>
          intro hb
          have h3 := ih (by omega)
          have h4 := wt_S T nt (a + b)
          have h5 := tPrice4 hw (nt := nt) (r := ((a + b : Nat) : Int) + 1) (by omega)
          rw [show a + (b + 1) = (a + b) + 1 by omega, h4]
          unfold W1
          omega
      have h6 := this dn (r - 1 - dn) (by omega)
      rw [show dn + (r - 1 - dn) = r - 1 by omega] at h6
      exact h6
    have hS := wt_S T nt (r - 1)
    rw [show r - 1 + 1 = r by omega, show ((r - 1 : Nat) : Int) + 1 = 4 - (m : Int) by omega] at hS
    have hr1 := wt_range hw nt r (by omega)
    have hr0 := wt_range hw nt (r - 1) (by omega)
    have hrd := wt_range hw nt dn (by omega)
    have hsl := sO_le (T := T) (nt := nt) (N := pt (I 36)) (q := q) m (tAh T c q)
    have hW1 : 0 < W1 T nt (4 - (m : Int)) := by
      have h5 := tPrice4 hw (nt := nt) (r := 4 - (m : Int)) (by omega)
      unfold W1; omega
    refine k_iload i_51_12 rfl ?_
    refine k_iconst i_51_14 ?_
    refine k_ic_gt (t := 93) i_51_15 rfl (by omega) (by omega) (fun h => ?_) (fun h => ?_)
    · omega
    · refine k_aload_n i_51_18 rfl ?_
      refine k_gfR i_51_19 f_10_12 (by first | rfl | assumption | (rw [hR]; rfl) | (dsimp only; rw [hR]; rfl)) (by decide) (by decide) (Or.inl ⟨_, rfl⟩) (by first | rfl | assumption | (rw [hR]; rfl) | (dsimp only; rw [hR]; rfl)) ?_
      refine k_iload i_51_22 rfl ?_
      refine k_iload_n i_51_24 rfl ?_
      refine k_vp2 i_51_25 c_10_56 qp_32 qo_32 (by first | rfl | assumption | (rw [hR]; rfl) | (dsimp only; rw [hR]; rfl)) (Nat.le_of_ble_eq_true rfl) (e_ahead hT hX _ _ (by omega) (by omega)) ?_
      refine k_istore i_51_28 (Nat.le_of_ble_eq_true rfl) ?_
      dsimp only [q_st1, q_st2, q_unl]
      refine k_iload i_51_30 rfl ?_
      refine k_iconst i_51_32 ?_
      refine k_ic_ne (t := 39) i_51_33 rfl (by omega) (by omega) (fun g => ?_) (fun g => ?_)
      · have hn1 := hn (tAh T c q * 4 + q).toNat (by omega)
        refine k_iload i_51_39 rfl ?_
        refine k_aload_n i_51_41 rfl ?_
        refine k_gfR i_51_42 f_10_30 (by first | rfl | assumption | (rw [hR]; rfl) | (dsimp only; rw [hR]; rfl)) (by decide) (by decide) (Or.inr ⟨_, rfl⟩) (by first | rfl | assumption | (rw [hR]; rfl) | (dsimp only; rw [hR]; rfl)) ?_
        refine k_iload i_51_45 rfl ?_
        refine k_iald i_51_47 rfl (by decide) (by omega) (by omega) ?_
        rw [show (I, X).1 34 ((r : Int)).toNat = wt T nt r from by rw [show ((r : Int)).toNat = r by omega]; exact (hwt r (by omega)).2]
        refine k_aload_n i_51_48 rfl ?_
        refine k_gfR i_51_49 f_10_30 (by first | rfl | assumption | (rw [hR]; rfl) | (dsimp only; rw [hR]; rfl)) (by decide) (by decide) (Or.inr ⟨_, rfl⟩) (by first | rfl | assumption | (rw [hR]; rfl) | (dsimp only; rw [hR]; rfl)) ?_
        refine k_iload_n i_51_52 rfl ?_
        refine k_iald i_51_53 rfl (by decide) (by omega) (by omega) ?_
        rw [show (I, X).1 34 ((dn : Int)).toNat = wt T nt dn from by rw [show ((dn : Int)).toNat = dn by omega]; exact (hwt dn (by omega)).2]
        refine k_isub i_51_54 ?_
        refine k_aload_n i_51_55 rfl ?_
        refine k_gfR i_51_56 f_10_36 (by first | rfl | assumption | (rw [hR]; rfl) | (dsimp only; rw [hR]; rfl)) (by decide) (by decide) (Or.inr ⟨_, rfl⟩) (by first | rfl | assumption | (rw [hR]; rfl) | (dsimp only; rw [hR]; rfl)) ?_
        refine k_iload i_51_59 rfl ?_
        refine k_iconst i_51_61 ?_
        refine k_imul i_51_62 ?_
        refine k_iload_n i_51_63 rfl ?_
        refine k_iadd i_51_64 ?_
        refine k_iald i_51_65 rfl (by decide) (by omega) (by omega) ?_
        show K shX (d + 2) 51 66 _ (.int (J (I 36 (tAh T c q * 4 + q).toNat)) :: _) _ _
        refine k_iadd i_51_66 ?_
        refine k_sp2 i_51_67 c_10_92 (by decide) qp_155 (Nat.le_of_ble_eq_true rfl) (e_min _ _ (by omega) (by omega)) ?_
        refine k_istore i_51_70 (Nat.le_of_ble_eq_true rfl) ?_
        dsimp only [q_st1, q_st2, q_unl]
        refine k_aload_n i_51_72 rfl ?_
        refine k_gfR i_51_73 f_10_12 (by first | rfl | assumption | (rw [hR]; rfl) | (dsimp only; rw [hR]; rfl)) (by decide) (by decide) (Or.inl ⟨_, rfl⟩) (by first | rfl | assumption | (rw [hR]; rfl) | (dsimp only; rw [hR]; rfl)) ?_
        refine k_iload i_51_76 rfl ?_
        refine k_vp1 i_51_78 c_10_86 qp_34 qo_34 (by first | rfl | assumption | (rw [hR]; rfl) | (dsimp only; rw [hR]; rfl)) (Nat.le_of_ble_eq_true rfl) (e_isElbow hT hw _ (by omega)) ?_
        have hsO : sO T nt (pt (I 36)) q (m + 1) c = min 1073741824 (W1 T nt (4 - (m : Int)) + min (I 36 (tAh T c q * 4 + q).toNat) (if tElb T (tAh T c q) = true then 1073741824 else sO T nt (pt (I 36)) q m (tAh T c q))) := by
          show (if tAh T c q < 0 then 1073741824 else _) = _
          rw [if_neg (by omega)]; rfl
        rw [hsO]
        refine k_if_eqB (t := 87) i_51_81 rfl (fun h => ?_) (fun h => ?_)
        · refine k_iinc i_51_87 rfl (Nat.le_of_ble_eq_true rfl) ?_
          dsimp only [q_st1, q_st2, q_unl]
          refine k_goto (t := 12) i_51_90 rfl ?_
          refine (ih (r + 1) (tAh T c q) _ (by omega) (by omega) (by omega) (by omega)).mono (fun r1 S2 hh => ?_)
          refine ⟨?_, hh.2⟩
          rw [hh.1, h]
          congr 3
          simp only [show (r + 1 - 1 : Nat) = r by omega, Bool.false_eq_true, if_false]
          omega
        · refine k_goto (t := 93) i_51_84 rfl ?_
          refine k_iload i_51_93 rfl ?_
          refine k_iret i_51_95 qt_51 ?_
          refine ⟨?_, rfl⟩
          rw [h]
          congr 3
          simp only [if_true]
          omega
      · refine k_goto (t := 93) i_51_36 rfl ?_
        refine k_iload i_51_93 rfl ?_
        refine k_iret i_51_95 qt_51 ?_
        refine ⟨?_, rfl⟩
        have hsO : sO T nt (pt (I 36)) q (m + 1) c = 1073741824 := by
          show (if tAh T c q < 0 then 1073741824 else _) = _
          rw [if_pos (by omega)]
        rw [hsO, Int.min_eq_left (by omega)]
theorem e_straightOn (hW : WX I X h0 s0 w T nt) (c q : Int) (hc : 0 ≤ c ∧ c < 20) (hq : 0 ≤ q ∧ q < 4) (dn : Nat) (hd4 : dn ≤ 4) (hn : ∀ j : Nat, j < 80 → 0 ≤ I 36 j ∧ I 36 j ≤ 1073741824) : KP shX (d + 2) 51 [.ref 32, .int (J c), .int (J q), .int (J (dn : Int))] (I, X) (.int (J (sO T nt (pt (I 36)) q (4 - dn) c))) := by
  have hsl := sO_le (T := T) (nt := nt) (N := pt (I 36)) (q := q) (4 - dn) c
  refine k_start ql_51 (Nat.le_of_ble_eq_true rfl) ?_
  simp only [q_en, List.replicate]
  refine k_ldc (a := 1073741824) i_51_0 n_10_64 (by decide) ?_
  refine k_istore i_51_2 (Nat.le_of_ble_eq_true rfl) ?_
  dsimp only [q_st1, q_st2, q_unl]
  refine k_iload_n i_51_4 rfl ?_
  refine k_istore i_51_5 (Nat.le_of_ble_eq_true rfl) ?_
  dsimp only [q_st1, q_st2, q_unl]
  refine k_iload_n i_51_7 rfl ?_
  refine k_iconst i_51_8 ?_
  refine k_iadd i_51_9 ?_
  refine k_istore i_51_10 (Nat.le_of_ble_eq_true rfl) ?_
  dsimp only [q_st1, q_st2, q_unl]
  refine (l_straightOn hW c q hq dn hn (4 - dn) (dn + 1) c 1073741824 (by omega) (by omega) hc (by omega)).mono (fun r1 S2 hh => ⟨?_, hh.2⟩)
  rw [hh.1]
  congr 3
  rw [show dn + 1 - 1 = dn by omega]
  omega
end WY
