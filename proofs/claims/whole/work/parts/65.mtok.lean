/-! TOKENS: how the reference reads them -/
def hsh (b : Nat → Int) (q : Nat) : Nat → Int
  | 0 => 0
  | m + 1 => 32 * hsh b q m + (b (q + m) - 96)
theorem hsh_r {b : Nat → Int} {q : Nat} : ∀ m, m ≤ 7 → (∀ i, i < m → 97 ≤ b (q + i) ∧ b (q + i) ≤ 122) → 0 ≤ hsh b q m ∧ hsh b q m < 32 ^ m ∧ (0 < m → 0 < hsh b q m)
  | 0, _, _ => ⟨by unfold hsh; omega, by unfold hsh; decide, fun h => absurd h (Nat.lt_irrefl 0)⟩
  | m + 1, hm, h => by
    have ih := hsh_r m (by omega) (fun i hi => h i (by omega))
    have h1 := h m (by omega)
    unfold hsh
    rw [Int.pow_succ]
    omega
theorem hsh_eq {b w : Nat → Int} {q : Nat} : ∀ m k, m ≤ 7 → k ≤ 7 → (∀ i, i < m → 97 ≤ b (q + i) ∧ b (q + i) ≤ 122) → (∀ i, i < k → 97 ≤ w i ∧ w i ≤ 122) → (hsh b q m = hsh w 0 k ↔ m = k ∧ ∀ i, i < k → b (q + i) = w i)
  | 0, 0, _, _, _, _ => ⟨fun _ => ⟨rfl, fun i hi => absurd hi (Nat.not_lt_zero i)⟩, fun _ => rfl⟩
  | 0, k + 1, _, hk, _, h2 => by
    have h3 := hsh_r (b := w) (q := 0) (k + 1) hk (fun i hi => by rw [Nat.zero_add]; exact h2 i hi)
    constructor
    · intro h
      have := h3.2.2 (by omega)
      rw [← h] at this
      unfold hsh at this
      omega
    · intro h; omega
  | m + 1, 0, hm, _, h1, _ => by
    have h3 := hsh_r (b := b) (q := q) (m + 1) hm h1
    constructor
    · intro h
      have := h3.2.2 (by omega)
      rw [h] at this
      unfold hsh at this
      omega
    · intro h; omega
  | m + 1, k + 1, hm, hk, h1, h2 => by
    have ih := hsh_eq m k (by omega) (by omega) (fun i hi => h1 i (by omega)) (fun i hi => h2 i (by omega))
    have l1 := h1 m (by omega)
    have l2 := h2 k (by omega)
    have e1 : hsh b q (m + 1) = 32 * hsh b q m + (b (q + m) - 96) := rfl
    have e2 : hsh w 0 (k + 1) = 32 * hsh w 0 k + (w k - 96) := by
      show 32 * hsh w 0 k + (w (0 + k) - 96) = _
      rw [Nat.zero_add]
    rw [e1, e2]
    constructor
    · intro h
      have h3 : hsh b q m = hsh w 0 k := by omega
      obtain ⟨h4, h5⟩ := ih.mp h3
      subst h4
      refine ⟨rfl, fun i hi => ?_⟩
      by_cases y : i = m
      · subst y
        omega
      · exact h5 i (by omega)
    · rintro ⟨h3, h4⟩
      have h5 := ih.mpr ⟨by omega, fun i hi => h4 i (by omega)⟩
      have h6 := h4 k (by omega)
      rw [show m = k by omega] at h5 ⊢
      omega
def wC (z : Nat) : Int := hsh (wc z) 0 (wz z).length
theorem wC_val : wC 0 = 671470 ∧ wC 1 = 8902245 ∧ wC 2 = 5638647 ∧ wC 3 = 20536 ∧ wC 4 = 150636933 ∧ wC 5 = 8441477 := by decide +kernel
theorem wC_inj : ∀ z, z < 6 → ∀ y, y < 6 → wC z = wC y → z = y := by decide +kernel
section MK
variable {b : Nat → Int} {L q : Nat}
theorem wd_lt {i : Nat} (hq : q ≤ L) (h : i < wdE b L q - q) : 97 ≤ b (q + i) ∧ b (q + i) ≤ 122 := by
  have h1 := rn_mem (P := isLt) (b := b) (L - q) q (q + i) (by omega) (by unfold wdE at h; omega)
  unfold isLt at h1
  simpa using h1
/-- what takeLetters answers -/
def wH (b : Nat → Int) (L q : Nat) : Int := hsh b q (min (wdE b L q - q) 7)
theorem wH_r (hq : q ≤ L) : 0 ≤ wH b L q ∧ wH b L q < 34359738368 := by
  have h := hsh_r (b := b) (q := q) (min (wdE b L q - q) 7) (by omega) (fun i hi => wd_lt hq (by omega))
  have h2 : ∀ m, m < 8 → (32 : Int) ^ m ≤ 34359738368 := by decide
  have h3 := h2 (min (wdE b L q - q) 7) (by omega)
  unfold wH
  omega
theorem wH_iff (hq : q ≤ L) {z : Nat} (hz : z < 6) : wH b L q = wC z ↔ isW z b q (wdE b L q) = true := by
  have hl := wz_len z hz
  have h := hsh_eq (b := b) (w := wc z) (q := q) (min (wdE b L q - q) 7) (wz z).length (by omega) (by omega) (fun i hi => wd_lt hq (by omega)) (fun i hi => (wz_ch z hz i hi).2)
  unfold wH wC isW
  rw [h, decide_eq_true_iff]
  constructor
  · rintro ⟨h1, h2⟩; exact ⟨by omega, h2⟩
  · rintro ⟨h1, h2⟩; exact ⟨by omega, h2⟩
theorem isW_ex (hq : q ≤ L) {z y : Nat} (hz : z < 6) (hy : y < 6) (h1 : isW z b q (wdE b L q) = true) (h2 : isW y b q (wdE b L q) = true) : z = y := wC_inj z hz y hy (by rw [← (wH_iff hq hz).mpr h1, (wH_iff hq hy).mpr h2])
theorem isW_lt (hq : q < L) {z : Nat} (hz : z < 6) (h : isW z b q (wdE b L q) = true) : isLt (b q) = true := by
  have hl := wz_len z hz
  unfold isW at h
  rw [decide_eq_true_iff] at h
  have := wd_lt (b := b) (L := L) (q := q) (i := 0) (by omega) (by omega)
  unfold isLt
  exact decide_eq_true this
theorem kQ_w (hq : q < L) {z : Nat} (hz : z < 6) (h : isW z b q (wdE b L q) = true) : kQ b L q = 4 + (z : Int) := by
  have h1 := isW_lt hq hz h
  have h2 : 97 ≤ b q ∧ b q ≤ 122 := by unfold isLt at h1; simpa using h1
  have no : ∀ y, y < 6 → y ≠ z → ¬ isW y b q (wdE b L q) = true := fun y hy hn h3 => hn (isW_ex (by omega) hy hz h3 h)
  unfold kQ
  rw [if_neg (by omega), if_neg (by omega), if_pos h1]
  unfold wkd
  have hz6 : z = 0 ∨ z = 1 ∨ z = 2 ∨ z = 3 ∨ z = 4 ∨ z = 5 := by omega
  rcases hz6 with rfl | rfl | rfl | rfl | rfl | rfl
  · rw [if_pos h]; rfl
  · rw [if_neg (no 0 (by omega) (by omega)), if_pos h]; rfl
  · rw [if_neg (no 0 (by omega) (by omega)), if_neg (no 1 (by omega) (by omega)), if_pos h]; rfl
  · rw [if_neg (no 0 (by omega) (by omega)), if_neg (no 1 (by omega) (by omega)), if_neg (no 2 (by omega) (by omega)), if_pos h]; rfl
  · rw [if_neg (no 0 (by omega) (by omega)), if_neg (no 1 (by omega) (by omega)), if_neg (no 2 (by omega) (by omega)), if_neg (no 3 (by omega) (by omega)), if_pos h]; rfl
  · rw [if_neg (no 0 (by omega) (by omega)), if_neg (no 1 (by omega) (by omega)), if_neg (no 2 (by omega) (by omega)), if_neg (no 3 (by omega) (by omega)), if_neg (no 4 (by omega) (by omega)), if_pos h]; rfl
theorem eQ_w (hq : q < L) {z : Nat} (hz : z < 6) (h : isW z b q (wdE b L q) = true) : eQ b L q = wdE b L q := by
  have h1 := isW_lt hq hz h
  have h2 : 97 ≤ b q ∧ b q ≤ 122 := by unfold isLt at h1; simpa using h1
  unfold eQ
  rw [if_neg (by omega), if_neg (by omega), if_pos h1]
theorem kQ_no (hq : q < L) (h : ∀ z, z < 6 → ¬ isW z b q (wdE b L q) = true) : kQ b L q < 4 := by
  unfold kQ wkd
  rw [if_neg (by omega), if_neg (h 0 (by omega)), if_neg (h 1 (by omega)), if_neg (h 2 (by omega)), if_neg (h 3 (by omega)), if_neg (h 4 (by omega)), if_neg (h 5 (by omega))]
  repeat' split
  all_goals omega
theorem skp_2 {p : Nat} (hp : p ≤ L) : skp b L (skp b L p) = skp b L p := by
  have h := skp_r b hp
  have hs := rn_stop (P := isBl) (b := b) (L - p) p
  have e : rn isBl b (L - p) p = skp b L p := rfl
  rw [e] at hs
  conv => lhs; unfold skp
  by_cases y : skp b L p < L
  · rw [e, show L - skp b L p = (L - skp b L p - 1) + 1 by omega]
    unfold rn
    rw [if_neg (by rw [hs (by omega)]; decide)]
  · rw [e, show L - skp b L p = 0 by omega]
    rfl
end MK
/-- the reference holds a text -/
def MC (I : Nat → Nat → Int) (b : Nat → Int) (L : Nat) : Prop := I 0 10 = (L : Int) ∧ L ≤ 200 ∧ (∀ i, i < L → 0 ≤ b i ∧ b i < 256) ∧ ∀ i, i < L → I 1 i = b i
section ML
variable {d : Nat} {I : Nat → Nat → Int} {X : XX} {b : Nat → Int} {L q p : Nat} {Q : Option Value → QS → Prop}
-- method 103: StraightTaxModel.isEnd.()Z
theorem l_isEnd (hR : X.2 = rM) (hC : MC I b L) : ∀ m p : Nat, p + m = L → K shM d 103 0 [some (.ref 0)] [] (q_up I 0 24 (p : Int), X) (fun r S2 => r = some (.int (J (bi (decide (L ≤ rn isBl b m p))))) ∧ S2 = (q_up I 0 24 ((rn isBl b m p : Nat) : Int), X)) := by
  obtain ⟨c1, c2, c3, c4⟩ := hC
  have fin : ∀ q : Nat, q ≤ L → K shM d 103 38 [some (.ref 0)] [] (q_up I 0 24 (q : Int), X) (fun r S2 => r = some (.int (J (bi (decide (L ≤ q))))) ∧ S2 = (q_up I 0 24 (q : Int), X)) := by
    intro q hq
    refine k_aload_n i_103_38 rfl ?_
    refine k_gfV (a := (q : Int)) i_103_39 f_12_94 (by first | rfl | assumption | (rw [hR]; rfl) | (dsimp only; rw [hR]; rfl)) (by decide) (by decide) (Or.inl rfl) (by dsimp only; exact q_up_s) ?_
    refine k_aload_n i_103_42 rfl ?_
    refine k_gfV (a := (L : Int)) i_103_43 f_12_89 (by first | rfl | assumption | (rw [hR]; rfl) | (dsimp only; rw [hR]; rfl)) (by decide) (by decide) (Or.inl rfl) (by dsimp only; exact (q_up_n (by omega)).trans c1) ?_
    refine k_ic_ne (t := 53) i_103_46 rfl (by omega) (by omega) (fun h => ?_) (fun h => ?_)
    · rw [decide_eq_false (by omega)]
      refine k_iconst i_103_53 ?_
      refine k_nret i_103_54 qt_103 (by first | exact bi_nar _ | rfl) ?_
      exact ⟨rfl, rfl⟩
    · rw [decide_eq_true (by omega)]
      refine k_iconst i_103_49 ?_
      refine k_goto (t := 54) i_103_50 rfl ?_
      refine k_nret i_103_54 qt_103 (by first | exact bi_nar _ | rfl) ?_
      exact ⟨rfl, rfl⟩
  intro m
  induction m with
  | zero =>
    intro p hp
    refine k_aload_n i_103_0 rfl ?_
    refine k_gfV (a := (p : Int)) i_103_1 f_12_94 (by first | rfl | assumption | (rw [hR]; rfl) | (dsimp only; rw [hR]; rfl)) (by decide) (by decide) (Or.inl rfl) (by dsimp only; exact q_up_s) ?_
    refine k_aload_n i_103_4 rfl ?_
    refine k_gfV (a := (L : Int)) i_103_5 f_12_89 (by first | rfl | assumption | (rw [hR]; rfl) | (dsimp only; rw [hR]; rfl)) (by decide) (by decide) (Or.inl rfl) (by dsimp only; exact (q_up_n (by omega)).trans c1) ?_
    refine k_ic_ge (t := 38) i_103_8 rfl (by omega) (by omega) (fun g => ?_) (fun g => ?_)
    · exact fin p (by omega)
    · omega
  | succ m ih =>
    intro p hp
    have hb := c3 p (by omega)
    refine k_aload_n i_103_0 rfl ?_
    refine k_gfV (a := (p : Int)) i_103_1 f_12_94 (by first | rfl | assumption | (rw [hR]; rfl) | (dsimp only; rw [hR]; rfl)) (by decide) (by decide) (Or.inl rfl) (by dsimp only; exact q_up_s) ?_
    refine k_aload_n i_103_4 rfl ?_
    refine k_gfV (a := (L : Int)) i_103_5 f_12_89 (by first | rfl | assumption | (rw [hR]; rfl) | (dsimp only; rw [hR]; rfl)) (by decide) (by decide) (Or.inl rfl) (by dsimp only; exact (q_up_n (by omega)).trans c1) ?_
    refine k_ic_ge (t := 38) i_103_8 rfl (by omega) (by omega) (fun g => ?_) (fun g => ?_)
    · omega
    · refine k_aload_n i_103_11 rfl ?_
      refine k_gfR i_103_12 f_12_25 (by first | rfl | assumption | (rw [hR]; rfl) | (dsimp only; rw [hR]; rfl)) (by decide) (by decide) (Or.inr ⟨_, rfl⟩) (by first | rfl | assumption | (rw [hR]; rfl) | (dsimp only; rw [hR]; rfl)) ?_
      refine k_aload_n i_103_15 rfl ?_
      refine k_gfV (a := (p : Int)) i_103_16 f_12_94 (by first | rfl | assumption | (rw [hR]; rfl) | (dsimp only; rw [hR]; rfl)) (by decide) (by decide) (Or.inl rfl) (by dsimp only; exact q_up_s) ?_
      refine k_ialV (a := (b p)) i_103_19 (by first | rfl | assumption | (rw [hR]; rfl) | (dsimp only; rw [hR]; rfl)) (by decide) (by omega) (by omega) (by dsimp only; rw [q_up_o (by omega), show ((p : Int)).toNat = p by omega]; exact c4 p (by omega)) ?_
      refine k_bipush i_103_20 (by decide) ?_
      unfold rn isBl
      refine k_ic_ne (t := 38) i_103_22 rfl (by omega) (by omega) (fun g2 => ?_) (fun g2 => ?_)
      · rw [if_neg (by simpa using g2)]
        exact fin p (by omega)
      · rw [if_pos (by simpa using g2)]
        refine k_aload_n i_103_25 rfl ?_
        first | refine k_dupA i_103_26 ?_ | refine k_dupI i_103_26 ?_
        refine k_gfV (a := (p : Int)) i_103_27 f_12_94 (by first | rfl | assumption | (rw [hR]; rfl) | (dsimp only; rw [hR]; rfl)) (by decide) (by decide) (Or.inl rfl) (by dsimp only; exact q_up_s) ?_
        refine k_iconst i_103_30 ?_
        refine k_iadd i_103_31 ?_
        refine k_pfI i_103_32 f_12_94 (by first | rfl | assumption | (rw [hR]; rfl) | (dsimp only; rw [hR]; rfl)) (by decide) rfl ?_
        dsimp only
        rw [q_up_up]
        refine k_goto (t := 0) i_103_35 rfl ?_
        exact ih (p + 1) (by omega)
theorem m_isEnd (hR : X.2 = rM) (hC : MC I b L) (hp : I 0 24 = (p : Int)) (hpL : p ≤ L) : KC shM d 103 [.ref 0] (I, X) (fun r S2 => r = some (.int (J (bi (decide (L ≤ skp b L p))))) ∧ S2 = (q_up I 0 24 ((skp b L p : Nat) : Int), X)) := by
  have h1 := l_isEnd (d := d) (X := X) hR hC (L - p) p (by omega)
  rw [q_up_id hp] at h1
  refine k_start ql_103 (Nat.le_of_ble_eq_true rfl) ?_
  simp only [q_en, List.replicate]
  exact h1
-- method 105: StraightTaxModel.takeLetters.()J
theorem l_letters (hR : X.2 = rM) (hC : MC I b L) (hqL : q ≤ L) : ∀ m k : Nat, q + k + m = L → (∀ i, i < k → 97 ≤ b (q + i) ∧ b (q + i) ≤ 122) → K shM (d + 1) 105 7 [some (.ref 0), some (.long (JL (hsh b q (min k 7)))), none, some (.int (J (q : Int)))] [] (q_up I 0 24 ((q + k : Nat) : Int), X) (fun r S2 => r = some (.long (JL (hsh b q (min (rn isLt b m (q + k) - q) 7)))) ∧ S2 = (q_up I 0 24 ((rn isLt b m (q + k) : Nat) : Int), X)) := by
  obtain ⟨c1, c2, c3, c4⟩ := hC
  intro m
  induction m with
  | zero =>
    intro k hk ha
    unfold rn
    rw [show q + k - q = k by omega]
    refine k_aload_n i_105_7 rfl ?_
    refine k_gfV (a := ((q + k : Nat) : Int)) i_105_8 f_12_94 (by first | rfl | assumption | (rw [hR]; rfl) | (dsimp only; rw [hR]; rfl)) (by decide) (by decide) (Or.inl rfl) (by dsimp only; exact q_up_s) ?_
    refine k_aload_n i_105_11 rfl ?_
    refine k_gfV (a := (L : Int)) i_105_12 f_12_89 (by first | rfl | assumption | (rw [hR]; rfl) | (dsimp only; rw [hR]; rfl)) (by decide) (by decide) (Or.inl rfl) (by dsimp only; exact (q_up_n (by omega)).trans c1) ?_
    refine k_ic_ge (t := 89) i_105_15 rfl (by omega) (by omega) (fun g => ?_) (fun g => ?_)
    · refine k_lload_n i_105_89 rfl ?_
      refine k_lret i_105_90 qt_105 ?_
      exact ⟨rfl, rfl⟩
    · omega
  | succ m ih =>
    intro k hk ha
    have hb := c3 (q + k) (by omega)
    have hby : q_up I 0 24 ((q + k : Nat) : Int) 1 (q + k) = b (q + k) := by rw [q_up_o (by omega)]; exact c4 (q + k) (by omega)
    have hhr := hsh_r (b := b) (q := q) (min k 7) (by omega) (fun i hi => ha i (by omega))
    refine k_aload_n i_105_7 rfl ?_
    refine k_gfV (a := ((q + k : Nat) : Int)) i_105_8 f_12_94 (by first | rfl | assumption | (rw [hR]; rfl) | (dsimp only; rw [hR]; rfl)) (by decide) (by decide) (Or.inl rfl) (by dsimp only; exact q_up_s) ?_
    refine k_aload_n i_105_11 rfl ?_
    refine k_gfV (a := (L : Int)) i_105_12 f_12_89 (by first | rfl | assumption | (rw [hR]; rfl) | (dsimp only; rw [hR]; rfl)) (by decide) (by decide) (Or.inl rfl) (by dsimp only; exact (q_up_n (by omega)).trans c1) ?_
    refine k_ic_ge (t := 89) i_105_15 rfl (by omega) (by omega) (fun g => ?_) (fun g => ?_)
    · omega
    · refine k_aload_n i_105_18 rfl ?_
      refine k_gfR i_105_19 f_12_25 (by first | rfl | assumption | (rw [hR]; rfl) | (dsimp only; rw [hR]; rfl)) (by decide) (by decide) (Or.inr ⟨_, rfl⟩) (by first | rfl | assumption | (rw [hR]; rfl) | (dsimp only; rw [hR]; rfl)) ?_
      refine k_aload_n i_105_22 rfl ?_
      refine k_gfV (a := ((q + k : Nat) : Int)) i_105_23 f_12_94 (by first | rfl | assumption | (rw [hR]; rfl) | (dsimp only; rw [hR]; rfl)) (by decide) (by decide) (Or.inl rfl) (by dsimp only; exact q_up_s) ?_
      refine k_ialV (a := (b (q + k))) i_105_26 (by first | rfl | assumption | (rw [hR]; rfl) | (dsimp only; rw [hR]; rfl)) (by decide) (by omega) (by omega) (by dsimp only; rw [show (((q + k : Nat) : Int)).toNat = q + k by omega]; exact hby) ?_
      refine k_i2lJ i_105_27 (by omega) ?_
      refine k_ldc2J (a := 97) i_105_28 l_12_112 (by decide) ?_
      refine k_ldc2J (a := 122) i_105_31 l_12_114 (by decide) ?_
      refine k_sp3 i_105_34 c_12_72 (by decide) qp_100 (Nat.le_of_ble_eq_true rfl) (m_in _ _ _ (by omega) (by omega) (by omega)) ?_
      unfold rn isLt
      refine k_if_eqB (t := 89) i_105_37 rfl (fun h => ?_) (fun h => ?_)
      · rw [if_neg (by rw [h]; decide), show q + k - q = k by omega]
        refine k_lload_n i_105_89 rfl ?_
        refine k_lret i_105_90 qt_105 ?_
        exact ⟨rfl, rfl⟩
      · rw [if_pos h]
        have hlt : 97 ≤ b (q + k) ∧ b (q + k) ≤ 122 := by simpa using h
        have nxt : ∀ v : Int64, v = JL (hsh b q (min (k + 1) 7)) → K shM (d + 1) 105 75 [some (.ref 0), some (.long (JL (hsh b q (min k 7)))), none, some (.int (J (q : Int)))] [.long v] (q_up I 0 24 ((q + k : Nat) : Int), X) (fun r S2 => r = some (.long (JL (hsh b q (min (rn isLt b m (q + k + 1) - q) 7)))) ∧ S2 = (q_up I 0 24 ((rn isLt b m (q + k + 1) : Nat) : Int), X)) := by
          intro v hv
          subst hv
          refine k_lstore_n i_105_75 (Nat.le_of_ble_eq_true rfl) ?_
          dsimp only [q_st1, q_st2, q_unl]
          refine k_aload_n i_105_76 rfl ?_
          first | refine k_dupA i_105_77 ?_ | refine k_dupI i_105_77 ?_
          refine k_gfV (a := ((q + k : Nat) : Int)) i_105_78 f_12_94 (by first | rfl | assumption | (rw [hR]; rfl) | (dsimp only; rw [hR]; rfl)) (by decide) (by decide) (Or.inl rfl) (by dsimp only; exact q_up_s) ?_
          refine k_iconst i_105_81 ?_
          refine k_iadd i_105_82 ?_
          refine k_pfI i_105_83 f_12_94 (by first | rfl | assumption | (rw [hR]; rfl) | (dsimp only; rw [hR]; rfl)) (by decide) rfl ?_
          dsimp only
          rw [q_up_up]
          refine k_goto (t := 7) i_105_86 rfl ?_
          exact ih (k + 1) (by omega) (fun i hi => by
            by_cases y : i = k
            · rw [y]; exact hlt
            · exact ha i (by omega))
        refine k_aload_n i_105_40 rfl ?_
        refine k_gfV (a := ((q + k : Nat) : Int)) i_105_41 f_12_94 (by first | rfl | assumption | (rw [hR]; rfl) | (dsimp only; rw [hR]; rfl)) (by decide) (by decide) (Or.inl rfl) (by dsimp only; exact q_up_s) ?_
        refine k_iload_n i_105_44 rfl ?_
        refine k_isub i_105_45 ?_
        refine k_bipush i_105_46 (by decide) ?_
        refine k_ic_ge (t := 74) i_105_48 rfl (by omega) (by omega) (fun g2 => ?_) (fun g2 => ?_)
        · refine k_lload_n i_105_74 rfl ?_
          exact nxt _ (by rw [show min (k + 1) 7 = min k 7 by omega])
        · refine k_ldc2J (a := 32) i_105_51 l_12_116 (by decide) ?_
          refine k_lload_n i_105_54 rfl ?_
          refine k_lmul i_105_55 ?_
          refine k_aload_n i_105_56 rfl ?_
          refine k_gfR i_105_57 f_12_25 (by first | rfl | assumption | (rw [hR]; rfl) | (dsimp only; rw [hR]; rfl)) (by decide) (by decide) (Or.inr ⟨_, rfl⟩) (by first | rfl | assumption | (rw [hR]; rfl) | (dsimp only; rw [hR]; rfl)) ?_
          refine k_aload_n i_105_60 rfl ?_
          refine k_gfV (a := ((q + k : Nat) : Int)) i_105_61 f_12_94 (by first | rfl | assumption | (rw [hR]; rfl) | (dsimp only; rw [hR]; rfl)) (by decide) (by decide) (Or.inl rfl) (by dsimp only; exact q_up_s) ?_
          refine k_ialV (a := (b (q + k))) i_105_64 (by first | rfl | assumption | (rw [hR]; rfl) | (dsimp only; rw [hR]; rfl)) (by decide) (by omega) (by omega) (by dsimp only; rw [show (((q + k : Nat) : Int)).toNat = q + k by omega]; exact hby) ?_
          refine k_i2lJ i_105_65 (by omega) ?_
          refine k_ladd i_105_66 ?_
          refine k_ldc2J (a := 96) i_105_67 l_12_118 (by decide) ?_
          refine k_lsub i_105_70 ?_
          refine k_goto (t := 75) i_105_71 rfl ?_
          refine nxt _ ?_
          rw [show min (k + 1) 7 = k + 1 by omega, show min k 7 = k by omega]
          show JL 32 * JL (hsh b q k) + JL (b (q + k)) - JL 96 = JL (32 * hsh b q k + (b (q + k) - 96))
          rw [show 32 * hsh b q k + (b (q + k) - 96) = 32 * hsh b q k + b (q + k) - 96 by omega]
          simp only [JL, Int64.ofInt_add, Int64.ofInt_mul, Int64.ofInt_sub]
theorem m_letters (hR : X.2 = rM) (hC : MC I b L) (hp : I 0 24 = (q : Int)) (hqL : q ≤ L) : KC shM (d + 1) 105 [.ref 0] (I, X) (fun r S2 => r = some (.long (JL (wH b L q))) ∧ S2 = (q_up I 0 24 ((wdE b L q : Nat) : Int), X)) := by
  have h1 := l_letters (d := d) (X := X) hR hC hqL (L - q) 0 (by omega) (fun i hi => absurd hi (Nat.not_lt_zero i))
  simp only [Nat.add_zero] at h1
  rw [q_up_id hp] at h1
  refine k_start ql_105 (Nat.le_of_ble_eq_true rfl) ?_
  simp only [q_en, List.replicate]
  refine k_lconstJ (a := 0) i_105_0 rfl ?_
  refine k_lstore_n i_105_1 (Nat.le_of_ble_eq_true rfl) ?_
  dsimp only [q_st1, q_st2, q_unl]
  refine k_aload_n i_105_2 rfl ?_
  refine k_gfV (a := (q : Int)) i_105_3 f_12_94 (by first | rfl | assumption | (rw [hR]; rfl) | (dsimp only; rw [hR]; rfl)) (by decide) (by decide) (Or.inl rfl) (hp) ?_
  refine k_istore_n i_105_6 (Nat.le_of_ble_eq_true rfl) ?_
  dsimp only [q_st1, q_st2, q_unl]
  exact h1
/-- what takeNumber leaves -/
def NPo (b : Nat → Int) (L : Nat) (X : XX) (I : Nat → Nat → Int) (lo hi : Int) (p : Nat) : Option Value → QS → Prop := fun r S2 => (nOK b L lo hi p = true ∧ r = some (.int (J (vP b L p))) ∧ S2 = (q_up I 0 24 ((eP b L p : Nat) : Int), X)) ∨ (nOK b L lo hi p = false ∧ r = some (.int (J lo)) ∧ ∃ a, S2 = (q_up (q_up I 0 24 a) 0 25 ((skp b L p : Nat) : Int), X))
-- method 106: StraightTaxModel.takeNumber.(II)I
theorem m_numF {f : Int} (hf : I 0 25 = f) (hf2 : 0 ≤ f ∧ f ≤ 200) (lo hi : Int) : KC shM d 106 [.ref 0, .int (J lo), .int (J hi)] (I, X) (fun r S2 => r = some (.int (J lo)) ∧ S2 = (I, X)) := by
  refine k_start ql_106 (Nat.le_of_ble_eq_true rfl) ?_
  simp only [q_en, List.replicate]
  refine k_aload_n i_106_0 rfl ?_
  refine k_gfV (a := f) i_106_1 f_12_97 (by first | rfl | assumption | (rw [hR]; rfl) | (dsimp only; rw [hR]; rfl)) (by decide) (by decide) (Or.inl rfl) (hf) ?_
  refine k_if_lt (t := 9) i_106_4 rfl (by omega) (fun h => ?_) (fun h => ?_)
  · omega
  · refine k_iload_n i_106_7 rfl ?_
    refine k_iret i_106_8 qt_106 ?_
    exact ⟨rfl, rfl⟩
theorem l_num (hR : X.2 = rM) (hC : MC I b L) {lo hi q0 : Int} {v5 : Option Value} : ∀ (m p : Nat) (v : Int), p + m = L → 0 ≤ v ∧ v ≤ 1000 → K shM (d + 1) 106 106 [some (.ref 0), some (.int (J lo)), some (.int (J hi)), some (.int (J q0)), some (.int (J (nv b (rn isFg b m p - p) p v))), v5] [] (q_up I 0 24 ((rn isFg b m p : Nat) : Int), X) Q → K shM (d + 1) 106 34 [some (.ref 0), some (.int (J lo)), some (.int (J hi)), some (.int (J q0)), some (.int (J v)), v5] [] (q_up I 0 24 (p : Int), X) Q := by
  obtain ⟨c1, c2, c3, c4⟩ := hC
  intro m
  induction m with
  | zero =>
    intro p v hp hv hk
    unfold rn at hk
    rw [Nat.sub_self] at hk
    refine k_aload_n i_106_34 rfl ?_
    refine k_gfV (a := (p : Int)) i_106_35 f_12_94 (by first | rfl | assumption | (rw [hR]; rfl) | (dsimp only; rw [hR]; rfl)) (by decide) (by decide) (Or.inl rfl) (by dsimp only; exact q_up_s) ?_
    refine k_aload_n i_106_38 rfl ?_
    refine k_gfV (a := (L : Int)) i_106_39 f_12_89 (by first | rfl | assumption | (rw [hR]; rfl) | (dsimp only; rw [hR]; rfl)) (by decide) (by decide) (Or.inl rfl) (by dsimp only; exact (q_up_n (by omega)).trans c1) ?_
    refine k_ic_ge (t := 106) i_106_42 rfl (by omega) (by omega) (fun g => ?_) (fun g => ?_)
    · exact hk
    · omega
  | succ m ih =>
    intro p v hp hv hk
    have hb := c3 p (by omega)
    have hby : q_up I 0 24 (p : Int) 1 p = b p := by rw [q_up_o (by omega)]; exact c4 p (by omega)
    refine k_aload_n i_106_34 rfl ?_
    refine k_gfV (a := (p : Int)) i_106_35 f_12_94 (by first | rfl | assumption | (rw [hR]; rfl) | (dsimp only; rw [hR]; rfl)) (by decide) (by decide) (Or.inl rfl) (by dsimp only; exact q_up_s) ?_
    refine k_aload_n i_106_38 rfl ?_
    refine k_gfV (a := (L : Int)) i_106_39 f_12_89 (by first | rfl | assumption | (rw [hR]; rfl) | (dsimp only; rw [hR]; rfl)) (by decide) (by decide) (Or.inl rfl) (by dsimp only; exact (q_up_n (by omega)).trans c1) ?_
    refine k_ic_ge (t := 106) i_106_42 rfl (by omega) (by omega) (fun g => ?_) (fun g => ?_)
    · omega
    · refine k_aload_n i_106_45 rfl ?_
      refine k_gfR i_106_46 f_12_25 (by first | rfl | assumption | (rw [hR]; rfl) | (dsimp only; rw [hR]; rfl)) (by decide) (by decide) (Or.inr ⟨_, rfl⟩) (by first | rfl | assumption | (rw [hR]; rfl) | (dsimp only; rw [hR]; rfl)) ?_
      refine k_aload_n i_106_49 rfl ?_
      refine k_gfV (a := (p : Int)) i_106_50 f_12_94 (by first | rfl | assumption | (rw [hR]; rfl) | (dsimp only; rw [hR]; rfl)) (by decide) (by decide) (Or.inl rfl) (by dsimp only; exact q_up_s) ?_
      refine k_ialV (a := (b p)) i_106_53 (by first | rfl | assumption | (rw [hR]; rfl) | (dsimp only; rw [hR]; rfl)) (by decide) (by omega) (by omega) (by dsimp only; rw [show ((p : Int)).toNat = p by omega]; exact hby) ?_
      refine k_i2lJ i_106_54 (by omega) ?_
      refine k_ldc2J (a := 48) i_106_55 l_12_104 (by decide) ?_
      refine k_ldc2J (a := 57) i_106_58 l_12_106 (by decide) ?_
      refine k_sp3 i_106_61 c_12_72 (by decide) qp_100 (Nat.le_of_ble_eq_true rfl) (m_in _ _ _ (by omega) (by omega) (by omega)) ?_
      unfold rn at hk
      refine k_if_eqB (t := 106) i_106_64 rfl (fun h => ?_) (fun h => ?_)
      · have h' : isFg (b p) = false := h
        rw [if_neg (by rw [h']; decide), Nat.sub_self] at hk
        exact hk
      · have h' : isFg (b p) = true := h
        rw [if_pos h'] at hk
        have hf : 48 ≤ b p ∧ b p ≤ 57 := by simpa using h
        have hge := rn_ge (P := isFg) (b := b) m (p + 1)
        refine k_bipush i_106_67 (by decide) ?_
        refine k_iload i_106_69 rfl ?_
        refine k_imul i_106_71 ?_
        refine k_aload_n i_106_72 rfl ?_
        refine k_gfR i_106_73 f_12_25 (by first | rfl | assumption | (rw [hR]; rfl) | (dsimp only; rw [hR]; rfl)) (by decide) (by decide) (Or.inr ⟨_, rfl⟩) (by first | rfl | assumption | (rw [hR]; rfl) | (dsimp only; rw [hR]; rfl)) ?_
        refine k_aload_n i_106_76 rfl ?_
        refine k_gfV (a := (p : Int)) i_106_77 f_12_94 (by first | rfl | assumption | (rw [hR]; rfl) | (dsimp only; rw [hR]; rfl)) (by decide) (by decide) (Or.inl rfl) (by dsimp only; exact q_up_s) ?_
        refine k_ialV (a := (b p)) i_106_80 (by first | rfl | assumption | (rw [hR]; rfl) | (dsimp only; rw [hR]; rfl)) (by decide) (by omega) (by omega) (by dsimp only; rw [show ((p : Int)).toNat = p by omega]; exact hby) ?_
        refine k_iadd i_106_81 ?_
        refine k_bipush i_106_82 (by decide) ?_
        refine k_isub i_106_84 ?_
        refine k_sipush i_106_85 (by decide) ?_
        refine k_sp2 i_106_88 c_12_108 (by decide) qp_107 (Nat.le_of_ble_eq_true rfl) (m_lesser _ _ (by omega) (by omega)) ?_
        refine k_istore i_106_91 (Nat.le_of_ble_eq_true rfl) ?_
        dsimp only [q_st1, q_st2, q_unl]
        refine k_aload_n i_106_93 rfl ?_
        first | refine k_dupA i_106_94 ?_ | refine k_dupI i_106_94 ?_
        refine k_gfV (a := (p : Int)) i_106_95 f_12_94 (by first | rfl | assumption | (rw [hR]; rfl) | (dsimp only; rw [hR]; rfl)) (by decide) (by decide) (Or.inl rfl) (by dsimp only; exact q_up_s) ?_
        refine k_iconst i_106_98 ?_
        refine k_iadd i_106_99 ?_
        refine k_pfI i_106_100 f_12_94 (by first | rfl | assumption | (rw [hR]; rfl) | (dsimp only; rw [hR]; rfl)) (by decide) rfl ?_
        dsimp only
        rw [q_up_up]
        refine k_goto (t := 34) i_106_103 rfl ?_
        have e : rn isFg b m (p + 1) - p = rn isFg b m (p + 1) - (p + 1) + 1 := by omega
        rw [e] at hk
        exact ih (p + 1) _ (by omega) (by omega) hk
theorem m_num (hR : X.2 = rM) (hC : MC I b L) (hp : I 0 24 = (p : Int)) (hpL : p ≤ L) (hf : I 0 25 = -9) (lo hi : Int) (hlo : inJ lo) (hhi : inJ hi) : KC shM (d + 1) 106 [.ref 0, .int (J lo), .int (J hi)] (I, X) (NPo b L X I lo hi p) := by
  have hsk := skp_r b hpL
  obtain ⟨c1, c2, c3, c4⟩ := id hC
  refine k_start ql_106 (Nat.le_of_ble_eq_true rfl) ?_
  simp only [q_en, List.replicate]
  refine k_aload_n i_106_0 rfl ?_
  refine k_gfV (a := (-9)) i_106_1 f_12_97 (by first | rfl | assumption | (rw [hR]; rfl) | (dsimp only; rw [hR]; rfl)) (by decide) (by decide) (Or.inl rfl) (hf) ?_
  refine k_if_lt (t := 9) i_106_4 rfl (by omega) (fun h => ?_) (fun h => ?_)
  · refine k_aload_n i_106_9 rfl ?_
    refine k_cv0 i_106_10 c_12_100 qp_103 qo_103 (by first | rfl | assumption | (rw [hR]; rfl) | (dsimp only; rw [hR]; rfl)) (Nat.le_of_ble_eq_true rfl) (m_isEnd hR hC hp hpL) (fun v S2 h => ?_)
    obtain ⟨rfl, rfl⟩ := h
    show K shM (d + 1) 106 13 _ [.int (J (bi (decide (L ≤ skp b L p))))] _ _
    refine k_if_eqB (t := 26) i_106_13 rfl (fun h => ?_) (fun h => ?_)
    · have g : skp b L p < L := by simpa using h
      have hnv := nV_r b L (skp b L p)
      have hfr := fgE_r b hsk.2
      refine k_aload_n i_106_26 rfl ?_
      refine k_gfV (a := ((skp b L p : Nat) : Int)) i_106_27 f_12_94 (by first | rfl | assumption | (rw [hR]; rfl) | (dsimp only; rw [hR]; rfl)) (by decide) (by decide) (Or.inl rfl) (by dsimp only; exact q_up_s) ?_
      refine k_istore_n i_106_30 (Nat.le_of_ble_eq_true rfl) ?_
      dsimp only [q_st1, q_st2, q_unl]
      refine k_iconst i_106_31 ?_
      refine k_istore i_106_32 (Nat.le_of_ble_eq_true rfl) ?_
      dsimp only [q_st1, q_st2, q_unl]
      refine l_num hR hC (L - skp b L p) (skp b L p) 0 (by omega) (by omega) ?_
      show K shM (d + 1) 106 106 [some (.ref 0), some (.int (J lo)), some (.int (J hi)), some (.int (J ((skp b L p : Nat) : Int))), some (.int (J (vP b L p))), none] [] (q_up I 0 24 ((fgE b L (skp b L p) : Nat) : Int), X) (NPo b L X I lo hi p)
      have hv : nV b L (skp b L p) = vP b L p := rfl
      rw [hv] at hnv
      have hek : ∀ x, kP b L p = 3 → x = eP b L p → x = eP b L p := fun x _ h => h
      have hkk : kP b L p = 3 ↔ (skp b L p < fgE b L (skp b L p) ∧ vP b L p < 100 ∧ (fgE b L (skp b L p) - skp b L p = 1 ∨ ¬ b (skp b L p) = 48)) := by
        have hfe : skp b L p < fgE b L (skp b L p) ↔ isFg (b (skp b L p)) = true := by
          have h1 : fgE b L (skp b L p) = if isFg (b (skp b L p)) = true then rn isFg b (L - skp b L p - 1) (skp b L p + 1) else skp b L p := by
            unfold fgE
            conv => lhs; rw [show L - skp b L p = (L - skp b L p - 1) + 1 by omega]
            rfl
          have h2 := rn_ge (P := isFg) (b := b) (L - skp b L p - 1) (skp b L p + 1)
          rw [h1]
          split
          · rename_i y
            exact ⟨fun _ => y, fun _ => by omega⟩
          · rename_i y
            exact ⟨fun h => absurd h (Nat.lt_irrefl _), fun h => absurd h y⟩
        have hfv : isFg (b (skp b L p)) = true ↔ 48 ≤ b (skp b L p) ∧ b (skp b L p) ≤ 57 := by unfold isFg; exact decide_eq_true_iff
        have hlv : isLt (b (skp b L p)) = true ↔ 97 ≤ b (skp b L p) ∧ b (skp b L p) ≤ 122 := by unfold isLt; exact decide_eq_true_iff
        rw [hfe]
        constructor
        · intro h3
          unfold kP kQ wkd at h3
          rw [if_neg (by omega), hv] at h3
          split at h3
          · omega
          · split at h3
            · exfalso
              repeat' split at h3
              all_goals omega
            · split at h3
              · rename_i y1 y2 y3
                split at h3
                · omega
                · rename_i y4
                  refine ⟨y3, by omega, ?_⟩
                  have y5 := hfe.mpr y3
                  by_cases y6 : b (skp b L p) = 48
                  · left; omega
                  · right; exact y6
              · omega
        · rintro ⟨h3, h4, h5⟩
          have h6 := hfv.mp h3
          unfold kP kQ
          rw [if_neg (by omega), if_neg (by omega), if_neg (by rw [hlv]; omega), if_pos h3, hv, if_neg (by omega)]
      have hee : kP b L p = 3 → eP b L p = fgE b L (skp b L p) := by
        intro h3
        have h4 := hkk.mp h3
        have h6 : isFg (b (skp b L p)) = true := rn_mem (P := isFg) (b := b) (L - skp b L p) (skp b L p) (skp b L p) (Nat.le_refl _) (by have := h4.1; unfold fgE at this; exact this)
        have h7 : 48 ≤ b (skp b L p) ∧ b (skp b L p) ≤ 57 := by unfold isFg at h6; simpa using h6
        unfold eP eQ
        rw [if_neg (by omega), if_neg (by omega), if_neg (by unfold isLt; rw [decide_eq_true_iff]; omega), if_pos h6]
      have no : ¬ (kP b L p = 3 ∧ lo ≤ vP b L p ∧ vP b L p ≤ hi) → K shM (d + 1) 106 159 [some (.ref 0), some (.int (J lo)), some (.int (J hi)), some (.int (J ((skp b L p : Nat) : Int))), some (.int (J (vP b L p))), none] [] (q_up I 0 24 ((fgE b L (skp b L p) : Nat) : Int), X) (NPo b L X I lo hi p) := by
        intro hno
        have hff : nOK b L lo hi p = false := decide_eq_false hno
        refine k_iconst i_106_159 ?_
        refine k_istore i_106_160 (Nat.le_of_ble_eq_true rfl) ?_
        dsimp only [q_st1, q_st2, q_unl]
        refine k_aload_n i_106_162 rfl ?_
        refine k_iload i_106_163 rfl ?_
        refine k_if_eq (t := 175) i_106_165 rfl (by omega) (fun g9 => ?_) (fun g9 => ?_)
        · refine k_iload_n i_106_175 rfl ?_
          refine k_pfI i_106_176 f_12_97 (by first | rfl | assumption | (rw [hR]; rfl) | (dsimp only; rw [hR]; rfl)) (by decide) rfl ?_
          refine k_iload i_106_179 rfl ?_
          refine k_if_eq (t := 189) i_106_181 rfl (by omega) (fun g8 => ?_) (fun g8 => ?_)
          · refine k_iload_n i_106_189 rfl ?_
            refine k_iret i_106_190 qt_106 ?_
            exact Or.inr ⟨hff, rfl, _, rfl⟩
          · omega
        · omega
      refine k_aload_n i_106_106 rfl ?_
      refine k_gfV (a := ((fgE b L (skp b L p) : Nat) : Int)) i_106_107 f_12_94 (by first | rfl | assumption | (rw [hR]; rfl) | (dsimp only; rw [hR]; rfl)) (by decide) (by decide) (Or.inl rfl) (by dsimp only; exact q_up_s) ?_
      refine k_iload_n i_106_110 rfl ?_
      refine k_ic_le (t := 159) i_106_111 rfl (by omega) (by omega) (fun g1 => ?_) (fun g1 => ?_)
      · exact no (fun y => by have := (hkk.mp y.1).1; omega)
      · refine k_iload i_106_114 rfl ?_
        refine k_bipush i_106_116 (by decide) ?_
        refine k_ic_ge (t := 159) i_106_118 rfl (by omega) (by omega) (fun g2 => ?_) (fun g2 => ?_)
        · exact no (fun y => by have := (hkk.mp y.1).2.1; omega)
        · have lst : (fgE b L (skp b L p) - skp b L p = 1 ∨ ¬ b (skp b L p) = 48) → K shM (d + 1) 106 142 [some (.ref 0), some (.int (J lo)), some (.int (J hi)), some (.int (J ((skp b L p : Nat) : Int))), some (.int (J (vP b L p))), none] [] (q_up I 0 24 ((fgE b L (skp b L p) : Nat) : Int), X) (NPo b L X I lo hi p) := by
            intro h5
            have h3 : kP b L p = 3 := hkk.mpr ⟨by omega, by omega, h5⟩
            refine k_iload i_106_142 rfl ?_
            refine k_i2lJ i_106_144 (by omega) ?_
            refine k_iload_n i_106_145 rfl ?_
            refine k_i2lJ i_106_146 (by omega) ?_
            refine k_iload_n i_106_147 rfl ?_
            refine k_i2lJ i_106_148 (by omega) ?_
            refine k_sp3 i_106_149 c_12_72 (by decide) qp_100 (Nat.le_of_ble_eq_true rfl) (m_in _ _ _ (by omega) (by omega) (by omega)) ?_
            refine k_if_eqB (t := 159) i_106_152 rfl (fun h => ?_) (fun h => ?_)
            · exact no (fun y => by rw [decide_eq_true y.2] at h; cases h)
            · have h6 : lo ≤ vP b L p ∧ vP b L p ≤ hi := by simpa using h
              refine k_iconst i_106_155 ?_
              refine k_goto (t := 160) i_106_156 rfl ?_
              refine k_istore i_106_160 (Nat.le_of_ble_eq_true rfl) ?_
              dsimp only [q_st1, q_st2, q_unl]
              refine k_aload_n i_106_162 rfl ?_
              refine k_iload i_106_163 rfl ?_
              refine k_if_eq (t := 175) i_106_165 rfl (by omega) (fun g9 => ?_) (fun g9 => ?_)
              · omega
              · refine k_aload_n i_106_168 rfl ?_
                refine k_gfV (a := (-9)) i_106_169 f_12_97 (by first | rfl | assumption | (rw [hR]; rfl) | (dsimp only; rw [hR]; rfl)) (by decide) (by decide) (Or.inl rfl) (by dsimp only; exact (q_up_n (by omega)).trans hf) ?_
                refine k_goto (t := 176) i_106_172 rfl ?_
                refine k_pfI i_106_176 f_12_97 (by first | rfl | assumption | (rw [hR]; rfl) | (dsimp only; rw [hR]; rfl)) (by decide) rfl ?_
                dsimp only
                rw [q_up_id ((q_up_n (by omega)).trans hf)]
                refine k_iload i_106_179 rfl ?_
                refine k_if_eq (t := 189) i_106_181 rfl (by omega) (fun g8 => ?_) (fun g8 => ?_)
                · omega
                · refine k_iload i_106_184 rfl ?_
                  refine k_goto (t := 190) i_106_186 rfl ?_
                  refine k_iret i_106_190 qt_106 ?_
                  refine Or.inl ⟨decide_eq_true ⟨h3, h6⟩, rfl, ?_⟩
                  rw [hee h3]
          refine k_aload_n i_106_121 rfl ?_
          refine k_gfV (a := ((fgE b L (skp b L p) : Nat) : Int)) i_106_122 f_12_94 (by first | rfl | assumption | (rw [hR]; rfl) | (dsimp only; rw [hR]; rfl)) (by decide) (by decide) (Or.inl rfl) (by dsimp only; exact q_up_s) ?_
          refine k_iload_n i_106_125 rfl ?_
          refine k_isub i_106_126 ?_
          refine k_iconst i_106_127 ?_
          refine k_ic_eq (t := 142) i_106_128 rfl (by omega) (by omega) (fun g3 => ?_) (fun g3 => ?_)
          · exact lst (Or.inl (by omega))
          · refine k_aload_n i_106_131 rfl ?_
            refine k_gfR i_106_132 f_12_25 (by first | rfl | assumption | (rw [hR]; rfl) | (dsimp only; rw [hR]; rfl)) (by decide) (by decide) (Or.inr ⟨_, rfl⟩) (by first | rfl | assumption | (rw [hR]; rfl) | (dsimp only; rw [hR]; rfl)) ?_
            refine k_iload_n i_106_135 rfl ?_
            refine k_ialV (a := (b (skp b L p))) i_106_136 (by first | rfl | assumption | (rw [hR]; rfl) | (dsimp only; rw [hR]; rfl)) (by decide) (by omega) (by omega) (by dsimp only; rw [q_up_o (by omega), show (((skp b L p : Nat) : Int)).toNat = skp b L p by omega]; exact c4 _ g) ?_
            have hb := c3 _ g
            refine k_bipush i_106_137 (by decide) ?_
            refine k_ic_eq (t := 159) i_106_139 rfl (by omega) (by omega) (fun g4 => ?_) (fun g4 => ?_)
            · exact no (fun y => by have := (hkk.mp y.1).2.2; omega)
            · exact lst (Or.inr g4)
    · have g : L ≤ skp b L p := by simpa using h
      refine k_aload_n i_106_16 rfl ?_
      refine k_aload_n i_106_17 rfl ?_
      refine k_gfV (a := (L : Int)) i_106_18 f_12_89 (by first | rfl | assumption | (rw [hR]; rfl) | (dsimp only; rw [hR]; rfl)) (by decide) (by decide) (Or.inl rfl) (by dsimp only; exact (q_up_n (by omega)).trans c1) ?_
      refine k_pfI i_106_21 f_12_97 (by first | rfl | assumption | (rw [hR]; rfl) | (dsimp only; rw [hR]; rfl)) (by decide) rfl ?_
      refine k_iload_n i_106_24 rfl ?_
      refine k_iret i_106_25 qt_106 ?_
      refine Or.inr ⟨decide_eq_false (fun y => ?_), rfl, ((skp b L p : Nat) : Int), ?_⟩
      · have h1 : kP b L p = 1 := kQ_1.mpr g
        omega
      · rw [show ((skp b L p : Nat) : Int) = (L : Int) by omega]
  · omega
end ML
