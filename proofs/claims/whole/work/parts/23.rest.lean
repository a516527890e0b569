/-! THE REFERENCE: findRest -/
/-- a memory with another row -/
def sr (I : Nat → Nat → Int) (c : Nat) (f : Nat → Int) : Nat → Nat → Int := fun c' => if c' = c then f else I c'
def ud (f : Nat → Int) (k : Nat) (v : Int) : Nat → Int := fun j => if j = k then v else f j
theorem sr_s {I : Nat → Nat → Int} {c : Nat} {f : Nat → Int} : sr I c f c = f := by simp [sr]
theorem sr_n {I : Nat → Nat → Int} {c c' : Nat} {f : Nat → Int} (h : c' ≠ c) : sr I c f c' = I c' := by simp [sr, h]
theorem sr_up {I : Nat → Nat → Int} {c k : Nat} {f : Nat → Int} {v : Int} : q_up (sr I c f) c k v = sr I c (ud f k v) := by
  funext c' k'
  unfold q_up sr ud
  by_cases h : c' = c
  · subst h; by_cases h2 : k' = k <;> simp [h2]
  · simp [h]
theorem sr_id {I : Nat → Nat → Int} {c : Nat} : sr I c (I c) = I := by
  funext c'
  unfold sr
  split
  · rename_i h; rw [h]
  · rfl
theorem sr_sr {I : Nat → Nat → Int} {c : Nat} {f g : Nat → Int} : sr (sr I c f) c g = sr I c g := by
  funext c'
  unfold sr
  split <;> rfl
theorem ud_s {f : Nat → Int} {k : Nat} {v : Int} : ud f k v k = v := by simp [ud]
theorem ud_n {f : Nat → Int} {k j : Nat} {v : Int} (h : j ≠ k) : ud f k v j = f j := by simp [ud, h]
theorem MT.row {I : Nat → Nat → Int} {X : (Nat → Nat → Int64) × (Nat → Nat → Option Nat)} {T : Tn} {c : Nat} {f : Nat → Int} (hc : c ≠ 0) (h : MT (I, X) T) : MT (sr I c f, X) T := by
  unfold MT at h ⊢
  simp only [sr_n (Ne.symm hc)]
  exact h
def mFAR : Int := 100000000
/-- the state behind a step; -1: it can't be -/
def mE (T : Tn) (el : Nat) (s q : Int) : Int := if 4 < mRun s q then -1 else mOn T el s q
def mC (T : Tn) (nt : Int) (el : Nat) (f : Nat → Int) (s q : Int) : Int := f (mE T el s q).toNat + 1000 * tPrice T nt (mRun s q) + 1
def mB (T : Tn) (nt : Int) (el : Nat) (f : Nat → Int) (s : Int) : Nat → Int
  | 0 => f s.toNat
  | k + 1 => if mE T el s k < 0 then mB T nt el f s k else min (mB T nt el f s k) (mC T nt el f s k)
def mHouse (T : Tn) (s : Int) : Prop := tG T (s / 17).toNat = 1
/-- true of the row at every time -/
def mInv (T : Tn) (nt : Int) (el : Nat) (b : Int) (f : Nat → Int) : Prop := ∀ s : Int, 0 ≤ s → s < 17 * tN T → (0 ≤ f s.toNat ∧ f s.toNat ≤ mFAR) ∧ (s / 17 = b → f s.toNat = 0) ∧ (s / 17 ≠ b → mHouse T s → f s.toNat = mFAR) ∧ (s / 17 ≠ b → f s.toNat < mFAR → ∃ q : Int, (0 ≤ q ∧ q < 4) ∧ 0 ≤ mE T el s q ∧ mC T nt el f s q ≤ f s.toNat)
/-- and at its end -/
def mFix (T : Tn) (nt : Int) (el : Nat) (b : Int) (f : Nat → Int) : Prop := mInv T nt el b f ∧ ∀ s : Int, 0 ≤ s → s < 17 * tN T → s / 17 ≠ b → ¬ mHouse T s → ∀ q : Int, 0 ≤ q → q < 4 → 0 ≤ mE T el s q → f s.toNat ≤ mC T nt el f s q
theorem mRun_le (s q : Int) (hs : 0 ≤ s) : 1 ≤ mRun s q ∧ mRun s q ≤ 5 := by unfold mRun; split <;> omega
theorem mE_range {T : Tn} (hw : tWF T) {el : Nat} {s q : Int} (hs : 0 ≤ s ∧ s < 17 * tN T) (hq : 0 ≤ q ∧ q < 4) : -1 ≤ mE T el s q ∧ mE T el s q < 17 * tN T := by
  unfold mE
  have hN := tN_le hw
  split
  · omega
  · rename_i h
    have := mOn_range hw (el := el) hs hq (by omega)
    omega
theorem mB_le {T : Tn} {nt : Int} {el : Nat} {f : Nat → Int} {s : Int} : ∀ k, mB T nt el f s k ≤ f s.toNat
  | 0 => Int.le_refl _
  | k + 1 => by
    have := mB_le (T := T) (nt := nt) (el := el) (f := f) (s := s) k
    unfold mB
    split <;> omega
theorem mB_leC {T : Tn} {nt : Int} {el : Nat} {f : Nat → Int} {s : Int} : ∀ (k : Nat) (q : Int), 0 ≤ q → q < k → 0 ≤ mE T el s q → mB T nt el f s k ≤ mC T nt el f s q
  | 0, q, h0, h1, _ => by omega
  | k + 1, q, h0, h1, h2 => by
    unfold mB
    by_cases hq : q = k
    · subst hq
      rw [if_neg (by omega)]
      omega
    · have := mB_leC (T := T) (nt := nt) (el := el) (f := f) (s := s) k q h0 (by omega) h2
      split <;> omega
theorem mB_is {T : Tn} {nt : Int} {el : Nat} {f : Nat → Int} {s : Int} : ∀ (k : Nat), mB T nt el f s k = f s.toNat ∨ ∃ q : Int, (0 ≤ q ∧ q < k) ∧ 0 ≤ mE T el s q ∧ mB T nt el f s k = mC T nt el f s q
  | 0 => Or.inl rfl
  | k + 1 => by
    unfold mB
    have ih := mB_is (T := T) (nt := nt) (el := el) (f := f) (s := s) k
    have lift : (∃ q : Int, (0 ≤ q ∧ q < k) ∧ 0 ≤ mE T el s q ∧ mB T nt el f s k = mC T nt el f s q) → ∃ q : Int, (0 ≤ q ∧ q < ((k + 1 : Nat) : Int)) ∧ 0 ≤ mE T el s q ∧ mB T nt el f s k = mC T nt el f s q := by
      rintro ⟨q, h1, h2, h3⟩
      exact ⟨q, by omega, h2, h3⟩
    split
    · exact ih.imp id lift
    · rename_i hn
      rcases Int.le_total (mB T nt el f s k) (mC T nt el f s k) with h | h
      · rw [Int.min_eq_left h]
        exact ih.imp id lift
      · rw [Int.min_eq_right h]
        exact Or.inr ⟨k, by omega, by omega, rfl⟩
theorem mC_range {T : Tn} (hw : tWF T) {nt : Int} {el : Nat} {b : Int} {f : Nat → Int} (hi : mInv T nt el b f) {s q : Int} (hs : 0 ≤ s ∧ s < 17 * tN T) (hq : 0 ≤ q ∧ q < 4) (he : 0 ≤ mE T el s q) : 1 ≤ mC T nt el f s q ∧ mC T nt el f s q ≤ 300000000 := by
  have h1 := mE_range hw (el := el) hs hq
  have h2 := (hi (mE T el s q) he h1.2).1
  have h3 := tPrice_range hw (nt := nt) (r := mRun s q) (by have := mRun_le s q hs.1; omega)
  unfold mC mFAR at *
  omega
theorem mB_range {T : Tn} (hw : tWF T) {nt : Int} {el : Nat} {b : Int} {f : Nat → Int} (hi : mInv T nt el b f) {s : Int} (hs : 0 ≤ s ∧ s < 17 * tN T) (k : Nat) (hk : k ≤ 4) : 0 ≤ mB T nt el f s k ∧ mB T nt el f s k ≤ mFAR := by
  have h1 := (hi s hs.1 hs.2).1
  have h2 := mB_le (T := T) (nt := nt) (el := el) (f := f) (s := s) k
  refine ⟨?_, by omega⟩
  rcases mB_is (T := T) (nt := nt) (el := el) (f := f) (s := s) k with h | ⟨q, q1, q2, q3⟩
  · omega
  · have := mC_range hw hi hs (q := q) (by omega) q2
    omega
theorem mC_mono {T : Tn} {nt : Int} {el : Nat} {f g : Nat → Int} {s q : Int} (h : f (mE T el s q).toNat ≤ g (mE T el s q).toNat) : mC T nt el f s q ≤ mC T nt el g s q := by
  unfold mC; omega
theorem mInv_ud {T : Tn} (hw : tWF T) {nt : Int} {el : Nat} {b : Int} {f : Nat → Int} (hi : mInv T nt el b f) {s : Int} (hs : 0 ≤ s ∧ s < 17 * tN T) (hb : s / 17 ≠ b) (hh : ¬ mHouse T s) : mInv T nt el b (ud f s.toNat (mB T nt el f s 4)) := by
  have hle : ∀ j, ud f s.toNat (mB T nt el f s 4) j ≤ f j := by
    intro j
    unfold ud
    split
    · rename_i h; rw [h]; exact mB_le 4
    · exact Int.le_refl _
  have hr := mB_range hw hi hs 4 (by omega)
  intro u hu0 hu1
  by_cases hus : u = s
  · subst hus
    rw [ud_s]
    refine ⟨hr, fun z => absurd z hb, fun _ z => absurd z hh, fun _ hlt => ?_⟩
    rcases mB_is (T := T) (nt := nt) (el := el) (f := f) (s := u) 4 with h | ⟨q, q1, q2, q3⟩
    · have hlt' := hlt
      rw [h] at hlt'
      obtain ⟨q, g1, g2, g3⟩ := (hi u hu0 hu1).2.2.2 hb hlt'
      exact ⟨q, g1, g2, Int.le_trans (mC_mono (hle _)) (by rw [h]; exact g3)⟩
    · exact ⟨q, by omega, q2, Int.le_trans (mC_mono (hle _)) (by rw [q3]; exact Int.le_refl _)⟩
  · have hne : u.toNat ≠ s.toNat := by omega
    rw [ud_n hne]
    obtain ⟨h1, h2, h3, h4⟩ := hi u hu0 hu1
    refine ⟨h1, h2, h3, fun hb' hlt => ?_⟩
    obtain ⟨q, g1, g2, g3⟩ := h4 hb' hlt
    exact ⟨q, g1, g2, Int.le_trans (mC_mono (hle _)) g3⟩
section MR
variable {d : Nat} {T : Tn} {I : Nat → Nat → Int} {X : (Nat → Nat → Int64) × (Nat → Nat → Option Nat)} {nt b : Int} {el : Nat} {Q : Option Value → QS → Prop}
-- method 127: StraightTaxModel.findRest.(II)V
theorem l_rest_d (hT : MT (I, X) T) (hR : X.2 = rM) (hw : tWF T) (hn : I 2 2 = nt) (h01 : nt = 0 ∨ nt = 1) (hel : el < 2 ^ 31) (f : Nat → Int) (hi : mInv T nt el b f) (N less s : Int) (hs : 0 ≤ s ∧ s < 17 * tN T)
    (hk : ∀ x8 x9 : Option Value, K shM (d + 3) 127 187 [some (.ref 0), some (.int (J b)), some (.int (J (el : Int))), some (.int (J N)), some (.int (J less)), some (.int (J s)), some (.int (J (mB T nt el f s 4))), some (.int (J 4)), x8, x9] [] (sr I 7 f, X) Q) :
    ∀ (m k : Nat), k + m = 4 → ∀ x8 x9 : Option Value, K shM (d + 3) 127 107 [some (.ref 0), some (.int (J b)), some (.int (J (el : Int))), some (.int (J N)), some (.int (J less)), some (.int (J s)), some (.int (J (mB T nt el f s k))), some (.int (J (k : Int))), x8, x9] [] (sr I 7 f, X) Q := by
  have hN := tN_le hw
  have hT' : MT (sr I 7 f, X) T := hT.row (by decide)
  have hn' : (sr I 7 f) 2 2 = nt := hn
  intro m
  induction m with
  | zero =>
    intro k hk4 x8 x9
    have e : k = 4 := by omega
    subst e
    refine k_iload i_127_107 rfl ?_
    refine k_iconst i_127_109 ?_
    refine k_ic_ge (t := 187) i_127_110 rfl (by omega) (by omega) (fun h => ?_) (fun h => ?_)
    · exact hk x8 x9
    · omega
  | succ m ih =>
    intro k hk4 x8 x9
    have hrun := mRun_le s k hs.1
    have hbr := mB_range hw hi hs k (by omega)
    have hFAR : mFAR = 100000000 := rfl
    have hq : (0 : Int) ≤ (k : Int) ∧ (k : Int) < 4 := by omega
    have hEr := mE_range hw (el := el) hs hq
    have hi2 := ih (k + 1) (by omega)
    have k144 : ∀ e : Int, e = mE T el s k → K shM (d + 3) 127 144 [some (.ref 0), some (.int (J b)), some (.int (J (el : Int))), some (.int (J N)), some (.int (J less)), some (.int (J s)), some (.int (J (mB T nt el f s k))), some (.int (J (k : Int))), some (.int (J (mRun s k))), some (.int (J e))] [] (sr I 7 f, X) Q := by
      intro e he
      subst he
      refine k_iload i_127_144 rfl ?_
      refine k_if_ge (t := 154) i_127_146 rfl (by omega) (fun h => ?_) (fun h => ?_)
      · refine k_iload i_127_154 rfl ?_
        refine k_aload_n i_127_156 rfl ?_
        refine k_gfR i_127_157 f_12_45 (by first | rfl | assumption | (rw [hR]; rfl) | (dsimp only; rw [hR]; rfl)) (by decide) (by decide) (Or.inr ⟨_, rfl⟩) (by first | rfl | assumption | (rw [hR]; rfl) | (dsimp only; rw [hR]; rfl)) ?_
        refine k_iload i_127_160 rfl ?_
        refine k_iald i_127_162 rfl (by decide) (by omega) (by omega) ?_
        have hfr := (hi (mE T el s k) (by omega) hEr.2).1
        have hpr := tPrice_range hw (nt := nt) (r := mRun s k) (by omega)
        have hcr := mC_range hw hi hs hq (by omega)
        show K shM (d + 3) 127 163 _ (.int (J (f (mE T el s k).toNat)) :: _) _ _
        refine k_sipush i_127_163 (by decide) ?_
        refine k_aload_n i_127_166 rfl ?_
        refine k_iload i_127_167 rfl ?_
        refine k_vp1 i_127_169 c_12_194 qp_120 qo_120 (by first | rfl | assumption | (rw [hR]; rfl) | (dsimp only; rw [hR]; rfl)) (Nat.le_of_ble_eq_true rfl) (m_priceOf hT' hR hw _ nt hn' (by omega) h01) ?_
        refine k_imul i_127_172 ?_
        refine k_iadd i_127_173 ?_
        refine k_iconst i_127_174 ?_
        refine k_iadd i_127_175 ?_
        refine k_sp2 i_127_176 c_12_108 (by decide) qp_107 (Nat.le_of_ble_eq_true rfl) (m_lesser _ _ (by omega) (by unfold mC at hcr; omega)) ?_
        refine k_istore i_127_179 (Nat.le_of_ble_eq_true rfl) ?_
        dsimp only [q_st1, q_st2, q_unl]
        refine k_iinc i_127_181 rfl (Nat.le_of_ble_eq_true rfl) ?_
        dsimp only [q_st1, q_st2, q_unl]
        refine k_goto (t := 107) i_127_184 rfl ?_
        have h2 := hi2 (some (.int (J (mRun s k)))) (some (.int (J (mE T el s k))))
        rw [show mB T nt el f s (k + 1) = min (mB T nt el f s k) (f (mE T el s k).toNat + 1000 * tPrice T nt (mRun s k) + 1) from by
          show (if mE T el s k < 0 then _ else _) = _
          rw [if_neg (by omega)]; rfl] at h2
        exact h2
      · refine k_iload i_127_149 rfl ?_
        refine k_goto (t := 179) i_127_151 rfl ?_
        refine k_istore i_127_179 (Nat.le_of_ble_eq_true rfl) ?_
        dsimp only [q_st1, q_st2, q_unl]
        refine k_iinc i_127_181 rfl (Nat.le_of_ble_eq_true rfl) ?_
        dsimp only [q_st1, q_st2, q_unl]
        refine k_goto (t := 107) i_127_184 rfl ?_
        have h2 := hi2 (some (.int (J (mRun s k)))) (some (.int (J (mE T el s k))))
        rw [show mB T nt el f s (k + 1) = mB T nt el f s k from by
          show (if mE T el s k < 0 then _ else _) = _
          rw [if_pos (by omega)]] at h2
        exact h2
    refine k_iload i_127_107 rfl ?_
    refine k_iconst i_127_109 ?_
    refine k_ic_ge (t := 187) i_127_110 rfl (by omega) (by omega) (fun h => ?_) (fun h => ?_)
    · omega
    · refine k_aload_n i_127_113 rfl ?_
      refine k_iload i_127_114 rfl ?_
      refine k_iload i_127_116 rfl ?_
      refine k_vp2 i_127_118 c_12_203 qp_128 qo_128 (by first | rfl | assumption | (rw [hR]; rfl) | (dsimp only; rw [hR]; rfl)) (Nat.le_of_ble_eq_true rfl) (m_runBehind _ _ (by omega) (by omega)) ?_
      refine k_istore i_127_121 (Nat.le_of_ble_eq_true rfl) ?_
      dsimp only [q_st1, q_st2, q_unl]
      refine k_iload i_127_123 rfl ?_
      refine k_iconst i_127_125 ?_
      refine k_ic_le (t := 133) i_127_126 rfl (by omega) (by omega) (fun g => ?_) (fun g => ?_)
      · refine k_aload_n i_127_133 rfl ?_
        refine k_iload i_127_134 rfl ?_
        refine k_iload i_127_136 rfl ?_
        refine k_iload_n i_127_138 rfl ?_
        refine k_vp3 i_127_139 c_12_206 qp_129 qo_129 (by first | rfl | assumption | (rw [hR]; rfl) | (dsimp only; rw [hR]; rfl)) (Nat.le_of_ble_eq_true rfl) (m_onward hT' hw hel _ _ hs hq) ?_
        refine k_istore i_127_142 (Nat.le_of_ble_eq_true rfl) ?_
        dsimp only [q_st1, q_st2, q_unl]
        exact k144 _ (by unfold mE; rw [if_neg (by omega)])
      · refine k_iconst i_127_129 ?_
        refine k_goto (t := 142) i_127_130 rfl ?_
        refine k_istore i_127_142 (Nat.le_of_ble_eq_true rfl) ?_
        dsimp only [q_st1, q_st2, q_unl]
        exact k144 _ (by unfold mE; rw [if_pos (by omega)])
/-- a sweep, from its row f0 to the row f, behind the states above s -/
def mSw (T : Tn) (nt : Int) (el : Nat) (b : Int) (f0 f : Nat → Int) (less s : Int) : Prop := (∀ j, f j ≤ f0 j) ∧ (less = 0 ∨ less = 1) ∧ (less = 0 → f = f0 ∧ ∀ u : Int, s < u → u < 17 * tN T → u / 17 ≠ b → ¬ mHouse T u → ∀ q : Int, 0 ≤ q → q < 4 → 0 ≤ mE T el u q → f0 u.toNat ≤ mC T nt el f0 u q) ∧ (less = 1 → ∃ u : Int, (0 ≤ u ∧ u < 17 * tN T) ∧ f u.toNat < f0 u.toNat)
theorem l_rest_s (hT : MT (I, X) T) (hR : X.2 = rM) (hw : tWF T) (hn : I 2 2 = nt) (h01 : nt = 0 ∨ nt = 1) (hel : el < 2 ^ 31) (hb : 0 ≤ b ∧ b < tN T) (f0 : Nat → Int)
    (hk : ∀ (f : Nat → Int) (less : Int) (x6 x7 x8 x9 : Option Value), mInv T nt el b f → mSw T nt el b f0 f less (-1) → K shM (d + 3) 127 226 [some (.ref 0), some (.int (J b)), some (.int (J (el : Int))), some (.int (J (17 * tN T))), some (.int (J less)), some (.int (J (-1))), x6, x7, x8, x9] [] (sr I 7 f, X) Q) :
    ∀ (m : Nat) (s : Int) (f : Nat → Int) (less : Int) (x6 x7 x8 x9 : Option Value), -1 ≤ s → s < 17 * tN T → (s + 1).toNat = m → mInv T nt el b f → mSw T nt el b f0 f less s → K shM (d + 3) 127 66 [some (.ref 0), some (.int (J b)), some (.int (J (el : Int))), some (.int (J (17 * tN T))), some (.int (J less)), some (.int (J s)), x6, x7, x8, x9] [] (sr I 7 f, X) Q := by
  have hN := tN_le hw
  have hm := tMask_lt T 1
  obtain ⟨a0, a1, a2, a3, a4, a5, a6, a7, a8⟩ := id hT
  intro m
  induction m with
  | zero =>
    intro s f less x6 x7 x8 x9 h0 h1 hm0 hi hsw
    have e : s = -1 := by omega
    subst e
    refine k_iload i_127_66 rfl ?_
    refine k_if_lt (t := 226) i_127_68 rfl (by omega) (fun h => ?_) (fun h => ?_)
    · exact hk f less x6 x7 x8 x9 hi hsw
    · omega
  | succ m ih =>
    intro s f less x6 x7 x8 x9 h0 h1 hm0 hi hsw
    have hFAR : mFAR = 100000000 := rfl
    have w2 := hsw.2.1
    have skip : (s / 17 = b ∨ mHouse T s) → mSw T nt el b f0 f less (s - 1) := by
      intro hsk
      refine ⟨hsw.1, w2, fun hl => ⟨(hsw.2.2.1 hl).1, fun u hu hu2 hub huh => ?_⟩, hsw.2.2.2⟩
      by_cases hus : u = s
      · subst hus
        rcases hsk with z | z
        · exact absurd z hub
        · exact absurd z huh
      · exact (hsw.2.2.1 hl).2 u (by omega) hu2 hub huh
    refine k_iload i_127_66 rfl ?_
    refine k_if_lt (t := 226) i_127_68 rfl (by omega) (fun h => ?_) (fun h => ?_)
    · omega
    · refine k_iload i_127_71 rfl ?_
      refine k_bipush i_127_73 (by decide) ?_
      refine k_idiv i_127_75 (by omega) (by omega) (by omega) (by omega) ?_
      refine k_iload_n i_127_76 rfl ?_
      refine k_ic_eq (t := 220) i_127_77 rfl (by omega) (by omega) (fun g => ?_) (fun g => ?_)
      · refine k_iinc i_127_220 rfl (Nat.le_of_ble_eq_true rfl) ?_
        dsimp only [q_st1, q_st2, q_unl]
        refine k_goto (t := 66) i_127_223 rfl ?_
        have h2 := ih (s - 1) f less x6 x7 x8 x9 (by omega) (by omega) (by omega) hi (skip (Or.inl g))
        rw [show s - 1 = s + -1 by omega] at h2
        exact h2
      · refine k_aload_n i_127_80 rfl ?_
        refine k_gfI i_127_81 f_12_80 (by first | rfl | assumption | (rw [hR]; rfl) | (dsimp only; rw [hR]; rfl)) (by decide) (by decide) (Or.inl rfl) ?_
        rw [show (sr I 7 f, X).1 0 2 = (tMask T 1 : Int) from a2]
        refine k_iload i_127_84 rfl ?_
        refine k_bipush i_127_86 (by decide) ?_
        refine k_idiv i_127_88 (by omega) (by omega) (by omega) (by omega) ?_
        refine k_sp2 i_127_89 c_12_83 (by decide) qp_109 (Nat.le_of_ble_eq_true rfl) (m_has (by omega) _ (by omega) (by omega)) ?_
        rw [tMask_bit]
        refine k_if_neB (t := 220) i_127_92 rfl (fun h => ?_) (fun h => ?_)
        · have h3 : mHouse T s := by simp at h; exact h.2
          refine k_iinc i_127_220 rfl (Nat.le_of_ble_eq_true rfl) ?_
          dsimp only [q_st1, q_st2, q_unl]
          refine k_goto (t := 66) i_127_223 rfl ?_
          have h2 := ih (s - 1) f less x6 x7 x8 x9 (by omega) (by omega) (by omega) hi (skip (Or.inr h3))
          rw [show s - 1 = s + -1 by omega] at h2
          exact h2
        · have h3 : ¬ mHouse T s := fun z => by rw [decide_eq_true ⟨by omega, z⟩] at h; cases h
          have hs : 0 ≤ s ∧ s < 17 * tN T := by omega
          have hfr := (hi s hs.1 hs.2).1
          have hbr := mB_range hw hi hs 4 (by omega)
          have hble := mB_le (T := T) (nt := nt) (el := el) (f := f) (s := s) 4
          refine k_aload_n i_127_95 rfl ?_
          refine k_gfR i_127_96 f_12_45 (by first | rfl | assumption | (rw [hR]; rfl) | (dsimp only; rw [hR]; rfl)) (by decide) (by decide) (Or.inr ⟨_, rfl⟩) (by first | rfl | assumption | (rw [hR]; rfl) | (dsimp only; rw [hR]; rfl)) ?_
          refine k_iload i_127_99 rfl ?_
          refine k_iald i_127_101 rfl (by decide) (by omega) (by omega) ?_
          show K shM (d + 3) 127 102 _ (.int (J (f s.toNat)) :: _) _ _
          refine k_istore i_127_102 (Nat.le_of_ble_eq_true rfl) ?_
          dsimp only [q_st1, q_st2, q_unl]
          refine k_iconst i_127_104 ?_
          refine k_istore i_127_105 (Nat.le_of_ble_eq_true rfl) ?_
          dsimp only [q_st1, q_st2, q_unl]
          refine l_rest_d hT hR hw hn h01 hel f hi (17 * tN T) less s hs (fun x8 x9 => ?_) 4 0 (by omega) x8 x9
          have hi' := mInv_ud hw hi hs g h3
          have fin : ∀ less' : Int, mSw T nt el b f0 (ud f s.toNat (mB T nt el f s 4)) less' (s - 1) → K shM (d + 3) 127 209 [some (.ref 0), some (.int (J b)), some (.int (J (el : Int))), some (.int (J (17 * tN T))), some (.int (J less)), some (.int (J s)), some (.int (J (mB T nt el f s 4))), some (.int (J 4)), x8, x9] [.int (J less')] (sr I 7 f, X) Q := by
            intro less' hsw'
            refine k_istore i_127_209 (Nat.le_of_ble_eq_true rfl) ?_
            dsimp only [q_st1, q_st2, q_unl]
            refine k_aload_n i_127_211 rfl ?_
            refine k_gfR i_127_212 f_12_45 (by first | rfl | assumption | (rw [hR]; rfl) | (dsimp only; rw [hR]; rfl)) (by decide) (by decide) (Or.inr ⟨_, rfl⟩) (by first | rfl | assumption | (rw [hR]; rfl) | (dsimp only; rw [hR]; rfl)) ?_
            refine k_iload i_127_215 rfl ?_
            refine k_iload i_127_217 rfl ?_
            refine k_iast i_127_219 rfl (by decide) (by omega) (by omega) ?_
            dsimp only
            rw [sr_up]
            refine k_iinc i_127_220 rfl (Nat.le_of_ble_eq_true rfl) ?_
            dsimp only [q_st1, q_st2, q_unl]
            refine k_goto (t := 66) i_127_223 rfl ?_
            have h2 := ih (s - 1) _ less' (some (.int (J (mB T nt el f s 4)))) (some (.int (J 4))) x8 x9 (by omega) (by omega) (by omega) hi' hsw'
            rw [show s - 1 = s + -1 by omega] at h2
            exact h2
          have hle : ∀ j, ud f s.toNat (mB T nt el f s 4) j ≤ f j := by
            intro j
            unfold ud
            split
            · rename_i hj; rw [hj]; exact hble
            · exact Int.le_refl _
          have less1 : (less = 1 ∨ mB T nt el f s 4 < f s.toNat) → mSw T nt el b f0 (ud f s.toNat (mB T nt el f s 4)) 1 (s - 1) := by
            intro hl
            refine ⟨fun j => Int.le_trans (hle j) (hsw.1 j), Or.inr rfl, fun z => by omega, fun _ => ?_⟩
            rcases hl with hl | hl
            · obtain ⟨u, u1, u2⟩ := hsw.2.2.2 hl
              exact ⟨u, u1, Int.lt_of_le_of_lt (hle _) u2⟩
            · refine ⟨s, hs, ?_⟩
              rw [ud_s]
              exact Int.lt_of_lt_of_le hl (hsw.1 _)
          refine k_iload i_127_187 rfl ?_
          refine k_if_ne (t := 204) i_127_189 rfl (by omega) (fun gl => ?_) (fun gl => ?_)
          · refine k_iconst i_127_204 ?_
            refine k_goto (t := 209) i_127_205 rfl ?_
            exact fin 1 (less1 (Or.inl (by omega)))
          · refine k_iload i_127_192 rfl ?_
            refine k_aload_n i_127_194 rfl ?_
            refine k_gfR i_127_195 f_12_45 (by first | rfl | assumption | (rw [hR]; rfl) | (dsimp only; rw [hR]; rfl)) (by decide) (by decide) (Or.inr ⟨_, rfl⟩) (by first | rfl | assumption | (rw [hR]; rfl) | (dsimp only; rw [hR]; rfl)) ?_
            refine k_iload i_127_198 rfl ?_
            refine k_iald i_127_200 rfl (by decide) (by omega) (by omega) ?_
            show K shM (d + 3) 127 201 _ (.int (J (f s.toNat)) :: _) _ _
            refine k_ic_ge (t := 208) i_127_201 rfl (by omega) (by omega) (fun gb => ?_) (fun gb => ?_)
            · refine k_iconst i_127_208 ?_
              have eB : mB T nt el f s 4 = f s.toNat := by omega
              have eU : ud f s.toNat (mB T nt el f s 4) = f := by
                funext j
                unfold ud
                split
                · rename_i hj; rw [hj, eB]
                · rfl
              have zl : less = 0 := by omega
              have z1 := (hsw.2.2.1 zl).1
              refine fin 0 ⟨by rw [eU]; exact hsw.1, Or.inl rfl, fun _ => ⟨by rw [eU]; exact z1, fun u hu hu2 hub huh q q0 q1 q2 => ?_⟩, fun z => by omega⟩
              by_cases hus : u = s
              · subst hus
                have h5 := mB_leC (T := T) (nt := nt) (el := el) (f := f) (s := u) 4 q q0 (by omega) q2
                rw [eB, z1] at h5
                exact h5
              · exact (hsw.2.2.1 zl).2 u (by omega) hu2 hub huh q q0 q1 q2
            · refine k_iconst i_127_204 ?_
              refine k_goto (t := 209) i_127_205 rfl ?_
              exact fin 1 (less1 (Or.inr (by omega)))
def tSum (f : Nat → Int) : Nat → Int
  | 0 => 0
  | k + 1 => tSum f k + f k
theorem tSum_le {f g : Nat → Int} (h : ∀ j, f j ≤ g j) : ∀ k, tSum f k ≤ tSum g k
  | 0 => Int.le_refl _
  | k + 1 => Int.add_le_add (tSum_le h k) (h k)
theorem tSum_lt {f g : Nat → Int} (h : ∀ j, f j ≤ g j) {u : Nat} (hu : f u < g u) : ∀ k, u < k → tSum f k < tSum g k
  | 0, hk => by omega
  | k + 1, hk => by
    have h1 := tSum_le h k
    have h2 := h k
    by_cases e : u = k
    · subst e; unfold tSum; omega
    · have := tSum_lt h hu k (by omega); unfold tSum; omega
theorem tSum_nn {f : Nat → Int} : ∀ k : Nat, (∀ j, j < k → 0 ≤ f j) → 0 ≤ tSum f k
  | 0, _ => Int.le_refl _
  | k + 1, h => by
    have h1 := tSum_nn k (fun j hj => h j (by omega))
    have h2 := h k (by omega)
    unfold tSum; omega
theorem l_end {x5 x6 x7 x8 x9 : Option Value} (hk : ∀ (f : Nat → Int), mFix T nt el b f → Q none (sr I 7 f, X)) {f : Nat → Int} (hf : mFix T nt el b f) {N : Int} : K shM (d + 3) 127 53 [some (.ref 0), some (.int (J b)), some (.int (J (el : Int))), some (.int (J N)), some (.int (J 0)), x5, x6, x7, x8, x9] [] (sr I 7 f, X) Q := by
  refine k_iload i_127_53 rfl ?_
  refine k_if_eq (t := 229) i_127_55 rfl (by omega) (fun g => ?_) (fun g => ?_)
  · refine k_vret i_127_229 qt_127 ?_
    exact hk f hf
  · omega
theorem l_rest_w (hT : MT (I, X) T) (hR : X.2 = rM) (hw : tWF T) (hn : I 2 2 = nt) (h01 : nt = 0 ∨ nt = 1) (hel : el < 2 ^ 31) (hb : 0 ≤ b ∧ b < tN T)
    (hk : ∀ (f : Nat → Int), mFix T nt el b f → Q none (sr I 7 f, X)) :
    ∀ (m : Nat) (f : Nat → Int) (less : Int) (x5 x6 x7 x8 x9 : Option Value), mInv T nt el b f → (less = 1 ∨ less = 0 ∧ mFix T nt el b f) → (tSum f (17 * tN T).toNat).toNat < m → K shM (d + 3) 127 53 [some (.ref 0), some (.int (J b)), some (.int (J (el : Int))), some (.int (J (17 * tN T))), some (.int (J less)), x5, x6, x7, x8, x9] [] (sr I 7 f, X) Q := by
  have hN := tN_le hw
  intro m
  induction m with
  | zero => intro f less x5 x6 x7 x8 x9 hi hl hlt; omega
  | succ m ih =>
    intro f less x5 x6 x7 x8 x9 hi hl hlt
    refine k_iload i_127_53 rfl ?_
    refine k_if_eq (t := 229) i_127_55 rfl (by omega) (fun g => ?_) (fun g => ?_)
    · refine k_vret i_127_229 qt_127 ?_
      rcases hl with hl | hl
      · omega
      · exact hk f hl.2
    · refine k_iconst i_127_58 ?_
      refine k_istore i_127_59 (Nat.le_of_ble_eq_true rfl) ?_
      dsimp only [q_st1, q_st2, q_unl]
      refine k_iload_n i_127_61 rfl ?_
      refine k_iconst i_127_62 ?_
      refine k_isub i_127_63 ?_
      refine k_istore i_127_64 (Nat.le_of_ble_eq_true rfl) ?_
      dsimp only [q_st1, q_st2, q_unl]
      refine l_rest_s hT hR hw hn h01 hel hb f (fun f2 less2 y6 y7 y8 y9 hi2 hsw => ?_) (17 * tN T).toNat (17 * tN T - 1) f 0 x6 x7 x8 x9 (by omega) (by omega) (by omega) hi ⟨fun j => Int.le_refl _, Or.inl rfl, fun _ => ⟨rfl, fun u hu hu2 => by omega⟩, fun z => by omega⟩
      refine k_goto (t := 53) i_127_226 rfl ?_
      rcases hsw.2.1 with e | e
      · subst e
        have e1 := (hsw.2.2.1 rfl).1
        subst e1
        -- nothing has changed: it stands
        exact l_end hk ⟨hi2, fun s s0 s1 sb sh q q0 q1 q2 => (hsw.2.2.1 rfl).2 s (by omega) s1 sb sh q q0 q1 q2⟩
      · subst e
        obtain ⟨u, u1, u2⟩ := hsw.2.2.2 rfl
        refine ih f2 1 _ y6 y7 y8 y9 hi2 (Or.inl rfl) ?_
        have h5 := tSum_lt hsw.1 u2 (17 * tN T).toNat (by omega)
        have h6 := tSum_nn (f := f2) (17 * tN T).toNat (fun j hj => by
          have := (hi2 (j : Int) (by omega) (by omega)).1
          rw [show ((j : Int)).toNat = j by omega] at this
          omega)
        omega
theorem l_rest_i (hT : MT (I, X) T) (hR : X.2 = rM) (hw : tWF T) (hb : 0 ≤ b ∧ b < tN T)
    (hk : ∀ (f : Nat → Int), mInv T nt el b f → K shM (d + 3) 127 50 [some (.ref 0), some (.int (J b)), some (.int (J (el : Int))), some (.int (J (17 * tN T))), some (.int (J (17 * tN T))), none, none, none, none, none] [] (sr I 7 f, X) Q) :
    ∀ (m : Nat) (s : Int) (f : Nat → Int), 0 ≤ s → s ≤ 17 * tN T → (17 * tN T - s).toNat = m → (∀ u : Int, 0 ≤ u → u < s → f u.toNat = if u / 17 = b then 0 else mFAR) → K shM (d + 3) 127 16 [some (.ref 0), some (.int (J b)), some (.int (J (el : Int))), some (.int (J (17 * tN T))), some (.int (J s)), none, none, none, none, none] [] (sr I 7 f, X) Q := by
  have hN := tN_le hw
  have hFAR : mFAR = 100000000 := rfl
  intro m
  induction m with
  | zero =>
    intro s f h0 h1 hm hf
    have e : s = 17 * tN T := by omega
    subst e
    refine k_iload i_127_16 rfl ?_
    refine k_iload_n i_127_18 rfl ?_
    refine k_ic_ge (t := 50) i_127_19 rfl (by omega) (by omega) (fun h => ?_) (fun h => ?_)
    · refine hk f (fun s s0 s1 => ?_)
      rw [hf s s0 s1]
      by_cases hsb : s / 17 = b
      · rw [if_pos hsb]
        exact ⟨by omega, fun _ => rfl, fun z => absurd hsb z, fun z => absurd hsb z⟩
      · rw [if_neg hsb]
        exact ⟨by omega, fun z => absurd z hsb, fun _ _ => rfl, fun _ z => by omega⟩
    · omega
  | succ m ih =>
    intro s f h0 h1 hm hf
    have fin : ∀ v : Int, v = (if s / 17 = b then 0 else mFAR) → K shM (d + 3) 127 43 [some (.ref 0), some (.int (J b)), some (.int (J (el : Int))), some (.int (J (17 * tN T))), some (.int (J s)), none, none, none, none, none] [.int (J v), .int (J s), .ref 7] (sr I 7 f, X) Q := by
      intro v hv
      refine k_iast i_127_43 rfl (by decide) (by omega) (by omega) ?_
      dsimp only
      rw [sr_up]
      refine k_iinc i_127_44 rfl (Nat.le_of_ble_eq_true rfl) ?_
      dsimp only [q_st1, q_st2, q_unl]
      refine k_goto (t := 16) i_127_47 rfl ?_
      refine ih (s + 1) _ (by omega) (by omega) (by omega) (fun u u0 u1 => ?_)
      by_cases hus : u = s
      · subst hus; rw [ud_s]; exact hv
      · rw [ud_n (by omega)]; exact hf u u0 (by omega)
    refine k_iload i_127_16 rfl ?_
    refine k_iload_n i_127_18 rfl ?_
    refine k_ic_ge (t := 50) i_127_19 rfl (by omega) (by omega) (fun h => ?_) (fun h => ?_)
    · omega
    · refine k_aload_n i_127_22 rfl ?_
      refine k_gfR i_127_23 f_12_45 (by first | rfl | assumption | (rw [hR]; rfl) | (dsimp only; rw [hR]; rfl)) (by decide) (by decide) (Or.inr ⟨_, rfl⟩) (by first | rfl | assumption | (rw [hR]; rfl) | (dsimp only; rw [hR]; rfl)) ?_
      refine k_iload i_127_26 rfl ?_
      refine k_iload i_127_28 rfl ?_
      refine k_bipush i_127_30 (by decide) ?_
      refine k_idiv i_127_32 (by omega) (by omega) (by omega) (by omega) ?_
      refine k_iload_n i_127_33 rfl ?_
      refine k_ic_ne (t := 41) i_127_34 rfl (by omega) (by omega) (fun g => ?_) (fun g => ?_)
      · refine k_ldc (a := 100000000) i_127_41 n_12_202 (by decide) ?_
        exact fin _ (by rw [if_neg g]; rfl)
      · refine k_iconst i_127_37 ?_
        refine k_goto (t := 43) i_127_38 rfl ?_
        exact fin _ (by rw [if_pos (by omega)])
/-- findRest: what is left to the end, from each state -/
theorem m_findRest {S : QS} (hT : MT S T) (hR : S.2.2 = rM) (hw : tWF T) (hn : S.1 2 2 = nt) (h01 : nt = 0 ∨ nt = 1) (hel : el < 2 ^ 31) (hb : 0 ≤ b ∧ b < tN T) : KC shM (d + 3) 127 [.ref 0, .int (J b), .int (J (el : Int))] S (fun r S2 => r = none ∧ ∃ f, S2 = (sr S.1 7 f, S.2) ∧ mFix T nt el b f) := by
  obtain ⟨I, X⟩ := S
  have hN := tN_le hw
  obtain ⟨a0, a1, a2, a3, a4, a5, a6, a7, a8⟩ := id hT
  refine k_start ql_127 (Nat.le_of_ble_eq_true rfl) ?_
  simp only [q_en, List.replicate]
  refine k_bipush i_127_0 (by decide) ?_
  refine k_aload_n i_127_2 rfl ?_
  refine k_gfI i_127_3 f_12_7 (by first | rfl | assumption | (rw [hR]; rfl) | (dsimp only; rw [hR]; rfl)) (by decide) (by decide) (Or.inl rfl) ?_
  refine k_imul i_127_6 ?_
  refine k_aload_n i_127_7 rfl ?_
  refine k_gfI i_127_8 f_12_13 (by first | rfl | assumption | (rw [hR]; rfl) | (dsimp only; rw [hR]; rfl)) (by decide) (by decide) (Or.inl rfl) ?_
  refine k_imul i_127_11 ?_
  refine k_istore_n i_127_12 (Nat.le_of_ble_eq_true rfl) ?_
  dsimp only [q_st1, q_st2, q_unl]
  refine k_iconst i_127_13 ?_
  refine k_istore i_127_14 (Nat.le_of_ble_eq_true rfl) ?_
  dsimp only [q_st1, q_st2, q_unl]
  rw [show 17 * (I, X).1 0 0 * (I, X).1 0 1 = 17 * tN T from by rw [a0, a1]; unfold tN; rw [Int.mul_assoc]]
  have h := l_rest_i (d := d) (I := I) (X := X) (nt := nt) (el := el) (Q := fun r S2 => r = none ∧ ∃ f, S2 = (sr I 7 f, X) ∧ mFix T nt el b f) hT hR hw hb (fun f hi => ?_) (17 * tN T).toNat 0 (I 7) (by omega) (by omega) (by omega) (fun u u0 u1 => by omega)
  · rw [sr_id] at h
    exact h
  · refine k_iconst i_127_50 ?_
    refine k_istore i_127_51 (Nat.le_of_ble_eq_true rfl) ?_
    dsimp only [q_st1, q_st2, q_unl]
    exact l_rest_w hT hR hw hn h01 hel hb (fun f hf => ⟨rfl, f, rfl, hf⟩) _ f 1 none none none none none hi (Or.inl rfl) (Nat.lt_succ_self _)
end MR
