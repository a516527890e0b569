/-! THE FIXPOINT, as mathematics -/
def fx (T : Tn) (nt : Int) (el : Nat) (b B F : Int) (g : Int → Int) : Prop := ∀ s : Int, 0 ≤ s → s < 17 * tN T → (0 ≤ g s ∧ g s ≤ F) ∧ (s / 17 = b → g s = 0) ∧ (s / 17 ≠ b → mHouse T s → g s = F) ∧ (s / 17 ≠ b → ¬ mHouse T s → ∀ q : Int, 0 ≤ q → q < 4 → 0 ≤ mE T el s q → g s ≤ g (mE T el s q) + B * tPrice T nt (mRun s q) + 1) ∧ (s / 17 ≠ b → g s < F → ∃ q : Int, (0 ≤ q ∧ q < 4) ∧ 0 ≤ mE T el s q ∧ g s = g (mE T el s q) + B * tPrice T nt (mRun s q) + 1)
theorem mE_run {T : Tn} {el : Nat} {s q : Int} (h : 0 ≤ mE T el s q) : mRun s q ≤ 4 := by
  unfold mE at h
  split at h <;> omega
theorem mFix.fx {T : Tn} (hw : tWF T) {nt : Int} {el : Nat} {b : Int} {f : Nat → Int} (h : mFix T nt el b f) : fx T nt el b 1000 100000000 (fun s => f s.toNat) := by
  intro s s0 s1
  obtain ⟨h1, h2, h3, h4⟩ := h.1 s s0 s1
  refine ⟨h1, h2, h3, fun hb hh q q0 q1 q2 => h.2 s s0 s1 hb hh q q0 q1 q2, fun hb hlt => ?_⟩
  dsimp only at hlt ⊢
  obtain ⟨q, q1, q2, q3⟩ := h4 hb hlt
  have hh : ¬ mHouse T s := fun z => by have := h3 hb z; unfold mFAR at this; omega
  refine ⟨q, q1, q2, ?_⟩
  have := h.2 s s0 s1 hb hh q q1.1 q1.2 q2
  unfold mC at q3 this
  omega
theorem tPart4 {T : Tn} (hw : tWF T) {o : Int} (h1 : 0 ≤ o) (h2 : o ≤ 4) : 0 ≤ tPart T o ∧ tPart T o ≤ 144 := by
  obtain ⟨-, -, -, ⟨r1, r2⟩, -⟩ := hw
  have h3 : 0 ≤ tR T * o := Int.mul_nonneg (by omega) h1
  have h4 : tR T * o ≤ 9 * 4 := Int.mul_le_mul r2 h2 h1 (by decide)
  have h5 : 0 ≤ tR T * o * o := Int.mul_nonneg h3 h1
  have h6 : tR T * o * o ≤ 36 * 4 := Int.mul_le_mul (by omega) h2 h1 (by decide)
  unfold tPart
  split
  · omega
  · split <;> omega
theorem tPrice4 {T : Tn} (hw : tWF T) {nt r : Int} (h : r ≤ 4) : 0 ≤ tPrice T nt r ∧ tPrice T nt r ≤ 297 := by
  have hf := hw.2.2.1
  have ha := hw.2.2.2.2.2.2.1
  unfold tPrice
  split
  · omega
  · rename_i h1
    have := tPart4 hw (o := r - tF T) (by omega) (by omega)
    split <;> omega
/-- two fixpoints of one system are one -/
theorem fx_le {T : Tn} (hw : tWF T) {nt : Int} {el : Nat} {b B F : Int} (hB : 0 ≤ B) {g g' : Int → Int} (h : fx T nt el b B F g) (h' : fx T nt el b B F g') : ∀ (n : Nat) (s : Int), 0 ≤ s → s < 17 * tN T → g s ≤ n → g' s ≤ g s := by
  intro n
  induction n with
  | zero =>
    intro s s0 s1 hn
    by_cases hb : s / 17 = b
    · rw [(h s s0 s1).2.1 hb, (h' s s0 s1).2.1 hb]; exact Int.le_refl _
    · by_cases hF : g s < F
      · obtain ⟨q, q1, q2, q3⟩ := (h s s0 s1).2.2.2.2 hb hF
        have h1 := mE_range hw (el := el) ⟨s0, s1⟩ q1
        have h2 := (h (mE T el s q) q2 h1.2).1
        have h3 := (tPrice4 hw (nt := nt) (mE_run q2)).1
        have h4 : 0 ≤ B * tPrice T nt (mRun s q) := Int.mul_nonneg hB h3
        omega
      · have h1 := (h s s0 s1).1
        have h2 := (h' s s0 s1).1
        omega
  | succ n ih =>
    intro s s0 s1 hn
    by_cases hb : s / 17 = b
    · rw [(h s s0 s1).2.1 hb, (h' s s0 s1).2.1 hb]; exact Int.le_refl _
    · by_cases hF : g s < F
      · obtain ⟨q, q1, q2, q3⟩ := (h s s0 s1).2.2.2.2 hb hF
        have h1 := mE_range hw (el := el) ⟨s0, s1⟩ q1
        have h3 := (tPrice4 hw (nt := nt) (mE_run q2)).1
        have h4 : 0 ≤ B * tPrice T nt (mRun s q) := Int.mul_nonneg hB h3
        have hh : ¬ mHouse T s := fun z => by have := (h s s0 s1).2.2.1 hb z; omega
        have h5 := ih (mE T el s q) q2 h1.2 (by omega)
        have h6 := (h' s s0 s1).2.2.2.1 hb hh q q1.1 q1.2 q2
        omega
      · have h1 := (h s s0 s1).1
        have h2 := (h' s s0 s1).1
        omega
theorem fx_eq {T : Tn} (hw : tWF T) {nt : Int} {el : Nat} {b B F : Int} (hB : 0 ≤ B) {g g' : Int → Int} (h : fx T nt el b B F g) (h' : fx T nt el b B F g') {s : Int} (s0 : 0 ≤ s) (s1 : s < 17 * tN T) : g s = g' s := by
  have h1 := (h s s0 s1).1
  have h2 := (h' s s0 s1).1
  have h3 := fx_le hw hB h h' (g s).toNat s s0 s1 (by omega)
  have h4 := fx_le hw hB h' h (g' s).toNat s s0 s1 (by omega)
  omega
/-- how many states, not at the goal, have a value of at most v -/
def cnt (g : Int → Int) (b v : Int) : Nat → Int
  | 0 => 0
  | k + 1 => cnt g b v k + (if (k : Int) / 17 ≠ b ∧ g k ≤ v then 1 else 0)
theorem cnt_S {g : Int → Int} {b v : Int} (k : Nat) : cnt g b v (k + 1) = cnt g b v k + (if (k : Int) / 17 ≠ b ∧ g k ≤ v then 1 else 0) := rfl
theorem cnt_mono {g : Int → Int} {b v v' : Int} (h : v ≤ v') : ∀ k, cnt g b v k ≤ cnt g b v' k
  | 0 => Int.le_refl _
  | k + 1 => by
    have := cnt_mono (g := g) (b := b) h k
    simp only [cnt_S]
    split
    · rw [if_pos (by omega)]; omega
    · split <;> omega
theorem cnt_lt {g : Int → Int} {b v v' : Int} (h : v ≤ v') {s : Nat} (hb : (s : Int) / 17 ≠ b) (h1 : v < g s) (h2 : g s ≤ v') : ∀ k, s < k → cnt g b v k + 1 ≤ cnt g b v' k
  | 0, hk => by omega
  | k + 1, hk => by
    have h0 := cnt_mono (g := g) (b := b) h k
    by_cases e : s = k
    · subst e
      simp only [cnt_S]
      rw [if_neg (by omega), if_pos ⟨hb, h2⟩]
      omega
    · have := cnt_lt (g := g) (b := b) h hb h1 h2 k (by omega)
      simp only [cnt_S]
      split
      · rw [if_pos (by omega)]; omega
      · split <;> omega
theorem cnt_pos {g : Int → Int} {b v : Int} {s : Nat} (hb : (s : Int) / 17 ≠ b) (h2 : g s ≤ v) : ∀ k, s < k → 1 ≤ cnt g b v k
  | 0, hk => by omega
  | k + 1, hk => by
    by_cases e : s = k
    · subst e
      have : ∀ k, 0 ≤ cnt g b v k := by
        intro k
        induction k with
        | zero => exact Int.le_refl _
        | succ k ih => rw [cnt_S]; split <;> omega
      simp only [cnt_S]
      rw [if_pos ⟨hb, h2⟩]
      have := this s
      omega
    · have := cnt_pos (g := g) hb h2 k (by omega)
      simp only [cnt_S]
      split <;> omega
theorem cnt_le1 {g : Int → Int} {b v : Int} (a : Nat) : ∀ j : Nat, cnt g b v (a + j) ≤ cnt g b v a + j
  | 0 => by simp
  | j + 1 => by
    have := cnt_le1 (g := g) (b := b) (v := v) a j
    rw [show a + (j + 1) = (a + j) + 1 by omega]
    simp only [cnt_S]
    split <;> omega
theorem cnt_goal {g : Int → Int} {b v : Int} (a : Nat) (ha : ((17 * a : Nat) : Int) = 17 * b) : ∀ j : Nat, j ≤ 17 → cnt g b v (17 * a + j) = cnt g b v (17 * a)
  | 0, _ => by simp
  | j + 1, hj => by
    have := cnt_goal (g := g) (v := v) a ha j (by omega)
    rw [show 17 * a + (j + 1) = (17 * a + j) + 1 by omega]
    simp only [cnt_S]
    rw [this, if_neg (by omega)]
    omega
theorem cnt_le {g : Int → Int} {b v : Int} (hb : 0 ≤ b) : ∀ c : Nat, cnt g b v (17 * c) ≤ 17 * c - (if b < c then 17 else 0)
  | 0 => by
    rw [if_neg (by omega)]
    exact Int.le_refl _
  | c + 1 => by
    have ih := cnt_le (g := g) (v := v) hb c
    by_cases e : (c : Int) = b
    · have h := cnt_goal (g := g) (b := b) (v := v) c (by omega) 17 (by omega)
      rw [show 17 * (c + 1) = 17 * c + 17 by omega, h, if_pos (by omega)]
      rw [if_neg (by omega)] at ih
      omega
    · have h := cnt_le1 (g := g) (b := b) (v := v) (17 * c) 17
      rw [show 17 * (c + 1) = 17 * c + 17 by omega]
      split
      · rw [if_pos (by omega)] at ih; omega
      · rw [if_neg (by omega)] at ih; omega
theorem cnt_323 {T : Tn} (hw : tWF T) {g : Int → Int} {b v : Int} (hb : 0 ≤ b ∧ b < tN T) : cnt g b v (17 * tN T).toNat ≤ 323 := by
  have hN := tN_le hw
  obtain ⟨n, hn⟩ : ∃ n : Nat, tN T = n := ⟨(tN T).toNat, by omega⟩
  have h := cnt_le (g := g) (v := v) hb.1 n
  rw [if_pos (by omega)] at h
  rw [show (17 * tN T).toNat = 17 * n by omega]
  omega
/-- what a value is: pence and steps -/
theorem fx_ps {T : Tn} (hw : tWF T) {nt : Int} {el : Nat} {b : Int} (hb : 0 ≤ b ∧ b < tN T) {B F : Int} (hB : 0 ≤ B) {g : Int → Int} (h : fx T nt el b B F g) : ∀ (n : Nat) (s : Int), 0 ≤ s → s < 17 * tN T → g s ≤ n → g s < F → ∃ p k : Int, g s = B * p + k ∧ 0 ≤ k ∧ (s / 17 ≠ b → k ≤ cnt g b (g s) (17 * tN T).toNat) ∧ (s / 17 = b → k = 0) ∧ 0 ≤ p ∧ p ≤ 297 * k := by
  intro n
  induction n with
  | zero =>
    intro s s0 s1 hn hF
    by_cases hsb : s / 17 = b
    · exact ⟨0, 0, by rw [(h s s0 s1).2.1 hsb]; simp, by omega, fun z => absurd hsb z, fun _ => rfl, by omega, by omega⟩
    · obtain ⟨q, q1, q2, q3⟩ := (h s s0 s1).2.2.2.2 hsb hF
      have h1 := mE_range hw (el := el) ⟨s0, s1⟩ q1
      have h2 := (h (mE T el s q) q2 h1.2).1
      have h3 := (tPrice4 hw (nt := nt) (mE_run q2)).1
      have h4 : 0 ≤ B * tPrice T nt (mRun s q) := Int.mul_nonneg hB h3
      omega
  | succ n ih =>
    intro s s0 s1 hn hF
    by_cases hsb : s / 17 = b
    · exact ⟨0, 0, by rw [(h s s0 s1).2.1 hsb]; simp, by omega, fun z => absurd hsb z, fun _ => rfl, by omega, by omega⟩
    · obtain ⟨q, q1, q2, q3⟩ := (h s s0 s1).2.2.2.2 hsb hF
      have h1 := mE_range hw (el := el) ⟨s0, s1⟩ q1
      have h2 := (h (mE T el s q) q2 h1.2).1
      have h3 := tPrice4 hw (nt := nt) (mE_run q2)
      have h4 : 0 ≤ B * tPrice T nt (mRun s q) := Int.mul_nonneg hB h3.1
      obtain ⟨p, k, e1, e2, e3, e4, e5, e6⟩ := ih (mE T el s q) q2 h1.2 (by omega) (by omega)
      refine ⟨p + tPrice T nt (mRun s q), k + 1, ?_, by omega, fun _ => ?_, fun z => absurd z hsb, by omega, by omega⟩
      · rw [q3, e1, Int.mul_add]; omega
      · obtain ⟨m, rfl⟩ : ∃ m : Nat, s = m := ⟨s.toNat, by omega⟩
        by_cases hnb : mE T el m q / 17 = b
        · rw [e4 hnb]
          exact cnt_pos hsb (Int.le_refl _) _ (by omega)
        · have h6 := e3 hnb
          have h7 := cnt_lt (g := g) (b := b) (v := g (mE T el m q)) (v' := g m) (by omega) hsb (by omega) (Int.le_refl _) (17 * tN T).toNat (by omega)
          omega
theorem fx_ps3 {T : Tn} (hw : tWF T) {nt : Int} {el : Nat} {b : Int} (hb : 0 ≤ b ∧ b < tN T) {B F : Int} (hB : 0 ≤ B) {g : Int → Int} (h : fx T nt el b B F g) {s : Int} (s0 : 0 ≤ s) (s1 : s < 17 * tN T) (hF : g s < F) : ∃ p k : Int, g s = B * p + k ∧ (0 ≤ k ∧ k ≤ 323) ∧ (0 ≤ p ∧ p ≤ 95931) := by
  obtain ⟨p, k, e1, e2, e3, e4, e5, e6⟩ := fx_ps hw hb hB h (g s).toNat s s0 s1 (by have := (h s s0 s1).1; omega) hF
  have h3 := cnt_323 hw (g := g) (v := g s) hb
  by_cases hsb : s / 17 = b
  · have := e4 hsb; exact ⟨p, k, e1, by omega, by omega⟩
  · have := e3 hsb; exact ⟨p, k, e1, by omega, by omega⟩
/-- the class's weights: 1024 pence to a step, no way 2^30 -/
def g24 (g : Int → Int) (s : Int) : Int := if g s < 100000000 then 1024 * (g s / 1000) + g s % 1000 else 1073741824
theorem fx_24 {T : Tn} (hw : tWF T) {nt : Int} {el : Nat} {b : Int} (hb : 0 ≤ b ∧ b < tN T) {g : Int → Int} (h : fx T nt el b 1000 100000000 g) : fx T nt el b 1024 1073741824 (g24 g) := by
  intro s s0 s1
  obtain ⟨h1, h2, h3, h4, h5⟩ := h s s0 s1
  have val : ∀ u : Int, 0 ≤ u → u < 17 * tN T → g u < 100000000 → ∃ p k : Int, g u = 1000 * p + k ∧ g24 g u = 1024 * p + k ∧ (0 ≤ k ∧ k ≤ 323) ∧ (0 ≤ p ∧ p ≤ 95931) := by
    intro u u0 u1 hu
    obtain ⟨p, k, e1, e2, e3⟩ := fx_ps3 hw hb (by decide) h u0 u1 hu
    refine ⟨p, k, e1, ?_, e2, e3⟩
    unfold g24
    rw [if_pos hu, show g u / 1000 = p by omega, show g u % 1000 = k by omega]
  have far : ∀ u : Int, ¬ g u < 100000000 → g24 g u = 1073741824 := fun u hu => by unfold g24; rw [if_neg hu]
  refine ⟨?_, fun z => ?_, fun z1 z2 => ?_, fun z1 z2 q q0 q1 q2 => ?_, fun z hlt => ?_⟩
  · by_cases hg : g s < 100000000
    · obtain ⟨p, k, e1, e2, e3, e4⟩ := val s s0 s1 hg
      omega
    · rw [far s hg]; omega
  · unfold g24; rw [h2 z]; decide
  · rw [far s (by rw [h3 z1 z2]; omega)]
  · have e := h4 z1 z2 q q0 q1 q2
    have r := mE_range hw (el := el) ⟨s0, s1⟩ ⟨q0, q1⟩
    have pr := tPrice4 hw (nt := nt) (mE_run q2)
    by_cases hn : g (mE T el s q) < 100000000
    · obtain ⟨p', k', a1, a2, a3, a4⟩ := val _ q2 r.2 hn
      obtain ⟨p, k, c1, c2, c3, c4⟩ := val s s0 s1 (by omega)
      rw [c2, a2]
      omega
    · rw [far _ hn]
      by_cases hg : g s < 100000000
      · obtain ⟨p, k, c1, c2, c3, c4⟩ := val s s0 s1 hg
        omega
      · rw [far s hg]; omega
  · have hg : g s < 100000000 := by
      by_cases hg : g s < 100000000
      · exact hg
      · rw [far s hg] at hlt; omega
    obtain ⟨q, q1, q2, q3⟩ := h5 z hg
    have r := mE_range hw (el := el) ⟨s0, s1⟩ q1
    have pr := tPrice4 hw (nt := nt) (mE_run q2)
    obtain ⟨p', k', a1, a2, a3, a4⟩ := val _ q2 r.2 (by omega)
    obtain ⟨p, k, c1, c2, c3, c4⟩ := val s s0 s1 hg
    exact ⟨q, q1, q2, by rw [c2, a2]; omega⟩
/-- there is one: by a run of the reference over a memory made up for it -/
def dS (T : Tn) (nt : Int) : QS := (fun c k => if c = 0 then (match k with
  | 0 => tW T
  | 1 => tH T
  | 2 => (tMask T 1 : Int)
  | 3 => (tMask T 2 : Int)
  | 4 => tF T
  | 5 => tR T
  | 6 => tM T
  | 7 => tD T
  | 8 => tA T
  | _ => 0) else if c = 2 ∧ k = 2 then nt else 0, fun _ _ => 0, rM)
theorem mFix_ex {T : Tn} (hw : tWF T) {nt : Int} (h01 : nt = 0 ∨ nt = 1) {el : Nat} (hel : el < 2 ^ 31) {b : Int} (hb : 0 ≤ b ∧ b < tN T) : ∃ f, mFix T nt el b f := by
  have h := m_findRest (d := 0) (S := dS T nt) (T := T) (nt := nt) (el := el) (b := b) ⟨rfl, rfl, rfl, rfl, rfl, rfl, rfl, rfl, rfl⟩ rfl hw rfl h01 hel hb
  obtain ⟨-, n, r, V, -, S', -, -, f, -, hf⟩ := h
  exact ⟨f, hf⟩
theorem fx_ex {T : Tn} (hw : tWF T) {nt : Int} (h01 : nt = 0 ∨ nt = 1) {el : Nat} (hel : el < 2 ^ 31) {b : Int} (hb : 0 ≤ b ∧ b < tN T) : ∃ g, fx T nt el b 1024 1073741824 g := by
  obtain ⟨f, hf⟩ := mFix_ex hw h01 hel hb
  exact ⟨_, fx_24 hw hb (hf.fx hw)⟩
