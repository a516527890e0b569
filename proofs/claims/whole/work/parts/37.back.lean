/-! STEPS BACK; arrivals by the runs they end with -/
def opp (q : Int) : Int := (q + 2) % 4
theorem sq_dm {w x y : Int} (hw : 2 ≤ w ∧ w ≤ 5) (hx : 0 ≤ x ∧ x < w) : (y * w + x) % w = x ∧ (y * w + x) / w = y := by
  rcases (show w = 2 ∨ w = 3 ∨ w = 4 ∨ w = 5 by omega) with rfl | rfl | rfl | rfl <;> omega
theorem sq_self {w c : Int} (hw : 2 ≤ w ∧ w ≤ 5) : c / w * w + c % w = c := by
  rcases (show w = 2 ∨ w = 3 ∨ w = 4 ∨ w = 5 by omega) with rfl | rfl | rfl | rfl <;> omega
theorem opp_d (q : Int) (hq : 0 ≤ q ∧ q < 4) : dxx (opp q) = - dxx q ∧ dyy (opp q) = - dyy q ∧ (0 ≤ opp q ∧ opp q < 4) ∧ opp (opp q) = q := by
  rcases (show q = 0 ∨ q = 1 ∨ q = 2 ∨ q = 3 by omega) with rfl | rfl | rfl | rfl <;> decide
/-- a step can be gone back -/
theorem nx_back {T : Tn} (hw : tWF T) {p q : Int} (hp : tOpen T p = true) (hq : 0 ≤ q ∧ q < 4) (h : 0 ≤ nx T p q) : nx T (nx T p q) (opp q) = p := by
  obtain ⟨w1, w2, -⟩ := id hw
  have hpr := open_lt hp
  obtain ⟨o1, o2, o3, o4⟩ := opp_d q hq
  have hx0 : 0 ≤ p % tW T ∧ p % tW T < tW T := ⟨Int.emod_nonneg _ (by omega), Int.emod_lt_of_pos _ (by omega)⟩
  have hself := sq_self (c := p) w1
  have hN : tN T = tW T * tH T := rfl
  have hy0 : 0 ≤ p / tW T := Int.ediv_nonneg hpr.1 (by omega)
  have hy1 : p / tW T < tH T := by
    refine Int.ediv_lt_of_lt_mul (by omega) ?_
    rw [Int.mul_comm]
    exact hpr.2
  unfold nx at h
  split at h
  · rename_i hop
    have e1 : nx T p q = tSq T (p % tW T + dxx q) (p / tW T + dyy q) := by unfold nx; rw [if_pos hop]
    have hin : 0 ≤ p % tW T + dxx q ∧ p % tW T + dxx q < tW T ∧ 0 ≤ p / tW T + dyy q ∧ p / tW T + dyy q < tH T := by
      by_cases z : 0 ≤ p % tW T + dxx q ∧ p % tW T + dxx q < tW T ∧ 0 ≤ p / tW T + dyy q ∧ p / tW T + dyy q < tH T
      · exact z
      · unfold tSq at h
        rw [if_neg z] at h
        omega
    have e2 : nx T p q = (p / tW T + dyy q) * tW T + (p % tW T + dxx q) := by
      rw [e1]; unfold tSq; rw [if_pos hin]
    obtain ⟨d1, d2⟩ := sq_dm (y := p / tW T + dyy q) w1 ⟨hin.1, hin.2.1⟩
    rw [e2]
    have e3 : tSq T (((p / tW T + dyy q) * tW T + (p % tW T + dxx q)) % tW T + dxx (opp q)) (((p / tW T + dyy q) * tW T + (p % tW T + dxx q)) / tW T + dyy (opp q)) = p := by
      rw [d1, d2, o1, o2, show p % tW T + dxx q + -dxx q = p % tW T by omega, show p / tW T + dyy q + -dyy q = p / tW T by omega]
      unfold tSq
      rw [if_pos ⟨hx0.1, hx0.2, hy0, hy1⟩]
      exact hself
    unfold nx
    rw [e3, if_pos hp]
  · omega
/-- an arrival at a square by a direction, as the r-th step of a run, behind k steps -/
def ARr (T : Tn) (nt a : Int) (k : Nat) (c q r v : Int) : Prop := ∃ s u : Int, PW T nt a k s u ∧ 0 ≤ mE T (tMask T 2) s q ∧ mE T (tMask T 2) s q / 17 = c ∧ mRun s q = r ∧ v = u + tPrice T nt r
/-- a square from which a direction begins a run (-1: any) -/
def TD (T : Tn) (nt a : Int) (k : Nat) (c q v : Int) : Prop := ∃ t : Int, PW T nt a k t v ∧ t / 17 = c ∧ (q = -1 ∨ mRun t q = 1)
/-- such a state is one that stands on a square -/
theorem PW_Rs {T : Tn} (hw : tWF T) {nt a : Int} (ho : tOpen T a = true) : ∀ (k : Nat) (t v : Int), PW T nt a k t v → ∃ c l r, Rs T t c l r
  | 0, t, v, h => by
    obtain ⟨h1, h2⟩ := h
    exact ⟨a, -1, 0, open_lt ho, ho, Or.inl ⟨h1, rfl, rfl⟩⟩
  | k + 1, t, v, h => by
    obtain ⟨s, q, u, h1, h2, h3, h4, h5⟩ := h
    obtain ⟨c, l, r, hr⟩ := PW_Rs hw ho k s u h1
    have := (hr.next hw h2 (by omega)).1
    rw [h4] at this
    exact ⟨_, _, _, this⟩
theorem PW_sq {T : Tn} (hw : tWF T) {nt a : Int} (ho : tOpen T a = true) {k : Nat} {t v : Int} (h : PW T nt a k t v) : tOpen T (t / 17) = true := by
  obtain ⟨c, l, r, hr⟩ := PW_Rs hw ho k t v h
  rw [hr.range.2.1]
  exact hr.2.1
theorem mE_sq {T : Tn} (hw : tWF T) {s q : Int} (hs : 0 ≤ s ∧ s < 17 * tN T) (hq : 0 ≤ q ∧ q < 4) (h : 0 ≤ mE T (tMask T 2) s q) : mE T (tMask T 2) s q / 17 = nx T (s / 17) q ∧ 0 ≤ nx T (s / 17) q ∧ mE T (tMask T 2) s q = gs T (nx T (s / 17) q) q (mRun s q) := by
  have h5 := mE_run h
  have e := mE_of hw hs hq h5
  have h6 := mRun_le s q hs.1
  by_cases hn : nx T (s / 17) q < 0
  · rw [if_pos hn] at e; omega
  · rw [if_neg hn] at e
    exact ⟨by rw [e]; exact gs_div hq (by omega), by omega, e⟩
/-- one that arrives by a run's first step -/
theorem ARr_1 {T : Tn} (hw : tWF T) {nt a : Int} (ho : tOpen T a = true) {k : Nat} {c q v : Int} (hq : 0 ≤ q ∧ q < 4) (hc : tOpen T c = true) : ARr T nt a k c q 1 v ↔ 0 ≤ nx T c (opp q) ∧ ∃ u, TD T nt a k (nx T c (opp q)) q u ∧ v = u + tPrice T nt 1 := by
  have har := open_lt ho
  obtain ⟨o1, o2, o3, o4⟩ := opp_d q hq
  constructor
  · rintro ⟨s, u, h1, h2, h3, h4, h5⟩
    have hs := (PW_range hw har k s u h1).1
    obtain ⟨e1, e2, e3⟩ := mE_sq hw hs hq h2
    have hb := nx_back hw (PW_sq hw ho h1) hq e2
    have hcn : nx T (s / 17) q = c := e1.symm.trans h3
    rw [hcn] at hb
    rw [hb]
    exact ⟨by omega, u, ⟨s, h1, rfl, Or.inr h4⟩, h5⟩
  · rintro ⟨h0, u, ⟨t, h1, h2, h3⟩, h5⟩
    have ht := (PW_range hw har k t u h1).1
    have hrun : mRun t q = 1 := by
      rcases h3 with z | z
      · omega
      · exact z
    have hb := nx_back hw hc o3 h0
    rw [o4] at hb
    have e := mE_of hw ht hq (by omega)
    rw [h2, hb] at e
    have hcr := open_lt hc
    rw [if_neg (by omega), hrun] at e
    have hg := gs_range (T := T) (c := c) (q := q) (r := 1) hcr hq (by omega)
    exact ⟨t, u, h1, by rw [e]; exact hg.1, by rw [e]; exact gs_div hq (by omega), hrun, h5⟩
/-- one that arrives by a later step -/
theorem ARr_S {T : Tn} (hw : tWF T) {nt a : Int} (ho : tOpen T a = true) {k : Nat} {c q r v : Int} (hq : 0 ≤ q ∧ q < 4) (hr : 1 ≤ r ∧ r ≤ 3) (hc : tOpen T c = true) : ARr T nt a (k + 1) c q (r + 1) v ↔ 0 ≤ nx T c (opp q) ∧ tElb T (nx T c (opp q)) = false ∧ ∃ u, ARr T nt a k (nx T c (opp q)) q r u ∧ v = u + tPrice T nt (r + 1) := by
  have har := open_lt ho
  obtain ⟨o1, o2, o3, o4⟩ := opp_d q hq
  constructor
  · rintro ⟨s, u, h1, h2, h3, h4, h5⟩
    have hs := (PW_range hw har (k + 1) s u h1).1
    obtain ⟨e1, e2, e3⟩ := mE_sq hw hs hq h2
    have hb := nx_back hw (PW_sq hw ho h1) hq e2
    have hcn : nx T (s / 17) q = c := e1.symm.trans h3
    rw [hcn] at hb
    obtain ⟨s2, q2, u2, g1, g2, g3, g4, g5⟩ := h1
    have hs2 := (PW_range hw har k s2 u2 g1).1
    obtain ⟨f1, f2, f3⟩ := mE_sq hw hs2 g2 (by omega)
    rw [g4] at f1 f3
    have hm2 := mRun_le s2 q2 hs2.1
    have hm3 := mE_run (T := T) (el := tMask T 2) (s := s2) (q := q2) (by omega)
    rw [f3, mRun_gs (by omega) g2 (by omega)] at h4
    by_cases z : tElb T (nx T (s2 / 17) q2) = false ∧ q2 = q
    · obtain ⟨z1, rfl⟩ := z
      rw [if_pos ⟨z1, rfl⟩] at h4
      rw [hb]
      refine ⟨by omega, by rw [f1]; exact z1, u, ⟨s2, u2, g1, by omega, by rw [g4], by omega, by rw [g5]; congr 2; omega⟩, h5⟩
    · rw [if_neg z] at h4
      omega
  · rintro ⟨h0, he, u, ⟨s, u2, g1, g2, g3, g4, g5⟩, h5⟩
    have hs := (PW_range hw har k s u2 g1).1
    obtain ⟨f1, f2, f3⟩ := mE_sq hw hs hq g2
    have hb := nx_back hw hc o3 h0
    rw [o4] at hb
    have hsq : nx T (s / 17) q = nx T c (opp q) := f1.symm.trans g3
    have ht := mE_range hw (el := tMask T 2) hs hq
    have hrun : mRun (mE T (tMask T 2) s q) q = r + 1 := by
      rw [f3, mRun_gs (by omega) hq (by omega), if_pos ⟨by rw [hsq]; exact he, rfl⟩]
      omega
    have e := mE_of hw (s := mE T (tMask T 2) s q) ⟨g2, ht.2⟩ hq (by omega)
    rw [g3, hb] at e
    have hcr := open_lt hc
    rw [if_neg (by omega), hrun] at e
    have hg := gs_range (T := T) (c := c) (q := q) (r := r + 1) hcr hq (by omega)
    refine ⟨mE T (tMask T 2) s q, u, ⟨s, q, u2, g1, hq, g2, rfl, by rw [g5, g4]⟩, by rw [e]; exact hg.1, by rw [e]; exact gs_div hq (by omega), hrun, h5⟩
theorem ARr_0 {T : Tn} {nt a : Int} {c q r v : Int} (hr : 2 ≤ r) : ¬ ARr T nt a 0 c q r v := by
  rintro ⟨s, u, ⟨h1, h2⟩, -, -, h4, -⟩
  rw [h1] at h4
  unfold mRun at h4
  rw [if_neg (by omega)] at h4
  omega
/-- any arrival -/
def AR (T : Tn) (nt a : Int) (k : Nat) (c q v : Int) : Prop := ∃ r : Int, (1 ≤ r ∧ r ≤ 4) ∧ ARr T nt a k c q r v
theorem PW_AR {T : Tn} (hw : tWF T) {nt a : Int} (ho : tOpen T a = true) {k : Nat} {c q v : Int} (hq : -1 ≤ q ∧ q < 4) : TD T nt a (k + 1) c q v ↔ ∃ l : Int, (0 ≤ l ∧ l < 4) ∧ ¬ (l = q ∧ tElb T c = false) ∧ AR T nt a k c l v := by
  have har := open_lt ho
  constructor
  · rintro ⟨t, ⟨s, l, u, g1, g2, g3, g4, g5⟩, h2, h3⟩
    have hs := (PW_range hw har k s u g1).1
    obtain ⟨f1, f2, f3⟩ := mE_sq hw hs g2 (by omega)
    rw [g4, h2] at f1
    have hm := mRun_le s l hs.1
    have hm3 := mE_run (T := T) (el := tMask T 2) (s := s) (q := l) (by omega)
    refine ⟨l, g2, ?_, mRun s l, by omega, s, u, g1, by omega, by rw [g4, h2], rfl, g5⟩
    rintro ⟨z1, z2⟩
    subst z1
    rcases h3 with z | z
    · omega
    · rw [g4, ← f1] at f3
      rw [f3, mRun_gs (by omega) g2 (by omega), if_pos ⟨z2, rfl⟩] at z
      omega
  · rintro ⟨l, hl, hn, r, hr, s, u, g1, g2, g3, g4, g5⟩
    have hs := (PW_range hw har k s u g1).1
    obtain ⟨f1, f2, f3⟩ := mE_sq hw hs hl g2
    rw [g3] at f1
    refine ⟨mE T (tMask T 2) s l, ⟨s, l, u, g1, hl, g2, rfl, by rw [g4]; exact g5⟩, g3, ?_⟩
    by_cases hq1 : q = -1
    · exact Or.inl hq1
    · right
      rw [f3, ← f1, g4, mRun_gs (by omega) hl hr, if_neg]
      rintro ⟨z1, z2⟩
      exact hn ⟨z2, z1⟩
