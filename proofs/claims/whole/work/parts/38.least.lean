/-! THE CLASS: ways of just so many steps -/
def tnd (R : Int → Int) (el : Bool) (q : Int) : Nat → Int
  | 0 => 1073741824
  | k + 1 => if (k : Int) = q ∧ el = false then tnd R el q k else min (tnd R el q k) (R k)
theorem tnd_le {R : Int → Int} {el : Bool} {q : Int} : ∀ k, tnd R el q k ≤ 1073741824
  | 0 => Int.le_refl _
  | k + 1 => by
    have := tnd_le (R := R) (el := el) (q := q) k
    unfold tnd; split <;> omega
theorem tnd_nn {R : Int → Int} {el : Bool} {q : Int} (h : ∀ l : Int, 0 ≤ l → l < 4 → 0 ≤ R l) : ∀ k : Nat, k ≤ 4 → 0 ≤ tnd R el q k
  | 0, _ => by unfold tnd; omega
  | k + 1, hk => by
    have h1 := tnd_nn (el := el) (q := q) h k (by omega)
    have h2 := h k (by omega) (by omega)
    unfold tnd; split <;> omega
theorem tnd_min {R : Int → Int} {el : Bool} {q : Int} {P : Int → Int → Prop} (h : ∀ l : Int, 0 ≤ l → l < 4 → MinOf (P l) 1073741824 (R l)) : ∀ k : Nat, k ≤ 4 → MinOf (fun v => ∃ l : Int, (0 ≤ l ∧ l < k) ∧ ¬ (l = q ∧ el = false) ∧ P l v) 1073741824 (tnd R el q k)
  | 0, _ => MinOf.none (by rintro v ⟨l, h1, -⟩; omega)
  | k + 1, hk => by
    have ih := tnd_min (el := el) (q := q) h k (by omega)
    obtain ⟨a1, a2, a3⟩ := ih
    unfold tnd
    by_cases e : (k : Int) = q ∧ el = false
    · rw [if_pos e]
      refine ⟨a1, ?_, a3.imp id (fun ⟨l, b1, b2, b3⟩ => ⟨l, by omega, b2, b3⟩)⟩
      rintro v ⟨l, b1, b2, b3⟩
      by_cases z : l = k
      · subst z; exact absurd e b2
      · exact a2 v ⟨l, by omega, b2, b3⟩
    · rw [if_neg e]
      obtain ⟨c1, c2, c3⟩ := h k (by omega) (by omega)
      refine ⟨by omega, ?_, ?_⟩
      · rintro v ⟨l, b1, b2, b3⟩
        by_cases z : l = k
        · subst z; have := c2 v b3; omega
        · have := a2 v ⟨l, by omega, b2, b3⟩; omega
      · rcases Int.le_total (tnd R el q k) (R k) with z | z
        · rw [Int.min_eq_left z]
          exact a3.imp id (fun ⟨l, b1, b2, b3⟩ => ⟨l, by omega, b2, b3⟩)
        · rw [Int.min_eq_right z]
          exact c3.imp id (fun w => ⟨k, by omega, e, w⟩)
def ix (j : Nat) (c l : Int) : Nat := ((((j % 5 : Nat) : Int)) * 80 + c * 4 + l).toNat
/-- a row of arrivals is as it should be -/
def rowOK (T : Tn) (nt a : Int) (f : Nat → Int) (j : Nat) : Prop := ∀ c l : Int, tOpen T c = true → 0 ≤ l → l < 4 → match j with
  | 0 => f (ix 0 c l) = if c = a then 0 else 1073741824
  | k + 1 => MinOf (AR T nt a k c l) 1073741824 (f (ix (k + 1) c l))
theorem turned_min {T : Tn} (hw : tWF T) {nt a : Int} (ho : tOpen T a = true) {f : Nat → Int} {j : Nat} (hr : rowOK T nt a f j) {c q : Int} (hc : tOpen T c = true) (hq : -1 ≤ q ∧ q < 4) : MinOf (TD T nt a j c q) 1073741824 (tnd (fun l => f (ix j c l)) (tElb T c) q 4) := by
  cases j with
  | zero =>
    have hR : ∀ l : Int, 0 ≤ l → l < 4 → f (ix 0 c l) = if c = a then 0 else 1073741824 := fun l l0 l1 => hr c l hc l0 l1
    have hP : ∀ l : Int, 0 ≤ l → l < 4 → MinOf (fun v => c = a ∧ v = 0) 1073741824 (f (ix 0 c l)) := by
      intro l l0 l1
      rw [hR l l0 l1]
      split
      · rename_i e; exact ⟨by omega, fun v hv => by rw [hv.2]; omega, Or.inr ⟨e, rfl⟩⟩
      · rename_i e; exact MinOf.none (fun v hv => e hv.1)
    refine (tnd_min (R := fun l => f (ix 0 c l)) (el := tElb T c) (q := q) hP 4 (by omega)).iff (fun v => ?_)
    constructor
    · rintro ⟨t, ⟨h1, h2⟩, h3, h4⟩
      by_cases z : q = 0
      · exact ⟨1, by omega, by omega, by omega, h2⟩
      · exact ⟨0, by omega, by omega, by omega, h2⟩
    · rintro ⟨l, h1, h2, h3, h4⟩
      refine ⟨17 * a + 16, ⟨rfl, h4⟩, by omega, Or.inr ?_⟩
      unfold mRun
      rw [if_neg (by omega)]
  | succ k =>
    have hP : ∀ l : Int, 0 ≤ l → l < 4 → MinOf (AR T nt a k c l) 1073741824 (f (ix (k + 1) c l)) := fun l l0 l1 => hr c l hc l0 l1
    refine (tnd_min (R := fun l => f (ix (k + 1) c l)) (el := tElb T c) (q := q) hP 4 (by omega)).iff (fun v => ?_)
    rw [PW_AR hw ho hq]
    constructor
    · rintro ⟨l, h1, h2, h3⟩; exact ⟨l, by omega, h2, h3⟩
    · rintro ⟨l, h1, h2, h3⟩; exact ⟨l, by omega, h2, h3⟩
/-- where the run of an arrival began -/
def Zr (T : Tn) (nt a q : Int) : Nat → Nat → Int → Int → Prop
  | 0, _, _, _ => False
  | 1, k, c, u => 0 ≤ nx T c (opp q) ∧ TD T nt a k (nx T c (opp q)) q u
  | r + 2, k, c, u => 0 ≤ nx T c (opp q) ∧ tElb T (nx T c (opp q)) = false ∧ ∃ k', k = k' + 1 ∧ Zr T nt a q (r + 1) k' (nx T c (opp q)) u
theorem ARr_Z {T : Tn} (hw : tWF T) {nt a : Int} (ho : tOpen T a = true) {q : Int} (hq : 0 ≤ q ∧ q < 4) : ∀ (r k : Nat) (c v : Int), r < 4 → tOpen T c = true → (ARr T nt a k c q ((r : Int) + 1) v ↔ ∃ u, Zr T nt a q (r + 1) k c u ∧ v = u + sm T nt (r + 1))
  | 0, k, c, v, _, hc => by
    rw [show ((0 : Nat) : Int) + 1 = 1 from rfl, ARr_1 hw ho hq hc]
    have e : sm T nt (0 + 1) = tPrice T nt 1 := by
      show 0 + tPrice T nt (((0 : Nat) : Int) + 1) = _
      rw [Int.zero_add]; rfl
    rw [e]
    constructor
    · rintro ⟨h1, u, h2, h3⟩; exact ⟨u, ⟨h1, h2⟩, h3⟩
    · rintro ⟨u, ⟨h1, h2⟩, h3⟩; exact ⟨h1, u, h2, h3⟩
  | r + 1, k, c, v, hr, hc => by
    have e : sm T nt (r + 1 + 1) = sm T nt (r + 1) + tPrice T nt (((r + 1 : Nat) : Int) + 1) := rfl
    cases k with
    | zero =>
      constructor
      · intro h; exact absurd h (ARr_0 (by omega))
      · rintro ⟨u, ⟨-, -, k', h, -⟩, -⟩; omega
    | succ k =>
      rw [ARr_S hw ho hq (r := ((r + 1 : Nat) : Int)) (by omega) hc]
      constructor
      · rintro ⟨h1, h2, u, h3, h4⟩
        rw [show ((r + 1 : Nat) : Int) = (r : Int) + 1 by omega, ARr_Z hw ho hq r k _ u (by omega) (nx_open h1)] at h3
        obtain ⟨u2, h5, h6⟩ := h3
        exact ⟨u2, ⟨h1, h2, k, rfl, h5⟩, by rw [e]; omega⟩
      · rintro ⟨u, ⟨h1, h2, k', h3, h4⟩, h5⟩
        have e2 : k' = k := by omega
        subst e2
        refine ⟨h1, h2, u + sm T nt (r + 1), ?_, by rw [e] at h5; omega⟩
        rw [show ((r + 1 : Nat) : Int) = (r : Int) + 1 by omega, ARr_Z hw ho hq r k' _ _ (by omega) (nx_open h1)]
        exact ⟨u, h4, rfl⟩
/-- comingIn's loop, m turns being left -/
def cI (T : Tn) (nt q : Int) (V : Nat → Int → Int) (s : Nat) : Nat → Int → Int
  | 0, _ => 1073741824
  | m + 1, c => if s < 4 - m then 1073741824 else if tAh T c (opp q) < 0 then 1073741824 else min 1073741824 (min (V (s - (4 - m)) (tAh T c (opp q)) + sm T nt (4 - m)) (if tElb T (tAh T c (opp q)) = true then 1073741824 else cI T nt q V s m (tAh T c (opp q))))
theorem cI_le {T : Tn} {nt q : Int} {V : Nat → Int → Int} {s : Nat} : ∀ m c, cI T nt q V s m c ≤ 1073741824
  | 0, _ => Int.le_refl _
  | m + 1, c => by unfold cI; split; exact Int.le_refl _; split <;> omega
theorem cI_min {T : Tn} (hw : tWF T) {nt a : Int} (ho : tOpen T a = true) {q : Int} (hq : 0 ≤ q ∧ q < 4) {V : Nat → Int → Int} {s : Nat} (hV : ∀ (j : Nat) (c : Int), j < s → s ≤ j + 4 → tOpen T c = true → MinOf (TD T nt a j c q) 1073741824 (V j c)) : ∀ (m : Nat) (c : Int), m < 4 → 4 - m ≤ s → 0 ≤ c → c < tN T → MinOf (fun v => ∃ (r : Nat) (u : Int), (1 ≤ r ∧ r ≤ m + 1) ∧ Zr T nt a q r (s - (4 - m)) c u ∧ v = u + sm T nt (r + (3 - m))) 1073741824 (cI T nt q V s (m + 1) c) := by
  have hN := tN_le hw
  obtain ⟨o1, o2, o3, o4⟩ := opp_d q hq
  have har := open_lt ho
  have TDr : ∀ (k : Nat) (c u : Int), TD T nt a k c q u → 0 ≤ u := by
    rintro k c u ⟨t, h, -⟩
    exact (PW_range hw har k t u h).2.1
  intro m
  induction m with
  | zero =>
    intro c hm hs c0 c1
    have e0 := tAh_nx hw (c := c) ⟨c0, c1⟩ o3
    have e1 : cI T nt q V s (0 + 1) c = if tAh T c (opp q) < 0 then 1073741824 else min 1073741824 (min (V (s - 4) (tAh T c (opp q)) + sm T nt 4) (if tElb T (tAh T c (opp q)) = true then 1073741824 else 1073741824)) := by
      show (if s < 4 - 0 then 1073741824 else _) = _
      rw [if_neg (by omega)]
      rfl
    rw [e1, e0]
    by_cases hn : nx T c (opp q) < 0
    · rw [if_pos hn]
      refine MinOf.none ?_
      rintro v ⟨r, u, h1, h2, h3⟩
      have : r = 1 := by omega
      subst this
      have := h2.1
      omega
    · rw [if_neg hn, ite_self]
      obtain ⟨v1, v2, v3⟩ := hV (s - 4) (nx T c (opp q)) (by omega) (by omega) (nx_open (by omega))
      have hsm := sm_range hw nt 4 (by omega)
      refine ⟨by omega, ?_, ?_⟩
      · rintro v ⟨r, u, h1, h2, h3⟩
        have : r = 1 := by omega
        subst this
        have h4 := v2 u h2.2
        rw [show 1 + (3 - 0) = 4 from rfl] at h3
        omega
      · by_cases z : V (s - 4) (nx T c (opp q)) + sm T nt 4 < 1073741824
        · right
          rcases v3 with w | w
          · omega
          · refine ⟨1, V (s - 4) (nx T c (opp q)), by omega, ⟨by omega, w⟩, ?_⟩
            rw [show 1 + (3 - 0) = 4 from rfl]
            omega
        · left; omega
  | succ m ih =>
    intro c hm hs c0 c1
    have e0 := tAh_nx hw (c := c) ⟨c0, c1⟩ o3
    have e1 : cI T nt q V s (m + 1 + 1) c = if tAh T c (opp q) < 0 then 1073741824 else min 1073741824 (min (V (s - (4 - (m + 1))) (tAh T c (opp q)) + sm T nt (4 - (m + 1))) (if tElb T (tAh T c (opp q)) = true then 1073741824 else cI T nt q V s (m + 1) (tAh T c (opp q)))) := by
      show (if s < 4 - (m + 1) then 1073741824 else _) = _
      rw [if_neg (by omega)]
    rw [e1, e0]
    by_cases hn : nx T c (opp q) < 0
    · rw [if_pos hn]
      refine MinOf.none ?_
      rintro v ⟨r, u, h1, h2, h3⟩
      obtain ⟨r', rfl⟩ : ∃ r', r = r' + 1 := ⟨r - 1, by omega⟩
      cases r' with
      | zero => have := h2.1; omega
      | succ r' => have := h2.1; omega
    · rw [if_neg hn]
      have hnr := nx_range hw c (opp q)
      obtain ⟨v1, v2, v3⟩ := hV (s - (4 - (m + 1))) (nx T c (opp q)) (by omega) (by omega) (nx_open (by omega))
      have hsm := sm_range hw nt (4 - (m + 1)) (by omega)
      -- the longer runs
      have rest : MinOf (fun v => ∃ (r : Nat) (u : Int), (2 ≤ r ∧ r ≤ m + 1 + 1) ∧ Zr T nt a q r (s - (4 - (m + 1))) c u ∧ v = u + sm T nt (r + (3 - (m + 1)))) 1073741824 (if tElb T (nx T c (opp q)) = true then 1073741824 else cI T nt q V s (m + 1) (nx T c (opp q))) := by
        by_cases he : tElb T (nx T c (opp q)) = true
        · rw [if_pos he]
          refine MinOf.none ?_
          rintro v ⟨r, u, h1, h2, h3⟩
          obtain ⟨r', rfl⟩ : ∃ r', r = r' + 2 := ⟨r - 2, by omega⟩
          have := h2.2.1
          rw [he] at this
          cases this
        · rw [if_neg he]
          have he' : tElb T (nx T c (opp q)) = false := by cases h : tElb T (nx T c (opp q)); rfl; exact absurd h he
          by_cases hss : 4 - m ≤ s
          · refine (ih (nx T c (opp q)) (by omega) hss (by omega) (by omega)).iff (fun v => ?_)
            constructor
            · rintro ⟨r, u, h1, h2, h3⟩
              obtain ⟨r', rfl⟩ : ∃ r', r = r' + 2 := ⟨r - 2, by omega⟩
              obtain ⟨-, -, k', z1, z2⟩ := h2
              have : k' = s - (4 - m) := by omega
              subst this
              exact ⟨r' + 1, u, by omega, z2, by rw [h3, show r' + 2 + (3 - (m + 1)) = r' + 1 + (3 - m) by omega]⟩
            · rintro ⟨r, u, h1, h2, h3⟩
              obtain ⟨r', rfl⟩ : ∃ r', r = r' + 1 := ⟨r - 1, by omega⟩
              refine ⟨r' + 2, u, by omega, ⟨by omega, he', s - (4 - m), by omega, h2⟩, by rw [h3, show r' + 2 + (3 - (m + 1)) = r' + 1 + (3 - m) by omega]⟩
          · have e2 : cI T nt q V s (m + 1) (nx T c (opp q)) = 1073741824 := by
              show (if s < 4 - m then 1073741824 else _) = _
              rw [if_pos (by omega)]
            rw [e2]
            refine MinOf.none ?_
            rintro v ⟨r, u, h1, h2, h3⟩
            obtain ⟨r', rfl⟩ : ∃ r', r = r' + 2 := ⟨r - 2, by omega⟩
            obtain ⟨-, -, k', z1, z2⟩ := h2
            omega
      have e4 : 1 + (3 - (m + 1)) = 4 - (m + 1) := by omega
      obtain ⟨r1, r2, r3⟩ := rest
      refine ⟨by omega, ?_, ?_⟩
      · rintro v ⟨r, u, h1, h2, h3⟩
        by_cases z : r = 1
        · subst z
          have h4 := v2 u h2.2
          rw [e4] at h3
          omega
        · have := r2 v ⟨r, u, by omega, h2, h3⟩
          omega
      · by_cases z : V (s - (4 - (m + 1))) (nx T c (opp q)) + sm T nt (4 - (m + 1)) < 1073741824 ∧ V (s - (4 - (m + 1))) (nx T c (opp q)) + sm T nt (4 - (m + 1)) ≤ (if tElb T (nx T c (opp q)) = true then 1073741824 else cI T nt q V s (m + 1) (nx T c (opp q)))
        · right
          rcases v3 with w | w
          · omega
          · refine ⟨1, V (s - (4 - (m + 1))) (nx T c (opp q)), by omega, ⟨by omega, w⟩, ?_⟩
            rw [e4]
            omega
        · by_cases z2 : (if tElb T (nx T c (opp q)) = true then 1073741824 else cI T nt q V s (m + 1) (nx T c (opp q))) < 1073741824
          · right
            rcases r3 with w | ⟨r, u, h1, h2, h3⟩
            · omega
            · exact ⟨r, u, by omega, h2, by omega⟩
          · left; omega
/-- comingIn is the least arrival -/
theorem cI_AR {T : Tn} (hw : tWF T) {nt a : Int} (ho : tOpen T a = true) {q : Int} (hq : 0 ≤ q ∧ q < 4) {V : Nat → Int → Int} {k : Nat} (hV : ∀ (j : Nat) (c : Int), j < k + 1 → k + 1 ≤ j + 4 → tOpen T c = true → MinOf (TD T nt a j c q) 1073741824 (V j c)) {c : Int} (hc : tOpen T c = true) : MinOf (AR T nt a k c q) 1073741824 (cI T nt q V (k + 1) 4 c) := by
  have hcr := open_lt hc
  refine (cI_min hw ho hq hV 3 c (by omega) (by omega) hcr.1 hcr.2).iff (fun v => ?_)
  constructor
  · rintro ⟨r, h1, h2⟩
    obtain ⟨i, rfl⟩ : ∃ i : Nat, r = (i : Int) + 1 := ⟨(r - 1).toNat, by omega⟩
    rw [ARr_Z hw ho hq i k c v (by omega) hc] at h2
    obtain ⟨u, h3, h4⟩ := h2
    exact ⟨i + 1, u, by omega, by rw [show k + 1 - (4 - 3) = k by omega]; exact h3, by rw [h4]⟩
  · rintro ⟨r, u, h1, h2, h3⟩
    obtain ⟨i, rfl⟩ : ∃ i : Nat, r = i + 1 := ⟨r - 1, by omega⟩
    refine ⟨(i : Int) + 1, by omega, ?_⟩
    rw [ARr_Z hw ho hq i k c v (by omega) hc]
    exact ⟨u, by rw [show k + 1 - (4 - 3) = k by omega] at h2; exact h2, by rw [h3]⟩
