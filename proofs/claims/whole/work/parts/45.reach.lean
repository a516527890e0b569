/-! WHAT CAN BE REACHED -/
def pth (T : Tn) : Nat → Int → Int → Prop
  | 0, a, b => a = b
  | k + 1, a, b => ∃ q : Int, (0 ≤ q ∧ q < 4) ∧ 0 ≤ nx T a q ∧ pth T k (nx T a q) b
theorem pth_snoc {T : Tn} : ∀ (k : Nat) (a b q : Int), pth T k a b → (0 ≤ q ∧ q < 4) → 0 ≤ nx T b q → pth T (k + 1) a (nx T b q)
  | 0, a, b, q, h, hq, hn => by
    have : a = b := h
    subst this
    exact ⟨q, hq, hn, rfl⟩
  | k + 1, a, b, q, h, hq, hn => by
    obtain ⟨q', h1, h2, h3⟩ := h
    exact ⟨q', h1, h2, pth_snoc k _ b q h3 hq hn⟩
theorem pth_trans {T : Tn} : ∀ (j k : Nat) (a b c : Int), pth T j a b → pth T k b c → pth T (j + k) a c
  | 0, k, a, b, c, h1, h2 => by
    have : a = b := h1
    subst this
    rw [Nat.zero_add]
    exact h2
  | j + 1, k, a, b, c, h1, h2 => by
    obtain ⟨q, g1, g2, g3⟩ := h1
    rw [show j + 1 + k = (j + k) + 1 by omega]
    exact ⟨q, g1, g2, pth_trans j k _ b c g3 h2⟩
theorem pth_sym {T : Tn} (hw : tWF T) : ∀ (k : Nat) (a b : Int), tOpen T a = true → pth T k a b → pth T k b a
  | 0, a, b, _, h => (show a = b from h).symm
  | k + 1, a, b, ho, h => by
    obtain ⟨q, g1, g2, g3⟩ := h
    obtain ⟨o1, o2, o3, o4⟩ := opp_d q g1
    have h1 := pth_sym hw k _ b (nx_open g2) g3
    have h2 := nx_back hw ho g1 g2
    have h3 := pth_snoc k b (nx T a q) (opp q) h1 o3 (by rw [h2]; exact (open_lt ho).1)
    rw [h2] at h3
    exact h3
section RE
variable {T : Tn} {nt b : Int}
/-- what can be reached has a finite value, from any state that stands on a square -/
theorem D_pth (hw : tWF T) (h01 : nt = 0 ∨ nt = 1) (hb : 0 ≤ b ∧ b < tN T) : ∀ (k : Nat) (s c l r : Int), Rs T s c l r → RmI T c l r → pth T k c b → D T nt (tMask T 2) b s < 100000000
  | 0, s, c, l, r, hs, _, h => by
    have : c = b := h
    subst this
    have g := hs.range
    rw [(D_fx hw h01 (el := tMask T 2) (by have := tMask_lt T 2; omega) hb s g.1.1 g.1.2).2.1 g.2.1]
    decide
  | k + 1, s, c, l, r, hs, hr, h => by
    obtain ⟨q, g1, g2, g3⟩ := h
    obtain ⟨e1, e2⟩ := hr.ok hw hs g1 g2
    have hn := (hs.next hw g1 e1).1
    have ih := D_pth hw h01 hb k _ _ _ _ hn e2 g3
    have g := hs.range
    have hfx := D_fx hw h01 (el := tMask T 2) (by have := tMask_lt T 2; omega) hb
    have gn := hn.range
    by_cases e : s / 17 = b
    · rw [(hfx s g.1.1 g.1.2).2.1 e]; decide
    · have h1 := (hfx s g.1.1 g.1.2).2.2.2.1 e (open_house hw hs.1 g.2.1 hs.2.1) q g1.1 g1.2 e1
      obtain ⟨p, j, y1, y2, y3⟩ := fx_ps3 hw hb (by decide) hfx gn.1.1 gn.1.2 ih
      have := (tPrice4 hw (nt := nt) (mE_run e1)).2
      omega
theorem pth_D (hw : tWF T) (h01 : nt = 0 ∨ nt = 1) (hb : 0 ≤ b ∧ b < tN T) : ∀ (n : Nat) (s c l r : Int), Rs T s c l r → D T nt (tMask T 2) b s ≤ n → D T nt (tMask T 2) b s < 100000000 → ∃ k, pth T k c b := by
  have hfx := D_fx hw h01 (el := tMask T 2) (by have := tMask_lt T 2; omega) hb
  intro n
  induction n with
  | zero =>
    intro s c l r hs hn hF
    have g := hs.range
    by_cases e : s / 17 = b
    · exact ⟨0, g.2.1.symm.trans e⟩
    · obtain ⟨q, q1, q2, q3⟩ := (hfx s g.1.1 g.1.2).2.2.2.2 e hF
      have gr := mE_range hw (el := tMask T 2) g.1 q1
      have h2 := (hfx _ q2 gr.2).1
      have := (tPrice4 hw (nt := nt) (mE_run q2)).1
      omega
  | succ n ih =>
    intro s c l r hs hn hF
    have g := hs.range
    by_cases e : s / 17 = b
    · exact ⟨0, g.2.1.symm.trans e⟩
    · obtain ⟨q, q1, q2, q3⟩ := (hfx s g.1.1 g.1.2).2.2.2.2 e hF
      have hnx := hs.next hw q1 q2
      have := (tPrice4 hw (nt := nt) (mE_run q2)).1
      obtain ⟨k, hk⟩ := ih _ _ _ _ hnx.1 (by omega) (by omega)
      exact ⟨k + 1, q, q1, hnx.2, hk⟩
theorem reach_iff (hw : tWF T) (h01 : nt = 0 ∨ nt = 1) {a : Int} (ho : tOpen T a = true) (hb : 0 ≤ b ∧ b < tN T) : D T nt (tMask T 2) b (17 * a + 16) < 100000000 ↔ ∃ k, pth T k a b := by
  have hs : Rs T (17 * a + 16) a (-1) 0 := ⟨open_lt ho, ho, Or.inl ⟨rfl, rfl, rfl⟩⟩
  constructor
  · intro h
    exact pth_D hw h01 hb (D T nt (tMask T 2) b (17 * a + 16)).toNat _ _ _ _ hs (by have := (D_fx hw h01 (el := tMask T 2) (by have := tMask_lt T 2; omega) hb _ hs.range.1.1 hs.range.1.2).1; omega) h
  · rintro ⟨k, hk⟩
    exact D_pth hw h01 hb k _ _ _ _ hs (Or.inl rfl) hk
/-- pence from a square to a square, as the reference has them -/
noncomputable def pM (T : Tn) (nt b a : Int) : Int := if D T nt (tMask T 2) b (17 * a + 16) < 100000000 then D T nt (tMask T 2) b (17 * a + 16) / 1000 else 100000000
theorem pM_pX (hw : tWF T) (h01 : nt = 0 ∨ nt = 1) (hb : 0 ≤ b ∧ b < tN T) {a : Int} (ha : 0 ≤ a ∧ a < tN T) : (pM T nt b a = pX T nt b a ∧ (0 ≤ pM T nt b a ∧ pM T nt b a ≤ 95931) ∧ D T nt (tMask T 2) b (17 * a + 16) < 100000000) ∨ (pM T nt b a = 100000000 ∧ pX T nt b a = 1073741824 ∧ ¬ D T nt (tMask T 2) b (17 * a + 16) < 100000000) := by
  by_cases h : D T nt (tMask T 2) b (17 * a + 16) < 100000000
  · left
    obtain ⟨p, k, e1, e2, e3, e4⟩ := DX_val hw h01 hb (by omega) (by omega) h
    unfold pM pX
    rw [if_pos h, if_pos (by omega)]
    omega
  · right
    unfold pM pX
    rw [if_neg h, DX_far h, if_neg (by omega)]
    exact ⟨rfl, rfl, h⟩
/-- two squares are of one part of the town -/
def rc (T : Tn) (a b : Int) : Prop := ∃ k, pth T k a b
theorem rc_sym (hw : tWF T) {a b : Int} (ho : tOpen T a = true) (h : rc T a b) : rc T b a := by
  obtain ⟨k, hk⟩ := h
  exact ⟨k, pth_sym hw k a b ho hk⟩
theorem rc_trans {a b c : Int} (h : rc T a b) (h' : rc T b c) : rc T a c := by
  obtain ⟨j, hj⟩ := h
  obtain ⟨k, hk⟩ := h'
  exact ⟨j + k, pth_trans j k a b c hj hk⟩
theorem rc_self {a : Int} : rc T a a := ⟨0, rfl⟩
theorem rc_pM (hw : tWF T) (h01 : nt = 0 ∨ nt = 1) {a : Int} (ho : tOpen T a = true) (hb : 0 ≤ b ∧ b < tN T) : (rc T a b ∧ pM T nt b a = pX T nt b a ∧ (0 ≤ pM T nt b a ∧ pM T nt b a ≤ 95931)) ∨ (¬ rc T a b ∧ pM T nt b a = 100000000 ∧ pX T nt b a = 1073741824) := by
  have h := reach_iff hw h01 ho hb
  rcases pM_pX hw h01 hb (open_lt ho) with ⟨h1, h2, h3⟩ | ⟨h1, h2, h3⟩
  · exact Or.inl ⟨h.mp h3, h1, h2⟩
  · exact Or.inr ⟨fun z => h3 (h.mpr z), h1, h2⟩
end RE
/-! ROUNDS, as mathematics -/
/-- the j-th place of a set -/
noncomputable def pl (m j : Nat) : Nat := Classical.epsilon (fun c : Nat => m.testBit c = true ∧ pc m c = j)
theorem pc_lt2 {m i j : Nat} (hi : m.testBit i = true) (h : i < j) : pc m i < pc m j := by
  induction j with
  | zero => omega
  | succ j ih =>
    rw [pc_S]
    by_cases e : i = j
    · subst e; rw [if_pos hi]; omega
    · have := ih (by omega); split <;> omega
theorem pl_eq {m c : Nat} (h : m.testBit c = true) : pl m (pc m c) = c := by
  have h1 := Classical.epsilon_spec (p := fun c' : Nat => m.testBit c' = true ∧ pc m c' = pc m c) ⟨c, h, rfl⟩
  have h2 : m.testBit (pl m (pc m c)) = true ∧ pc m (pl m (pc m c)) = pc m c := h1
  rcases Nat.lt_trichotomy (pl m (pc m c)) c with z | z | z
  · have := pc_lt2 h2.1 z; omega
  · exact z
  · have := pc_lt2 h z; omega
theorem pl_ex {m : Nat} : ∀ (k j : Nat), j < pc m k → ∃ c, c < k ∧ m.testBit c = true ∧ pc m c = j
  | 0, j, h => by simp [pc] at h
  | k + 1, j, h => by
    rw [pc_S] at h
    by_cases e : j < pc m k
    · obtain ⟨c, h1, h2⟩ := pl_ex k j e
      exact ⟨c, by omega, h2⟩
    · by_cases z : m.testBit k = true
      · rw [if_pos z] at h
        exact ⟨k, by omega, z, by omega⟩
      · rw [if_neg z] at h; omega
/-- the least over the places that are left -/
noncomputable def mnj (g : Nat → Int) (left : Nat) (F : Int) : Nat → Int
  | 0 => F
  | j + 1 => if left.testBit j = true then min (mnj g left F j) (g j) else mnj g left F j
/-- by all that are left, and home -/
noncomputable def trr (c : Int → Int → Int) (p : Nat → Int) (a F : Int) (n : Nat) : Nat → Nat → Int → Int
  | 0, _, u => c u a
  | f + 1, left, u => if left = 0 then c u a else mnj (fun j => c u (p j) + trr c p a F n f (left - 2 ^ j) (p j)) left F n
theorem mnj_congr {g g' : Nat → Int} {left : Nat} {F : Int} : ∀ n, (∀ j, j < n → left.testBit j = true → g j = g' j) → mnj g left F n = mnj g' left F n
  | 0, _ => rfl
  | n + 1, h => by
    unfold mnj
    rw [mnj_congr n (fun j hj => h j (by omega))]
    by_cases z : left.testBit n = true
    · rw [if_pos z, if_pos z, h n (by omega) z]
    · rw [if_neg z, if_neg z]
theorem two_pow_le_of_bit {m j : Nat} (h : m.testBit j = true) : 2 ^ j ≤ m := Nat.ge_two_pow_of_testBit h
theorem trr_fuel {c : Int → Int → Int} {p : Nat → Int} {a F : Int} {n : Nat} : ∀ (f f' left : Nat) (u : Int), left ≤ f → left ≤ f' → trr c p a F n f left u = trr c p a F n f' left u
  | 0, 0, _, _, _, _ => rfl
  | 0, f' + 1, left, u, h, _ => by
    have : left = 0 := by omega
    subst this
    unfold trr
    rw [if_pos rfl]
  | f + 1, 0, left, u, _, h => by
    have : left = 0 := by omega
    subst this
    unfold trr
    rw [if_pos rfl]
  | f + 1, f' + 1, left, u, h, h' => by
    unfold trr
    by_cases e : left = 0
    · rw [if_pos e, if_pos e]
    · rw [if_neg e, if_neg e]
      refine mnj_congr n (fun j hj hb => ?_)
      have := two_pow_le_of_bit hb
      have := Nat.two_pow_pos j
      rw [trr_fuel f f' (left - 2 ^ j) (p j) (by omega) (by omega)]
theorem mnj_min {g : Nat → Int} {left : Nat} {F : Int} : ∀ n, MinOf (fun v => ∃ j, j < n ∧ left.testBit j = true ∧ v = g j) F (mnj g left F n)
  | 0 => MinOf.none (by rintro v ⟨j, h, -⟩; omega)
  | n + 1 => by
    have ih := mnj_min (g := g) (left := left) (F := F) n
    unfold mnj
    by_cases z : left.testBit n = true
    · rw [if_pos z]
      refine ih.add (fun v => ?_)
      constructor
      · rintro ⟨j, h1, h2, h3⟩
        by_cases e : j = n
        · subst e; exact Or.inr h3
        · exact Or.inl ⟨j, by omega, h2, h3⟩
      · rintro (⟨j, h1, h2, h3⟩ | h)
        · exact ⟨j, by omega, h2, h3⟩
        · exact ⟨n, by omega, z, h⟩
    · rw [if_neg z]
      refine ih.iff (fun v => ?_)
      constructor
      · rintro ⟨j, h1, h2, h3⟩
        by_cases e : j = n
        · subst e; exact absurd h2 z
        · exact ⟨j, by omega, h2, h3⟩
      · rintro ⟨j, h1, h2, h3⟩
        exact ⟨j, by omega, h2, h3⟩
theorem bit_sub : ∀ l, l < 16 → ∀ j, j < 4 → ∀ i, i < 4 → l.testBit j = true → (l - 2 ^ j).testBit i = (l.testBit i && decide (i ≠ j)) := by decide
theorem bit_ex16 : ∀ l, l < 16 → l ≠ 0 → ∃ j, j < 4 ∧ l.testBit j = true := by decide
theorem bit_ex {l n : Nat} (hn : n ≤ 4) (hl : l < 2 ^ n) (h : l ≠ 0) : ∃ j, j < n ∧ l.testBit j = true := by
  have h16 : 2 ^ n ≤ 2 ^ 4 := Nat.pow_le_pow_right (by decide) hn
  obtain ⟨j, h1, h2⟩ := bit_ex16 l (by omega) h
  refine ⟨j, ?_, h2⟩
  have h3 := two_pow_le_of_bit h2
  by_cases z : j < n
  · exact z
  · have := Nat.pow_le_pow_right (n := 2) (by decide) (show n ≤ j by omega)
    omega
theorem trr_nn {c : Int → Int → Int} {p : Nat → Int} {a F : Int} {n : Nat} (hF : 0 ≤ F) {U : Int → Prop} (hc : ∀ u v, U u → U v → 0 ≤ c u v) (hp : ∀ j, j < n → U (p j)) (ha : U a) : ∀ (f left : Nat) (u : Int), U u → 0 ≤ trr c p a F n f left u
  | 0, _, u, hu => hc u a hu ha
  | f + 1, left, u, hu => by
    unfold trr
    split
    · exact hc u a hu ha
    · rcases (mnj_min (g := fun j => c u (p j) + trr c p a F n f (left - 2 ^ j) (p j)) (left := left) (F := F) n).2.2 with z | ⟨j, h1, h2, h3⟩
      · omega
      · have g1 := hc u (p j) hu (hp j h1)
        have g2 := trr_nn hF hc hp ha f (left - 2 ^ j) (p j) (hp j h1)
        omega
/-- of one part: both bounds give the same, a sum of legs -/
theorem trr_eq {c c' : Int → Int → Int} {p : Nat → Int} {a F F' B : Int} {n : Nat} (hn : n ≤ 4) (hF : B * 17 < F ∧ B * 17 < F') {U : Int → Prop} (hc : ∀ u v, U u → U v → c u v = c' u v ∧ 0 ≤ c u v ∧ c u v ≤ B) (hp : ∀ j, j < n → U (p j)) (ha : U a) : ∀ (f left : Nat) (u : Int), f ≤ 15 → left < 2 ^ n → U u → trr c p a F n f left u = trr c' p a F' n f left u ∧ 0 ≤ trr c p a F n f left u ∧ trr c p a F n f left u ≤ B * (f + 1) := by
  intro f
  induction f with
  | zero =>
    intro left u hf hl hu
    obtain ⟨h1, h2, h3⟩ := hc u a hu ha
    exact ⟨h1, h2, by show c u a ≤ B * (((0 : Nat) : Int) + 1); omega⟩
  | succ f ih =>
    intro left u hf hl hu
    obtain ⟨h1, h2, h3⟩ := hc u a hu ha
    have hB : 0 ≤ B := by omega
    have hBf : 0 ≤ B * (f : Int) := Int.mul_nonneg hB (by omega)
    have hBf2 : B * (f : Int) ≤ B * 14 := Int.mul_le_mul_of_nonneg_left (by omega) hB
    have e2 : B * (((f + 1 : Nat) : Int) + 1) = B * (f : Int) + 2 * B := by
      rw [show ((f + 1 : Nat) : Int) + 1 = (f : Int) + 2 by omega, Int.mul_add]; omega
    have e1 : B * ((f : Int) + 1) = B * (f : Int) + B := by rw [Int.mul_add]; omega
    rw [e2]
    unfold trr
    by_cases e : left = 0
    · rw [if_pos e, if_pos e]
      exact ⟨h1, h2, by omega⟩
    · rw [if_neg e, if_neg e]
      have sub : ∀ j, left.testBit j = true → left - 2 ^ j < 2 ^ n := fun j _ => Nat.lt_of_le_of_lt (Nat.sub_le _ _) hl
      have each : ∀ j, j < n → left.testBit j = true → (c u (p j) + trr c p a F n f (left - 2 ^ j) (p j) = c' u (p j) + trr c' p a F' n f (left - 2 ^ j) (p j)) ∧ 0 ≤ c u (p j) + trr c p a F n f (left - 2 ^ j) (p j) ∧ c u (p j) + trr c p a F n f (left - 2 ^ j) (p j) ≤ B * (f : Int) + 2 * B := by
        intro j hj hb
        obtain ⟨g1, g2, g3⟩ := hc u (p j) hu (hp j hj)
        obtain ⟨i1, i2, i3⟩ := ih (left - 2 ^ j) (p j) (by omega) (sub j hb) (hp j hj)
        rw [e1] at i3
        exact ⟨by rw [g1, i1], by omega, by omega⟩
      obtain ⟨j0, hj0, hb0⟩ := bit_ex hn hl e
      have m1 := mnj_min (g := fun j => c u (p j) + trr c p a F n f (left - 2 ^ j) (p j)) (left := left) (F := F) n
      have m2 := mnj_min (g := fun j => c' u (p j) + trr c' p a F' n f (left - 2 ^ j) (p j)) (left := left) (F := F') n
      have m2' := m2.iff (R := fun v => ∃ j, j < n ∧ left.testBit j = true ∧ v = c u (p j) + trr c p a F n f (left - 2 ^ j) (p j)) (fun v => by
        constructor
        · rintro ⟨j, y1, y2, y3⟩; exact ⟨j, y1, y2, by rw [y3]; exact (each j y1 y2).1⟩
        · rintro ⟨j, y1, y2, y3⟩; exact ⟨j, y1, y2, by rw [y3]; exact (each j y1 y2).1.symm⟩)
      have m3 := m1.eq m2' (fun v ⟨j, y1, y2, y3⟩ => by
        have := each j y1 y2
        have y4 : v = c u (p j) + trr c p a F n f (left - 2 ^ j) (p j) := y3
        omega)
      have m4 := m1.2.1 _ ⟨j0, hj0, hb0, rfl⟩
      have m5 := each j0 hj0 hb0
      rcases m3 with ⟨y1, y2, y3⟩ | ⟨y1, y2⟩
      · refine ⟨y3, ?_, by omega⟩
        rcases m1.2.2 with z | ⟨j, z1, z2, z3⟩
        · omega
        · rw [z3]; exact (each j z1 z2).2.1
      · omega
/-- of two parts: none -/
theorem trr_far {T : Tn} (hw : tWF T) {nt : Int} (h01 : nt = 0 ∨ nt = 1) {p : Nat → Int} {a : Int} {n : Nat} (hn : n ≤ 4) (hp : ∀ j, j < n → tOpen T (p j) = true) (ha : tOpen T a = true) : ∀ (f left : Nat) (u : Int), left ≤ f → left < 2 ^ n → tOpen T u = true → (¬ rc T u a ∨ ∃ j, j < n ∧ left.testBit j = true ∧ ¬ rc T u (p j)) → 100000000 ≤ trr (fun u v => pM T nt v u) p a 100000000 n f left u := by
  have hc : ∀ u v, tOpen T u = true → tOpen T v = true → 0 ≤ pM T nt v u := by
    intro u v hu hv
    rcases rc_pM hw h01 hu (open_lt hv) with z | z <;> omega
  intro f
  induction f with
  | zero =>
    intro left u hf hl hu h
    have e : left = 0 := by omega
    subst e
    rcases h with h | ⟨j, -, h2, -⟩
    · show 100000000 ≤ pM T nt a u
      rcases rc_pM hw h01 hu (open_lt ha) with z | z
      · exact absurd z.1 h
      · omega
    · simp at h2
  | succ f ih =>
    intro left u hf hl hu h
    unfold trr
    by_cases e : left = 0
    · subst e
      rw [if_pos rfl]
      rcases h with h | ⟨j, -, h2, -⟩
      · rcases rc_pM hw h01 hu (open_lt ha) with z | z
        · exact absurd z.1 h
        · show 100000000 ≤ pM T nt a u
          omega
      · simp at h2
    · rw [if_neg e]
      rcases (mnj_min (g := fun j => pM T nt (p j) u + trr (fun u v => pM T nt v u) p a 100000000 n f (left - 2 ^ j) (p j)) (left := left) (F := 100000000) n).2.2 with z | ⟨j, h1, h2, h3⟩
      · rw [z]; exact Int.le_refl _
      · rw [h3]
        have h16 : 2 ^ n ≤ 2 ^ 4 := Nat.pow_le_pow_right (by decide) hn
        have hle := two_pow_le_of_bit h2
        have hpos := Nat.two_pow_pos j
        have hnn := trr_nn (F := 100000000) (n := n) (by decide) hc hp ha f (left - 2 ^ j) (p j) (hp j h1)
        rcases rc_pM hw h01 hu (open_lt (hp j h1)) with ⟨z1, z2, z3⟩ | ⟨z1, z2, z3⟩
        · have := ih (left - 2 ^ j) (p j) (by omega) (by omega) (hp j h1) (by
            rcases h with h | ⟨i, y1, y2, y3⟩
            · exact Or.inl (fun y => h (rc_trans z1 y))
            · right
              refine ⟨i, y1, ?_, fun y => y3 (rc_trans z1 y)⟩
              rw [bit_sub left (by omega) j (by omega) i (by omega) h2, y2]
              have : i ≠ j := fun y => by subst y; exact y3 z1
              simp [this])
          omega
        · omega
/-- a set of places that may be told -/
def okP (T : Tn) (s : Int) : Prop := 0 ≤ s ∧ s < (2 ^ (tN T).toNat : Nat) ∧ pc s.toNat 20 ≤ 4 ∧ ∀ c : Nat, (c : Int) < tN T → s.toNat.testBit c = true → tOpen T c = true
/-- the least pence of a round by the places of a set -/
noncomputable def rdR (T : Tn) (nt a : Int) (m : Nat) : Int := trr (fun u v => pM T nt v u) (fun j => (pl m j : Int)) a 100000000 (pc m 20) (2 ^ (pc m 20) - 1) (2 ^ (pc m 20) - 1) a
/-- what round answers -/
noncomputable def Fro (T : Tn) (nt a s : Int) : Int := @ite _ (tOpen T a = true ∧ okP T s) (Classical.propDecidable _) (if rdR T nt a s.toNat < 100000000 then rdR T nt a s.toNat else -9) (-1)
