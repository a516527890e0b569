/-! AN ELBOW MORE, as mathematics -/
theorem tPart_mono {T : Tn} (hw : tWF T) {o o' : Int} (h0 : 0 ≤ o) (h : o ≤ o') : tPart T o ≤ tPart T o' := by
  obtain ⟨-, -, -, ⟨r1, r2⟩, -⟩ := hw
  have h1 : tR T * o ≤ tR T * o' := Int.mul_le_mul_of_nonneg_left h (by omega)
  have h2 : 0 ≤ tR T * o := Int.mul_nonneg (by omega) h0
  have h3 : tR T * o * o ≤ tR T * o' * o' := Int.mul_le_mul h1 h h0 (by omega)
  unfold tPart
  split
  · omega
  · split <;> omega
theorem tPrice_mono {T : Tn} (hw : tWF T) {nt r r' : Int} (h : r ≤ r') (h4 : r' ≤ 4) : tPrice T nt r ≤ tPrice T nt r' := by
  have hf := hw.2.2.1
  unfold tPrice
  by_cases e : r - tF T ≤ 0
  · rw [if_pos e]
    by_cases e' : r' - tF T ≤ 0
    · rw [if_pos e']; exact Int.le_refl _
    · rw [if_neg e']
      have := (tPart4 hw (o := r' - tF T) (by omega) (by omega)).1
      split <;> omega
  · have h2 := tPart_mono hw (o := r - tF T) (o' := r' - tF T) (by omega) (by omega)
    rw [if_neg e, if_neg (show ¬ r' - tF T ≤ 0 by omega)]
    by_cases z : nt = 1 ∧ tD T = 1
    · rw [if_pos z, if_pos z]; omega
    · rw [if_neg z, if_neg z]; omega
/-- a state from which each run is no longer -/
def sle (s t : Int) : Prop := s / 17 = t / 17 ∧ ∀ q : Int, 0 ≤ q → q < 4 → mRun s q ≤ mRun t q
theorem sle_rf {s : Int} : sle s s := ⟨rfl, fun _ _ _ => Int.le_refl _⟩
theorem mE_eq {T : Tn} {el : Nat} {s q : Int} (hr : mRun s q ≤ 4) (hn : 0 ≤ nx T (s / 17) q) : mE T el s q = 17 * nx T (s / 17) q + (if el.testBit (nx T (s / 17) q).toNat = true then 16 else 4 * q + (mRun s q - 1)) := by
  unfold mE mOn
  rw [if_neg (by omega), if_neg (by omega)]
theorem mE_nn {T : Tn} {el : Nat} {s q : Int} (h : 0 ≤ mE T el s q) : mRun s q ≤ 4 ∧ 0 ≤ nx T (s / 17) q := by
  have h1 := mE_run h
  refine ⟨h1, ?_⟩
  unfold mE mOn at h
  rw [if_neg (by omega)] at h
  by_cases z : nx T (s / 17) q < 0
  · rw [if_pos z] at h; omega
  · omega
theorem mRun_16 {c q : Int} (hc : 0 ≤ c) : mRun (17 * c + 16) q = 1 := by
  unfold mRun; rw [if_neg (by omega)]
theorem mRun_st {c q r p : Int} (hc : 0 ≤ c) (hq : 0 ≤ q ∧ q < 4) (hr : 1 ≤ r ∧ r ≤ 4) : mRun (17 * c + (4 * q + (r - 1))) p = if q = p then r + 1 else 1 := by
  unfold mRun
  have e1 : (17 * c + (4 * q + (r - 1))) % 17 = 4 * q + (r - 1) := by omega
  have e2 : (4 * q + (r - 1)) / 4 = q := by omega
  have e3 : (4 * q + (r - 1)) % 4 = r - 1 := by omega
  rw [e1, e2, e3]
  by_cases hp : q = p
  · rw [if_pos ⟨by omega, hp⟩, if_pos hp]; omega
  · rw [if_neg (fun z => hp z.2), if_neg hp]
theorem step_le {T : Tn} (hw : tWF T) {nt : Int} {el el' : Nat} (hsub : ∀ j, el.testBit j = true → el'.testBit j = true) {s t q : Int} (hs : 0 ≤ s) (ht : 0 ≤ t) (h : sle s t) (hq : 0 ≤ q ∧ q < 4) (he : 0 ≤ mE T el t q) : 0 ≤ mE T el' s q ∧ sle (mE T el' s q) (mE T el t q) ∧ tPrice T nt (mRun s q) ≤ tPrice T nt (mRun t q) := by
  obtain ⟨h1, h2⟩ := mE_nn he
  have h3 := h.2 q hq.1 hq.2
  have e1 := mE_eq (el := el) h1 h2
  have e2 := mE_eq (T := T) (el := el') (s := s) (q := q) (by omega) (by rw [h.1]; exact h2)
  rw [h.1] at e2
  have r1 := mRun_le s q hs
  have r2 := mRun_le t q ht
  have dv : ∀ r : Int, 1 ≤ r → r ≤ 4 → (17 * nx T (t / 17) q + (4 * q + (r - 1))) / 17 = nx T (t / 17) q := fun r _ _ => by omega
  have dv2 : (17 * nx T (t / 17) q + 16) / 17 = nx T (t / 17) q := by omega
  rw [e1, e2]
  refine ⟨?_, ⟨?_, fun p p0 p1 => ?_⟩, tPrice_mono hw h3 h1⟩
  · split <;> omega
  · have v1 := dv (mRun s q) (by omega) (by omega)
    have v2 := dv (mRun t q) (by omega) (by omega)
    split <;> split
    · rfl
    · rw [dv2, v2]
    · rw [dv2, v1]
    · rw [v1, v2]
  · by_cases z : el'.testBit (nx T (t / 17) q).toNat = true
    · rw [if_pos z, mRun_16 h2]
      by_cases y : el.testBit (nx T (t / 17) q).toNat = true
      · rw [if_pos y, mRun_16 h2]; exact Int.le_refl _
      · rw [if_neg y, mRun_st h2 hq (by omega)]; split <;> omega
    · rw [if_neg z, if_neg (fun y => z (hsub _ y)), mRun_st h2 hq (by omega), mRun_st h2 hq (by omega)]
      split <;> omega
section EL
variable {T : Tn} {nt b c : Int}
theorem el_A (hw : tWF T) (h01 : nt = 0 ∨ nt = 1) {el el' : Nat} (hl : el < 2 ^ 31) (hl' : el' < 2 ^ 31) (hb : 0 ≤ b ∧ b < tN T) (hsub : ∀ j, el.testBit j = true → el'.testBit j = true) : ∀ (n : Nat) (s t : Int), (0 ≤ s ∧ s < 17 * tN T) → (0 ≤ t ∧ t < 17 * tN T) → sle s t → D T nt el b t ≤ n → D T nt el b t < 100000000 → D T nt el' b s ≤ D T nt el b t := by
  have hf := D_fx hw h01 hl hb
  have hf' := D_fx hw h01 hl' hb
  intro n
  induction n with
  | zero =>
    intro s t hs ht hle hn hF
    have g := (hf t ht.1 ht.2).1
    by_cases e : t / 17 = b
    · rw [(hf' s hs.1 hs.2).2.1 (hle.1.trans e)]; exact g.1
    · obtain ⟨q, q1, q2, q3⟩ := (hf t ht.1 ht.2).2.2.2.2 e hF
      have gr := mE_range hw (el := el) ht q1
      have g2 := (hf _ q2 gr.2).1
      have := (tPrice4 hw (nt := nt) (mE_run q2)).1
      omega
  | succ n ih =>
    intro s t hs ht hle hn hF
    have g := (hf t ht.1 ht.2).1
    by_cases e : t / 17 = b
    · rw [(hf' s hs.1 hs.2).2.1 (hle.1.trans e)]; exact g.1
    · obtain ⟨q, q1, q2, q3⟩ := (hf t ht.1 ht.2).2.2.2.2 e hF
      have gr := mE_range hw (el := el) ht q1
      have gp := (tPrice4 hw (nt := nt) (mE_run q2)).1
      obtain ⟨y1, y2, y3⟩ := step_le hw (nt := nt) hsub hs.1 ht.1 hle q1 q2
      have gr' := mE_range hw (el := el') hs q1
      have i1 := ih _ _ ⟨y1, gr'.2⟩ ⟨q2, gr.2⟩ y2 (by omega) (by omega)
      have hh : ¬ mHouse T s := by
        intro z
        have z' : mHouse T t := by unfold mHouse at z ⊢; rw [← hle.1]; exact z
        have := (hf t ht.1 ht.2).2.2.1 e z'
        omega
      have i2 := (hf' s hs.1 hs.2).2.2.2.1 (by rw [hle.1]; exact e) hh q q1.1 q1.2 y1
      omega
theorem el_B (hw : tWF T) (h01 : nt = 0 ∨ nt = 1) {el el' : Nat} (hl : el < 2 ^ 31) (hl' : el' < 2 ^ 31) (hb : 0 ≤ b ∧ b < tN T) (hc : 0 ≤ c ∧ c < tN T) (hsub : ∀ j, el.testBit j = true → el'.testBit j = true) (hce : el'.testBit c.toNat = true) : ∀ (n : Nat) (s t : Int), (0 ≤ s ∧ s < 17 * tN T) → (0 ≤ t ∧ t < 17 * tN T) → sle s t → (s / 17 = c → s = 17 * c + 16) → D T nt el c t ≤ n → D T nt el c t < 100000000 → D T nt el' b s ≤ D T nt el c t + D T nt el' b (17 * c + 16) := by
  have hf := D_fx hw h01 hl hc
  have hf' := D_fx hw h01 hl' hb
  have gC := (hf' (17 * c + 16) (by omega) (by omega)).1
  intro n
  induction n with
  | zero =>
    intro s t hs ht hle hsc hn hF
    have g := (hf t ht.1 ht.2).1
    by_cases e : t / 17 = c
    · rw [hsc (hle.1.trans e)]; omega
    · obtain ⟨q, q1, q2, q3⟩ := (hf t ht.1 ht.2).2.2.2.2 e hF
      have gr := mE_range hw (el := el) ht q1
      have g2 := (hf _ q2 gr.2).1
      have := (tPrice4 hw (nt := nt) (mE_run q2)).1
      omega
  | succ n ih =>
    intro s t hs ht hle hsc hn hF
    have g := (hf t ht.1 ht.2).1
    by_cases e : t / 17 = c
    · rw [hsc (hle.1.trans e)]; omega
    · obtain ⟨q, q1, q2, q3⟩ := (hf t ht.1 ht.2).2.2.2.2 e hF
      have gr := mE_range hw (el := el) ht q1
      have gp := (tPrice4 hw (nt := nt) (mE_run q2)).1
      obtain ⟨y1, y2, y3⟩ := step_le hw (nt := nt) hsub hs.1 ht.1 hle q1 q2
      have gr' := mE_range hw (el := el') hs q1
      have i1 := ih _ _ ⟨y1, gr'.2⟩ ⟨q2, gr.2⟩ y2 (by
        intro z
        obtain ⟨m1, m2⟩ := mE_nn y1
        have e2 := mE_eq (el := el') m1 m2
        have r1 := mRun_le s q hs.1
        have e3 : nx T (s / 17) q = c := by
          rw [e2] at z
          split at z <;> omega
        rw [e2, e3, if_pos hce]) (by omega) (by omega)
      by_cases eb : s / 17 = b
      · rw [(hf' s hs.1 hs.2).2.1 eb]; omega
      · have hh : ¬ mHouse T s := by
          intro z
          have z' : mHouse T t := by unfold mHouse at z ⊢; rw [← hle.1]; exact z
          have := (hf t ht.1 ht.2).2.2.1 e z'
          omega
        have i2 := (hf' s hs.1 hs.2).2.2.2.1 eb hh q q1.1 q1.2 y1
        omega
theorem el_C (hw : tWF T) (h01 : nt = 0 ∨ nt = 1) {el el' : Nat} (hl : el < 2 ^ 31) (hl' : el' < 2 ^ 31) (hb : 0 ≤ b ∧ b < tN T) (hc : 0 ≤ c ∧ c < tN T) (hel : ∀ j : Nat, (j : Int) ≠ c → el'.testBit j = el.testBit j) (hce : el'.testBit c.toNat = true) : ∀ (n : Nat) (s : Int), (0 ≤ s ∧ s < 17 * tN T) → D T nt el' b s ≤ n → D T nt el' b s < 100000000 → min (D T nt el b s) (D T nt el c s + D T nt el b (17 * c + 16)) ≤ D T nt el' b s := by
  have hf := D_fx hw h01 hl hb
  have hfc := D_fx hw h01 hl hc
  have hf' := D_fx hw h01 hl' hb
  have gC := (hf (17 * c + 16) (by omega) (by omega)).1
  have gC0 := (hfc (17 * c + 16) (by omega) (by omega)).2.1 (by omega)
  intro n
  induction n with
  | zero =>
    intro s hs hn hF
    have g := (hf' s hs.1 hs.2).1
    by_cases e : s / 17 = b
    · rw [(hf s hs.1 hs.2).2.1 e]; omega
    · obtain ⟨q, q1, q2, q3⟩ := (hf' s hs.1 hs.2).2.2.2.2 e hF
      have gr := mE_range hw (el := el') hs q1
      have g2 := (hf' _ q2 gr.2).1
      have := (tPrice4 hw (nt := nt) (mE_run q2)).1
      omega
  | succ n ih =>
    intro s hs hn hF
    have g := (hf' s hs.1 hs.2).1
    by_cases e : s / 17 = b
    · rw [(hf s hs.1 hs.2).2.1 e]; omega
    · obtain ⟨q, q1, q2, q3⟩ := (hf' s hs.1 hs.2).2.2.2.2 e hF
      have gr := mE_range hw (el := el') hs q1
      have gp := (tPrice4 hw (nt := nt) (mE_run q2)).1
      obtain ⟨m1, m2⟩ := mE_nn q2
      have hh : ¬ mHouse T s := by
        intro z
        have := (hf' s hs.1 hs.2).2.2.1 e z
        omega
      have e1 := mE_eq (el := el) m1 m2
      have e2 := mE_eq (el := el') m1 m2
      have r1 := mRun_le s q hs.1
      have hnr := nx_range hw (s / 17) q
      have q2' : 0 ≤ mE T el s q := by rw [e1]; split <;> omega
      have gr1 := mE_range hw (el := el) hs q1
      have i0 := ih _ ⟨q2, gr.2⟩ (by omega) (by omega)
      have fc : D T nt el c s ≤ D T nt el c (mE T el s q) + 1000 * tPrice T nt (mRun s q) + 1 := by
        have gg := (hfc _ q2' gr1.2).1
        by_cases ec : s / 17 = c
        · rw [(hfc s hs.1 hs.2).2.1 ec]; omega
        · exact (hfc s hs.1 hs.2).2.2.2.1 ec hh q q1.1 q1.2 q2'
      by_cases ec : nx T (s / 17) q = c
      · have es : mE T el' s q = 17 * c + 16 := by rw [e2, ec, if_pos hce]
        have ez : D T nt el c (mE T el s q) = 0 := (hfc _ q2' gr1.2).2.1 (by rw [e1, ec]; split <;> omega)
        rw [es] at q3 i0
        rw [gC0] at i0
        rw [ez] at fc
        omega
      · have es : mE T el' s q = mE T el s q := by
          rw [e1, e2, hel _ (by omega)]
        rw [es] at q3 i0
        have fb := (hf s hs.1 hs.2).2.2.2.1 e hh q q1.1 q1.2 q2'
        omega
/-- pence with an elbow more -/
noncomputable def pE (T : Tn) (nt c b a : Int) : Int := if D T nt (tMask T 2 ||| 2 ^ c.toNat) b (17 * a + 16) < 100000000 then D T nt (tMask T 2 ||| 2 ^ c.toNat) b (17 * a + 16) / 1000 else 100000000
theorem elb_lt (hw : tWF T) (hc : 0 ≤ c ∧ c < tN T) : tMask T 2 ||| 2 ^ c.toNat < 2 ^ 20 := by
  have := tN_le hw
  exact Nat.or_lt_two_pow (tMask_lt T 2) (pow_lt20 (by omega))
theorem pE_eq (hw : tWF T) (h01 : nt = 0 ∨ nt = 1) {a : Int} (ha : tOpen T a = true) (hob : tOpen T b = true) (hoc : tOpen T c = true) : (rc T a b → pE T nt c b a = min (pX T nt b a) (if pX T nt c a < 1073741824 then pX T nt c a + pX T nt b c else 1073741824) ∧ 0 ≤ pE T nt c b a ∧ pE T nt c b a ≤ 95931) ∧ (¬ rc T a b → pE T nt c b a = 100000000) := by
  have har := open_lt ha
  have hb := open_lt hob
  have hc := open_lt hoc
  have hm2 := tMask_lt T 2
  have hel' := elb_lt hw hc
  have hsub : ∀ j, (tMask T 2).testBit j = true → (tMask T 2 ||| 2 ^ c.toNat).testBit j = true := fun j hj => by rw [Nat.testBit_or, hj]; rfl
  have hce : (tMask T 2 ||| 2 ^ c.toNat).testBit c.toNat = true := by rw [Nat.testBit_or, Nat.testBit_two_pow, decide_eq_true rfl, Bool.or_true]
  have hne : ∀ j : Nat, (j : Int) ≠ c → (tMask T 2 ||| 2 ^ c.toNat).testBit j = (tMask T 2).testBit j := fun j hj => by rw [Nat.testBit_or, Nat.testBit_two_pow, decide_eq_false (by omega), Bool.or_false]
  have hA := el_A hw h01 (el := tMask T 2) (el' := tMask T 2 ||| 2 ^ c.toNat) (by omega) (by omega) hb hsub
  have hB := el_B hw h01 (el := tMask T 2) (el' := tMask T 2 ||| 2 ^ c.toNat) (by omega) (by omega) hb hc hsub hce
  have hC := el_C hw h01 (el := tMask T 2) (el' := tMask T 2 ||| 2 ^ c.toNat) (by omega) (by omega) hb hc hne hce
  have hf' := D_fx hw h01 (el := tMask T 2 ||| 2 ^ c.toNat) (by omega) hb
  have hf := D_fx hw h01 (el := tMask T 2) (by omega) hb
  have hfc := D_fx hw h01 (el := tMask T 2) (by omega) hc
  have hFr := (hf' (17 * a + 16) (by omega) (by omega)).1
  have hbr := (hf (17 * a + 16) (by omega) (by omega)).1
  have hcr := (hfc (17 * a + 16) (by omega) (by omega)).1
  have hCr := (hf (17 * c + 16) (by omega) (by omega)).1
  have nA : (0 : Int) ≤ 17 * a + 16 ∧ 17 * a + 16 < 17 * tN T := by omega
  have nC : (0 : Int) ≤ 17 * c + 16 ∧ 17 * c + 16 < 17 * tN T := by omega
  constructor
  · intro hr
    have fb := (reach_iff hw h01 ha hb).mpr hr
    have a1 := hA (D T nt (tMask T 2) b (17 * a + 16)).toNat _ _ nA nA sle_rf (by omega) fb
    have c1 := hC (D T nt (tMask T 2 ||| 2 ^ c.toNat) b (17 * a + 16)).toNat _ nA (by omega) (by omega)
    obtain ⟨p1, k1, e1, e2, e3⟩ := fx_ps3 hw hb (by decide) hf nA.1 nA.2 fb
    obtain ⟨p', k', e1', e2', e3'⟩ := fx_ps3 hw hb (by decide) hf' nA.1 nA.2 (by omega)
    have x1 : pX T nt b a = p1 := by
      rcases pM_pX hw h01 hb har with z | z
      · rw [← z.1]; unfold pM; rw [if_pos fb]; omega
      · exact absurd fb z.2.2
    have y : pE T nt c b a = p' := by unfold pE; rw [if_pos (by omega)]; omega
    rw [x1, y]
    by_cases fc : D T nt (tMask T 2) c (17 * a + 16) < 100000000
    · have rac := (reach_iff hw h01 ha hc).mp fc
      have rcb : rc T c b := rc_trans (rc_sym hw ha rac) hr
      have fC := (reach_iff hw h01 hoc hb).mpr rcb
      have a2 := hA (D T nt (tMask T 2) b (17 * c + 16)).toNat _ _ nC nC sle_rf (by omega) fC
      have b1 := hB (D T nt (tMask T 2) c (17 * a + 16)).toNat _ _ nA nA sle_rf (by intro z; omega) (by omega) fc
      obtain ⟨p2, k2, g1, g2, g3⟩ := fx_ps3 hw hc (by decide) hfc nA.1 nA.2 fc
      obtain ⟨p3, k3, j1, j2, j3⟩ := fx_ps3 hw hb (by decide) hf nC.1 nC.2 fC
      have x2 : pX T nt c a = p2 := by
        rcases pM_pX hw h01 hc har with z | z
        · rw [← z.1]; unfold pM; rw [if_pos fc]; omega
        · exact absurd fc z.2.2
      have x3 : pX T nt b c = p3 := by
        rcases pM_pX hw h01 hb hc with z | z
        · rw [← z.1]; unfold pM; rw [if_pos fC]; omega
        · exact absurd fC z.2.2
      rw [x2, x3, if_pos (by omega)]
      omega
    · have x2 : pX T nt c a = 1073741824 := by
        rcases pM_pX hw h01 hc har with z | z
        · exact absurd z.2.2 fc
        · exact z.2.1
      rw [x2, if_neg (by omega)]
      omega
  · intro hr
    have fb : ¬ D T nt (tMask T 2) b (17 * a + 16) < 100000000 := fun z => hr ((reach_iff hw h01 ha hb).mp z)
    unfold pE
    rw [if_neg]
    intro z
    have c1 := hC (D T nt (tMask T 2 ||| 2 ^ c.toNat) b (17 * a + 16)).toNat _ nA (by omega) z
    have fc : D T nt (tMask T 2) c (17 * a + 16) < 100000000 := by omega
    have fC : D T nt (tMask T 2) b (17 * c + 16) < 100000000 := by omega
    exact hr (rc_trans ((reach_iff hw h01 ha hc).mp fc) ((reach_iff hw h01 hoc hb).mp fC))
end EL
