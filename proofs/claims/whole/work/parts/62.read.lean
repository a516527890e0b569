/-! READING: items of a text, as mathematics -/
abbrev Zt : Type := Tn × Bool × Bool × Bool
abbrev Rt : Type := Nat ⊕ (Zt × Nat)
def tGf (T : Tn) : Nat → Int := T.2.2.2.2.2.2.2
def tSetW (T : Tn) (v : Int) : Tn := (v, tH T, tF T, tR T, tM T, tD T, tA T, tGf T)
def tSetH (T : Tn) (v : Int) : Tn := (tW T, v, tF T, tR T, tM T, tD T, tA T, tGf T)
def tSetF (T : Tn) (v : Int) : Tn := (tW T, tH T, v, tR T, tM T, tD T, tA T, tGf T)
def tSetR (T : Tn) (v : Int) : Tn := (tW T, tH T, tF T, v, tM T, tD T, tA T, tGf T)
def tSetM (T : Tn) (v : Int) : Tn := (tW T, tH T, tF T, tR T, v, tD T, tA T, tGf T)
def tSetD (T : Tn) (v : Int) : Tn := (tW T, tH T, tF T, tR T, tM T, v, tA T, tGf T)
def tSetA (T : Tn) (v : Int) : Tn := (tW T, tH T, tF T, tR T, tM T, tD T, v, tGf T)
def tSetG (T : Tn) (c : Nat) (v : Int) : Tn := (tW T, tH T, tF T, tR T, tM T, tD T, tA T, fu (tGf T) c v)
theorem TAt.setW {sh : QH} {I : Nat → Nat → Int} {X : XX} {t : Nat} {T : Tn} {v : Int} (h : TAt sh (I, X) t T) : TAt sh (q_up I t 0 v, X) t (tSetW T v) := by
  obtain ⟨s1, s2, s3, q1, q2, a0, a1, a2, a3, a4, a5, a6, ag⟩ := h
  exact ⟨s1, s2, s3, q1, q2, q_up_s, (q_up_n (by omega)).trans a1, (q_up_n (by omega)).trans a2, (q_up_n (by omega)).trans a3, (q_up_n (by omega)).trans a4, (q_up_n (by omega)).trans a5, (q_up_n (by omega)).trans a6, fun c hc => (q_up_n (by omega)).trans (ag c hc)⟩
theorem TAt.setH {sh : QH} {I : Nat → Nat → Int} {X : XX} {t : Nat} {T : Tn} {v : Int} (h : TAt sh (I, X) t T) : TAt sh (q_up I t 1 v, X) t (tSetH T v) := by
  obtain ⟨s1, s2, s3, q1, q2, a0, a1, a2, a3, a4, a5, a6, ag⟩ := h
  exact ⟨s1, s2, s3, q1, q2, (q_up_n (by omega)).trans a0, q_up_s, (q_up_n (by omega)).trans a2, (q_up_n (by omega)).trans a3, (q_up_n (by omega)).trans a4, (q_up_n (by omega)).trans a5, (q_up_n (by omega)).trans a6, fun c hc => (q_up_n (by omega)).trans (ag c hc)⟩
theorem TAt.setF {sh : QH} {I : Nat → Nat → Int} {X : XX} {t : Nat} {T : Tn} {v : Int} (h : TAt sh (I, X) t T) : TAt sh (q_up I t 2 v, X) t (tSetF T v) := by
  obtain ⟨s1, s2, s3, q1, q2, a0, a1, a2, a3, a4, a5, a6, ag⟩ := h
  exact ⟨s1, s2, s3, q1, q2, (q_up_n (by omega)).trans a0, (q_up_n (by omega)).trans a1, q_up_s, (q_up_n (by omega)).trans a3, (q_up_n (by omega)).trans a4, (q_up_n (by omega)).trans a5, (q_up_n (by omega)).trans a6, fun c hc => (q_up_n (by omega)).trans (ag c hc)⟩
theorem TAt.setR {sh : QH} {I : Nat → Nat → Int} {X : XX} {t : Nat} {T : Tn} {v : Int} (h : TAt sh (I, X) t T) : TAt sh (q_up I t 3 v, X) t (tSetR T v) := by
  obtain ⟨s1, s2, s3, q1, q2, a0, a1, a2, a3, a4, a5, a6, ag⟩ := h
  exact ⟨s1, s2, s3, q1, q2, (q_up_n (by omega)).trans a0, (q_up_n (by omega)).trans a1, (q_up_n (by omega)).trans a2, q_up_s, (q_up_n (by omega)).trans a4, (q_up_n (by omega)).trans a5, (q_up_n (by omega)).trans a6, fun c hc => (q_up_n (by omega)).trans (ag c hc)⟩
theorem TAt.setM {sh : QH} {I : Nat → Nat → Int} {X : XX} {t : Nat} {T : Tn} {v : Int} (h : TAt sh (I, X) t T) : TAt sh (q_up I t 4 v, X) t (tSetM T v) := by
  obtain ⟨s1, s2, s3, q1, q2, a0, a1, a2, a3, a4, a5, a6, ag⟩ := h
  exact ⟨s1, s2, s3, q1, q2, (q_up_n (by omega)).trans a0, (q_up_n (by omega)).trans a1, (q_up_n (by omega)).trans a2, (q_up_n (by omega)).trans a3, q_up_s, (q_up_n (by omega)).trans a5, (q_up_n (by omega)).trans a6, fun c hc => (q_up_n (by omega)).trans (ag c hc)⟩
theorem TAt.setD {sh : QH} {I : Nat → Nat → Int} {X : XX} {t : Nat} {T : Tn} {v : Int} (h : TAt sh (I, X) t T) : TAt sh (q_up I t 5 v, X) t (tSetD T v) := by
  obtain ⟨s1, s2, s3, q1, q2, a0, a1, a2, a3, a4, a5, a6, ag⟩ := h
  exact ⟨s1, s2, s3, q1, q2, (q_up_n (by omega)).trans a0, (q_up_n (by omega)).trans a1, (q_up_n (by omega)).trans a2, (q_up_n (by omega)).trans a3, (q_up_n (by omega)).trans a4, q_up_s, (q_up_n (by omega)).trans a6, fun c hc => (q_up_n (by omega)).trans (ag c hc)⟩
theorem TAt.setA {sh : QH} {I : Nat → Nat → Int} {X : XX} {t : Nat} {T : Tn} {v : Int} (h : TAt sh (I, X) t T) : TAt sh (q_up I t 6 v, X) t (tSetA T v) := by
  obtain ⟨s1, s2, s3, q1, q2, a0, a1, a2, a3, a4, a5, a6, ag⟩ := h
  exact ⟨s1, s2, s3, q1, q2, (q_up_n (by omega)).trans a0, (q_up_n (by omega)).trans a1, (q_up_n (by omega)).trans a2, (q_up_n (by omega)).trans a3, (q_up_n (by omega)).trans a4, (q_up_n (by omega)).trans a5, q_up_s, fun c hc => (q_up_n (by omega)).trans (ag c hc)⟩
theorem TAt.setG {sh : QH} {I : Nat → Nat → Int} {X : XX} {t : Nat} {T : Tn} {c : Nat} {v : Int} (h : TAt sh (I, X) t T) : TAt sh (q_up I (t + 1) c v, X) t (tSetG T c v) := by
  obtain ⟨s1, s2, s3, q1, q2, a0, a1, a2, a3, a4, a5, a6, ag⟩ := h
  refine ⟨s1, s2, s3, q1, q2, (q_up_n (by omega)).trans a0, (q_up_n (by omega)).trans a1, (q_up_n (by omega)).trans a2, (q_up_n (by omega)).trans a3, (q_up_n (by omega)).trans a4, (q_up_n (by omega)).trans a5, (q_up_n (by omega)).trans a6, fun i hi => ?_⟩
  show q_up I (t + 1) c v (t + 1) i = fu (tGf T) c v i
  unfold fu
  by_cases y : i = c
  · subst y
    rw [q_up_s, if_pos rfl]
  · rw [q_up_n (by omega), if_neg y]
    exact ag i hi
section PP
variable (b : Nat → Int) (L : Nat)
def vP (p : Nat) : Int := nV b L (skp b L p)
def eP (p : Nat) : Nat := eQ b L (skp b L p)
def kP (p : Nat) : Int := kQ b L (skp b L p)
def nOK (lo hi : Int) (p : Nat) : Bool := decide (kP b L p = 3 ∧ lo ≤ vP b L p ∧ vP b L p ≤ hi)
def pStop (z : Zt) (p : Nat) : Rt := if kP b L p = 2 then .inr (z, eP b L p) else .inl (skp b L p)
def bSize (z : Zt) (p : Nat) : Rt := if nOK b L 2 5 p = true then (if nOK b L 1 4 (eP b L p) = true then .inr ((tSetH (tSetW z.1 (vP b L p)) (vP b L (eP b L p)), z.2), eP b L (eP b L p)) else .inl (skp b L (eP b L p))) else .inl (skp b L p)
def bThing (z : Zt) (v : Int) (p : Nat) : Rt := if nOK b L 0 (tW z.1 - 1) p = true then (if nOK b L 0 (tH z.1 - 1) (eP b L p) = true then (if tG z.1 (vP b L (eP b L p) * tW z.1 + vP b L p).toNat = 0 then .inr ((tSetG z.1 (vP b L (eP b L p) * tW z.1 + vP b L p).toNat v, z.2), eP b L (eP b L p)) else .inl (skp b L (eP b L p))) else .inl (skp b L (eP b L p))) else .inl (skp b L p)
def bTax (z : Zt) (q p : Nat) : Rt := if z.2.1 = true then .inl q else if nOK b L 0 4 p = true then (if nOK b L 1 9 (eP b L p) = true then (if nOK b L 0 2 (eP b L (eP b L p)) = true then .inr ((tSetM (tSetR (tSetF z.1 (vP b L p)) (vP b L (eP b L p))) (vP b L (eP b L (eP b L p))), true, z.2.2), eP b L (eP b L (eP b L p))) else .inl (skp b L (eP b L (eP b L p)))) else .inl (skp b L (eP b L p))) else .inl (skp b L p)
def bDouble (z : Zt) (q p : Nat) : Rt := if z.2.2.1 = true then .inl q else .inr ((tSetD z.1 1, z.2.1, true, z.2.2.2), p)
def bHaste (z : Zt) (q p : Nat) : Rt := if z.2.2.2 = true then .inl q else if nOK b L 0 9 p = true then .inr ((tSetA z.1 (vP b L p), z.2.1, z.2.2.1, true), eP b L p) else .inl (skp b L p)
def pBody (n : Nat) (z : Zt) (q : Nat) : Rt := if kQ b L q = 4 then (if n = 0 then bSize b L z (eQ b L q) else .inl q) else if kQ b L q = 5 then bThing b L z 1 (eQ b L q) else if kQ b L q = 6 then bThing b L z 2 (eQ b L q) else if kQ b L q = 7 then bTax b L z q (eQ b L q) else if kQ b L q = 8 then bDouble z q (eQ b L q) else if kQ b L q = 9 then bHaste b L z q (eQ b L q) else .inl q
def pItem (n : Nat) (z : Zt) (q : Nat) : Rt := match pBody b L n z q with
  | .inl f => .inl f
  | .inr w => pStop b L w.1 w.2
def pTell : Nat → Nat → Zt → Nat → Nat ⊕ (Nat × Zt)
  | 0, _, _, _ => .inl 0
  | m + 1, n, z, p => if kP b L p = 1 then .inr (n, z) else match pItem b L n z (skp b L p) with
    | .inl f => .inl f
    | .inr w => pTell m (n + 1) w.1 w.2
end PP
def ZOK (n : Nat) (z : Zt) : Prop := tOK z.1 ∧ (n = 0 → ∀ c, tG z.1 c = 0)
section PL
variable {b : Nat → Int} {L : Nat}
theorem nOK_v {lo hi : Int} {p : Nat} (h : nOK b L lo hi p = true) : lo ≤ vP b L p ∧ vP b L p ≤ hi := by
  unfold nOK at h
  rw [decide_eq_true_iff] at h
  exact h.2
theorem eP_r {p : Nat} (h : p ≤ L) : p ≤ eP b L p ∧ eP b L p ≤ L := by
  have h1 := skp_r b h
  have h2 := eQ_r b h1.2
  unfold eP
  omega
theorem kQ_2 {q : Nat} (h : kQ b L q = 2) : q < L ∧ b q = 59 := by
  unfold kQ at h
  by_cases z : L ≤ q
  · rw [if_pos z] at h; omega
  · rw [if_neg z] at h
    by_cases y : b q = 59
    · exact ⟨by omega, y⟩
    · rw [if_neg y] at h
      exfalso
      split at h
      · unfold wkd at h
        split at h
        · omega
        · split at h
          · omega
          · split at h
            · omega
            · split at h
              · omega
              · split at h
                · omega
                · split at h <;> omega
      · split at h
        · split at h <;> omega
        · omega
theorem pStop_pos {z : Zt} {p : Nat} {w : Zt × Nat} (hp : p ≤ L) (h : pStop b L z p = .inr w) : w.1 = z ∧ p < w.2 ∧ w.2 ≤ L := by
  unfold pStop at h
  split at h
  · rename_i h2
    cases h
    have h3 := skp_r b hp
    obtain ⟨h4, h5⟩ := kQ_2 h2
    refine ⟨rfl, ?_⟩
    show p < eP b L p ∧ eP b L p ≤ L
    unfold eP eQ
    rw [if_neg (by omega), if_pos h5]
    omega
  · cases h
theorem tOK_of {T T' : Tn} (h : tOK T) (hw : (2 ≤ tW T' ∧ tW T' ≤ 5) ∧ (1 ≤ tH T' ∧ tH T' ≤ 4) ∧ (0 ≤ tF T' ∧ tF T' ≤ 4) ∧ (1 ≤ tR T' ∧ tR T' ≤ 9) ∧ (0 ≤ tM T' ∧ tM T' ≤ 2) ∧ (0 ≤ tD T' ∧ tD T' ≤ 1) ∧ (0 ≤ tA T' ∧ tA T' ≤ 9)) (hN : tN T' = tN T) (hG : tGf T' = tGf T) : tOK T' := by
  have e : ∀ c, tG T' c = tG T c := fun c => congrFun hG c
  obtain ⟨h1, h2, h3, h4, h5, h6, h7⟩ := hw
  exact ⟨⟨h1, h2, h3, h4, h5, h6, h7, fun c => by rw [e]; exact h.1.2.2.2.2.2.2.2 c⟩, fun c hc => by rw [e]; exact h.2 c (by omega)⟩
theorem bSize_ok {z : Zt} {p : Nat} {w : Zt × Nat} (hz : ZOK 0 z) (hp : p ≤ L) (h : bSize b L z p = .inr w) : tOK w.1.1 ∧ p ≤ w.2 ∧ w.2 ≤ L := by
  unfold bSize at h
  split at h
  · rename_i h1
    split at h
    · rename_i h2
      cases h
      have v1 := nOK_v h1
      have v2 := nOK_v h2
      have e1 := eP_r (b := b) hp
      have e2 := eP_r (b := b) e1.2
      have g0 := hz.2 rfl
      obtain ⟨⟨w1, w2, w3, w4, w5, w6, w7, w8⟩, _⟩ := hz.1
      refine ⟨⟨⟨v1, v2, w3, w4, w5, w6, w7, w8⟩, fun c _ => g0 c⟩, ?_⟩
      dsimp only
      omega
    · cases h
  · cases h
theorem thing_c {T : Tn} (hw : tWF T) {x y : Int} (hx : 0 ≤ x ∧ x ≤ tW T - 1) (hy : 0 ≤ y ∧ y ≤ tH T - 1) : tSq T x y = y * tW T + x ∧ 0 ≤ y * tW T + x ∧ y * tW T + x < tN T := by
  have h1 : tSq T x y = y * tW T + x := by unfold tSq; rw [if_pos (by omega)]
  have h2 := tSq_range hw x y
  have h3 : 0 ≤ y * tW T := Int.mul_nonneg hy.1 (by have := hw.1; omega)
  omega
theorem bThing_ok {z : Zt} {p : Nat} {v : Int} {w : Zt × Nat} (hv : 0 ≤ v ∧ v ≤ 2) (hz : tOK z.1) (hp : p ≤ L) (h : bThing b L z v p = .inr w) : tOK w.1.1 ∧ p ≤ w.2 ∧ w.2 ≤ L := by
  unfold bThing at h
  split at h
  · rename_i h1
    split at h
    · rename_i h2
      split at h
      · cases h
        have v1 := nOK_v h1
        have v2 := nOK_v h2
        have e1 := eP_r (b := b) hp
        have e2 := eP_r (b := b) e1.2
        have hc := thing_c hz.1 v1 v2
        obtain ⟨⟨w1, w2, w3, w4, w5, w6, w7, w8⟩, w9⟩ := hz
        refine ⟨⟨⟨w1, w2, w3, w4, w5, w6, w7, fun c => ?_⟩, fun c hc2 => ?_⟩, ?_⟩
        · show 0 ≤ fu (tGf z.1) _ v c ∧ fu (tGf z.1) _ v c ≤ 2
          unfold fu
          split
          · exact hv
          · exact w8 c
        · change tN z.1 ≤ (c : Int) at hc2
          show fu (tGf z.1) _ v c = 0
          unfold fu
          rw [if_neg (by omega)]
          exact w9 c hc2
        · dsimp only
          omega
      · cases h
    · cases h
  · cases h
theorem bTax_ok {z : Zt} {q p : Nat} {w : Zt × Nat} (hz : tOK z.1) (hp : p ≤ L) (h : bTax b L z q p = .inr w) : tOK w.1.1 ∧ p ≤ w.2 ∧ w.2 ≤ L := by
  unfold bTax at h
  split at h
  · cases h
  · split at h
    · rename_i h1
      split at h
      · rename_i h2
        split at h
        · rename_i h3
          cases h
          have v1 := nOK_v h1
          have v2 := nOK_v h2
          have v3 := nOK_v h3
          have e1 := eP_r (b := b) hp
          have e2 := eP_r (b := b) e1.2
          have e3 := eP_r (b := b) e2.2
          obtain ⟨⟨w1, w2, w3, w4, w5, w6, w7, w8⟩, w9⟩ := hz
          refine ⟨⟨⟨w1, w2, v1, v2, v3, w6, w7, w8⟩, w9⟩, ?_⟩
          dsimp only
          omega
        · cases h
      · cases h
    · cases h
theorem bDouble_ok {z : Zt} {q p : Nat} {w : Zt × Nat} (hz : tOK z.1) (hp : p ≤ L) (h : bDouble z q p = .inr w) : tOK w.1.1 ∧ p ≤ w.2 ∧ w.2 ≤ L := by
  unfold bDouble at h
  split at h
  · cases h
  · cases h
    obtain ⟨⟨w1, w2, w3, w4, w5, w6, w7, w8⟩, w9⟩ := hz
    refine ⟨⟨⟨w1, w2, w3, w4, w5, by show (0 : Int) ≤ 1 ∧ (1 : Int) ≤ 1; decide, w7, w8⟩, w9⟩, ?_⟩
    dsimp only
    omega
theorem bHaste_ok {z : Zt} {q p : Nat} {w : Zt × Nat} (hz : tOK z.1) (hp : p ≤ L) (h : bHaste b L z q p = .inr w) : tOK w.1.1 ∧ p ≤ w.2 ∧ w.2 ≤ L := by
  unfold bHaste at h
  split at h
  · cases h
  · split at h
    · rename_i h1
      cases h
      have v1 := nOK_v h1
      have e1 := eP_r (b := b) hp
      obtain ⟨⟨w1, w2, w3, w4, w5, w6, w7, w8⟩, w9⟩ := hz
      refine ⟨⟨⟨w1, w2, w3, w4, w5, w6, v1, w8⟩, w9⟩, ?_⟩
      dsimp only
      omega
    · cases h
theorem pBody_ok {n q : Nat} {z : Zt} {w : Zt × Nat} (hz : ZOK n z) (hq : q ≤ L) (h : pBody b L n z q = .inr w) : tOK w.1.1 ∧ q ≤ w.2 ∧ w.2 ≤ L := by
  have he := eQ_r b hq
  have fin : ∀ {x : Prop}, (x ∧ eQ b L q ≤ w.2 ∧ w.2 ≤ L) → x ∧ q ≤ w.2 ∧ w.2 ≤ L := fun h => ⟨h.1, by omega, by omega⟩
  unfold pBody at h
  split at h
  · split at h
    · rename_i h0
      subst h0
      exact fin (bSize_ok hz he.2 h)
    · cases h
  · split at h
    · exact fin (bThing_ok (by omega) hz.1 he.2 h)
    · split at h
      · exact fin (bThing_ok (by omega) hz.1 he.2 h)
      · split at h
        · exact fin (bTax_ok hz.1 he.2 h)
        · split at h
          · exact fin (bDouble_ok hz.1 he.2 h)
          · split at h
            · exact fin (bHaste_ok hz.1 he.2 h)
            · cases h
end PL
