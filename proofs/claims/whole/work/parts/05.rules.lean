/-! RULES OF THE SMALL MACHINE -/
theorem q_go_mono {sh : QH} {rec rec' : Nat → Nat → Nat → QL → List Value → QV → Option (Option Value × QV)} (e : Nat) (h : ∀ d j pc ls st V r, rec d j pc ls st V = some r → rec' (d + e) j pc ls st V = some r) {d j pc : Nat} {ls : QL} {st : List Value} {V : QV} {r : Option Value × QV} (hg : q_go sh rec d j pc ls st V = some r) : q_go sh rec' (d + e) j pc ls st V = some r := by
  unfold q_go at hg ⊢
  cases hd : q_dec j pc with
  | none => rw [hd] at hg; cases hg
  | some x =>
    obtain ⟨o, i, len⟩ := x
    rw [hd] at hg
    dsimp only at hg ⊢
    cases hr : q_ret j i len st with
    | some v => rw [hr] at hg; exact hg
    | none =>
      rw [hr] at hg
      dsimp only at hg ⊢
      cases hc : q_call sh o i len st with
      | some y =>
        obtain ⟨j2, as, r2⟩ := y
        rw [hc] at hg
        dsimp only at hg ⊢
        cases d with
        | zero => cases hg
        | succ d2 =>
          have e1 : d2 + 1 + e = (d2 + e) + 1 := by omega
          rw [e1]
          dsimp only at hg ⊢
          by_cases hfit : (as.map fun v => v.category).sum ≤ q_ml j2
          · rw [if_pos hfit] at hg ⊢
            cases ha : rec d2 j2 0 (q_en as (q_ml j2)) [] V with
            | none => rw [ha] at hg; cases hg
            | some w =>
              obtain ⟨v, V2⟩ := w
              rw [ha] at hg
              rw [h _ _ _ _ _ _ _ ha]
              dsimp only at hg ⊢
              have := h _ _ _ _ _ _ _ hg
              rw [e1] at this
              exact this
          · rw [if_neg hfit] at hg; cases hg
      | none =>
        rw [hc] at hg
        dsimp only at hg ⊢
        cases hs : q_s o i len pc ls st with
        | some y =>
          rw [hs] at hg
          exact h _ _ _ _ _ _ _ hg
        | none =>
          rw [hs] at hg
          dsimp only at hg ⊢
          cases hm : q_m sh o i len pc st V with
          | some y =>
            rw [hm] at hg
            exact h _ _ _ _ _ _ _ hg
          | none => rw [hm] at hg; cases hg
theorem am_mono {sh : QH} (k e : Nat) : ∀ (n d j pc : Nat) (ls : QL) (st : List Value) (V : QV) (r : Option Value × QV), am sh n d j pc ls st V = some r → am sh (n + k) (d + e) j pc ls st V = some r
  | 0, _, _, _, _, _, _, _, h => by cases h
  | n + 1, d, j, pc, ls, st, V, r, h => by
    have e1 : n + 1 + k = (n + k) + 1 := by omega
    rw [e1]
    exact q_go_mono e (fun d j pc ls st V r h => am_mono k e n d j pc ls st V r h) h
/-- from here it comes to its end, and then Q -/
def G (sh : QH) (d j pc : Nat) (ls : QL) (st : List Value) (V : QV) (Q : Option Value → QV → Prop) : Prop := ∃ n r V', am sh n d j pc ls st V = some (r, V') ∧ Q r V'
section GR
variable {sh : QH} {d j pc o : Nat} {ls : QL} {st : List Value} {V : QV} {Q : Option Value → QV → Prop}
theorem G.mono {Q2 : Option Value → QV → Prop} (h : G sh d j pc ls st V Q) (hq : ∀ r V', Q r V' → Q2 r V') : G sh d j pc ls st V Q2 := by
  obtain ⟨n, r, V', h1, h2⟩ := h
  exact ⟨n, r, V', h1, hq r V' h2⟩
theorem G.deep (e : Nat) (h : G sh d j pc ls st V Q) : G sh (d + e) j pc ls st V Q := by
  obtain ⟨n, r, V', h1, h2⟩ := h
  exact ⟨n, r, V', by simpa using am_mono 0 e n d j pc ls st V _ h1, h2⟩
theorem g_r {i : Instr} {n : Nat} {v : Option Value} (hd : q_dec j pc = some (o, i, n)) (hr : q_ret j i n st = some v) (hq : Q v V) : G sh d j pc ls st V Q := by
  refine ⟨1, v, V, ?_, hq⟩
  show q_go sh (am sh 0) d j pc ls st V = _
  unfold q_go
  rw [hd]; dsimp only; rw [hr]
theorem g_s {i : Instr} {n pc2 : Nat} {ls2 : QL} {st2 : List Value} (hd : q_dec j pc = some (o, i, n)) (hr : q_ret j i n st = none) (hc : q_call sh o i n st = none) (hs : q_s o i n pc ls st = some (pc2, ls2, st2)) (k : G sh d j pc2 ls2 st2 V Q) : G sh d j pc ls st V Q := by
  obtain ⟨m, r, V', h1, h2⟩ := k
  refine ⟨m + 1, r, V', ?_, h2⟩
  show q_go sh (am sh m) d j pc ls st V = _
  unfold q_go
  rw [hd]; dsimp only; rw [hr]; dsimp only; rw [hc]; dsimp only; rw [hs]; exact h1
theorem g_m {i : Instr} {n pc2 : Nat} {st2 : List Value} {V2 : QV} (hd : q_dec j pc = some (o, i, n)) (hr : q_ret j i n st = none) (hc : q_call sh o i n st = none) (hs : q_s o i n pc ls st = none) (hm : q_m sh o i n pc st V = some (pc2, st2, V2)) (k : G sh d j pc2 ls st2 V2 Q) : G sh d j pc ls st V Q := by
  obtain ⟨m, r, V', h1, h2⟩ := k
  refine ⟨m + 1, r, V', ?_, h2⟩
  show q_go sh (am sh m) d j pc ls st V = _
  unfold q_go
  rw [hd]; dsimp only; rw [hr]; dsimp only; rw [hc]; dsimp only; rw [hs]; dsimp only; rw [hm]; exact h1
/-- a call: from the callee's own contract -/
theorem g_c {i : Instr} {n j2 : Nat} {as r : List Value} {Q2 : Option Value → QV → Prop} (hd : q_dec j pc = some (o, i, n)) (hr : q_ret j i n st = none) (hc : q_call sh o i n st = some (j2, as, r)) (hfit : (as.map fun v => v.category).sum ≤ q_ml j2) (hk : G sh d j2 0 (q_en as (q_ml j2)) [] V Q2) (k : ∀ v V2, Q2 v V2 → G sh (d + 1) j (pc + 3) ls (v.toList ++ r) V2 Q) : G sh (d + 1) j pc ls st V Q := by
  obtain ⟨m1, v, V2, a1, a2⟩ := hk
  obtain ⟨m2, w, V3, b1, b2⟩ := k v V2 a2
  refine ⟨(m1 + m2) + 1, w, V3, ?_, b2⟩
  show q_go sh (am sh (m1 + m2)) (d + 1) j pc ls st V = _
  unfold q_go
  rw [hd]; dsimp only; rw [hr]; dsimp only; rw [hc]; dsimp only
  rw [if_pos hfit]
  rw [show am sh (m1 + m2) d j2 0 (q_en as (q_ml j2)) [] V = some (v, V2) from am_mono m2 0 m1 d j2 0 _ _ V _ a1]
  dsimp only
  rw [Nat.add_comm m1 m2]
  exact am_mono m1 0 m2 (d + 1) j (pc + 3) ls _ V2 _ b1
end GR
