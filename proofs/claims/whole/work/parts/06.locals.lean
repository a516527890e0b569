/-! THE SMALL MACHINE IS TRUE TO THE MACHINE, 1: locals, and what touches no memory -/
def q_lf (av : Nat → Value) : Value → Value
  | .ref c => av c
  | v => v
/-- where the numbered cells lie: only 1030 may be null -/
def q_AV (av : Nat → Value) : Prop := (∀ c, c ≠ 1030 → ∃ a, av c = .ref a) ∧ ((∃ a, av 1030 = .ref a) ∨ av 1030 = .null)
theorem q_AV.cat {av : Nat → Value} (h : q_AV av) (v : Value) : (q_lf av v).category = v.category := by
  cases v <;> try rfl
  rename_i c
  show (av c).category = 1
  by_cases hc : c = 1030
  · subst hc
    rcases h.2 with ⟨a, ha⟩ | ha <;> rw [ha] <;> rfl
  · obtain ⟨a, ha⟩ := h.1 c hc
    rw [ha]; rfl
theorem q_AV.refOrNull {av : Nat → Value} (h : q_AV av) (c : Nat) : (∃ a, av c = .ref a) ∨ av c = .null := by
  by_cases hc : c = 1030
  · subst hc; exact h.2
  · exact Or.inl (h.1 c hc)
theorem q_AV.sum {av : Nat → Value} (h : q_AV av) (l : List Value) : ((l.map (q_lf av)).map fun v => v.category).sum = (l.map fun v => v.category).sum := by
  rw [List.map_map]
  congr 1
  exact List.map_congr_left (fun v _ => h.cat v)
def q_asc (av : Nat → Value) (l : QL) : List (Nat × Value) := (List.range l.length).filterMap (fun i => (q_at l i).map (fun v => (i, q_lf av v)))
theorem q_at_lt {l : QL} {i : Nat} {v : Value} (h : q_at l i = some v) : i < l.length := by
  unfold q_at at h
  rcases Nat.lt_or_ge i l.length with hi | hi
  · exact hi
  · rw [List.getD_eq_getElem?_getD, List.getElem?_eq_none hi] at h; cases h
theorem q_asc_mem {av : Nat → Value} {l : QL} {q : Nat × Value} : q ∈ q_asc av l ↔ ∃ v, q_at l q.1 = some v ∧ q.2 = q_lf av v := by
  unfold q_asc
  rw [List.mem_filterMap]
  constructor
  · rintro ⟨i, hi, h⟩
    cases hv : q_at l i with
    | none => rw [hv] at h; cases h
    | some v => rw [hv] at h; cases h; exact ⟨v, hv, rfl⟩
  · rintro ⟨v, h1, h2⟩
    refine ⟨q.1, List.mem_range.mpr (q_at_lt h1), ?_⟩
    rw [h1]
    show some (q.1, q_lf av v) = some q
    rw [← h2]
def q_LR (av : Nat → Value) (LS : Array Slot) (nL : Nat) (l : QL) : Prop := l.length = nL ∧ lv_has LS nL (q_asc av l)
theorem q_LR.get {av : Nat → Value} {LS : Array Slot} {nL : Nat} {l : QL} (h : q_LR av LS nL l) {i : Nat} {v : Value} (hv : q_at l i = some v) : LS[i]? = some (.val (q_lf av v)) := h.2.2.2 (i, q_lf av v) (q_asc_mem.mpr ⟨v, hv, rfl⟩)
theorem q_st1_len : ∀ (l : QL) (i : Nat) (v : Value), (q_st1 l i v).length = l.length
  | [], _, _ => rfl
  | _ :: t, 0, v => rfl
  | x :: t, 1, v => by simp [q_st1, q_st1_len t 0 v]
  | x :: t, i + 2, v => by simp [q_st1, q_st1_len t (i + 1) v]
theorem q_at_S (x : Option Value) (t : QL) (k : Nat) : q_at (x :: t) (k + 1) = q_at t k := rfl
theorem q_at_0 (x : Option Value) (t : QL) : q_at (x :: t) 0 = x := by cases x <;> rfl
theorem q_unl_some {x : Option Value} {w : Value} (h : q_unl x = some w) : x = some w ∧ ¬ w.category = 2 := by
  cases x with
  | none => cases h
  | some v => cases v <;> first | (cases h; exact ⟨rfl, by simp [Value.category]⟩) | cases h
theorem q_st1_at : ∀ (l : QL) (i : Nat) (v : Value) (k : Nat) (w : Value), q_at (q_st1 l i v) k = some w → (k = i ∧ w = v) ∨ (k ≠ i ∧ q_at l k = some w ∧ ¬ (k + 1 = i ∧ w.category = 2))
  | [], _, _, k, w, h => by cases k <;> cases h
  | x :: t, 0, v, 0, w, h => by cases h; exact Or.inl ⟨rfl, rfl⟩
  | x :: t, 0, v, k + 1, w, h => Or.inr ⟨by omega, h, by omega⟩
  | x :: t, 1, v, 0, w, h => by
    rw [q_st1, q_at_0] at h
    obtain ⟨h1, h2⟩ := q_unl_some h
    exact Or.inr ⟨by omega, by rw [q_at_0]; exact h1, fun z => h2 z.2⟩
  | x :: t, 1, v, k + 1, w, h => by
    rw [q_st1, q_at_S] at h
    rcases q_st1_at t 0 v k w h with ⟨h1, h2⟩ | ⟨h1, h2, h3⟩
    · exact Or.inl ⟨by omega, h2⟩
    · exact Or.inr ⟨by omega, h2, by omega⟩
  | x :: t, i + 2, v, 0, w, h => Or.inr ⟨by omega, h, by omega⟩
  | x :: t, i + 2, v, k + 1, w, h => by
    rw [q_st1, q_at_S] at h
    rcases q_st1_at t (i + 1) v k w h with ⟨h1, h2⟩ | ⟨h1, h2, h3⟩
    · exact Or.inl ⟨by omega, h2⟩
    · exact Or.inr ⟨by omega, h2, fun z => h3 ⟨by omega, z.2⟩⟩
theorem q_LR.st1 {av : Nat → Value} (hav : q_AV av) {LS LS' : Array Slot} {nL : Nat} {l : QL} (h : q_LR av LS nL l) {i : Nat} {v : Value} (h' : lv_has LS' nL ((i, q_lf av v) :: (q_asc av l).filter (fun q => !(q.1 == i) && !(q.1 + 1 == i && q.2.category == 2)))) : q_LR av LS' nL (q_st1 l i v) := by
  refine ⟨(q_st1_len l i v).trans h.1, h'.1, h'.2.1, fun q hq => h'.2.2 q ?_⟩
  obtain ⟨w, h1, h2⟩ := q_asc_mem.mp hq
  rcases q_st1_at l i v q.1 w h1 with ⟨e1, e2⟩ | ⟨e1, e2, e3⟩
  · refine List.mem_cons.mpr (Or.inl ?_)
    rw [← e1, ← e2, ← h2]
  · refine List.mem_cons.mpr (Or.inr (List.mem_filter.mpr ⟨q_asc_mem.mpr ⟨w, e2, h2⟩, ?_⟩))
    have e4 : q.2.category = w.category := by rw [h2]; exact hav.cat w
    simp only [Bool.and_eq_true, Bool.not_eq_true', beq_eq_false_iff_ne, ne_eq, Bool.and_eq_false_imp, beq_iff_eq]
    exact ⟨e1, fun z => by rw [e4]; exact fun y => e3 ⟨z, y⟩⟩
theorem q_st2_at : ∀ (l : QL) (i : Nat) (v : Value) (k : Nat) (w : Value), q_at (q_st2 l i v) k = some w → (k = i ∧ w = v) ∨ (k ≠ i ∧ k ≠ i + 1 ∧ q_at l k = some w ∧ ¬ (k + 1 = i ∧ w.category = 2))
  | [], _, _, k, w, h => by cases k <;> cases h
  | [_], 0, _, k, w, h => by cases k <;> cases h
  | x :: y :: t, 0, v, 0, w, h => by cases h; exact Or.inl ⟨rfl, rfl⟩
  | x :: y :: t, 0, v, 1, w, h => by cases h
  | x :: y :: t, 0, v, k + 2, w, h => Or.inr ⟨by omega, by omega, h, by omega⟩
  | x :: t, 1, v, 0, w, h => by
    rw [q_st2, q_at_0] at h
    obtain ⟨h1, h2⟩ := q_unl_some h
    exact Or.inr ⟨by omega, by omega, by rw [q_at_0]; exact h1, fun z => h2 z.2⟩
  | x :: t, 1, v, k + 1, w, h => by
    rw [q_st2, q_at_S] at h
    rcases q_st2_at t 0 v k w h with ⟨h1, h2⟩ | ⟨h1, h0, h2, h3⟩
    · exact Or.inl ⟨by omega, h2⟩
    · exact Or.inr ⟨by omega, by omega, h2, by omega⟩
  | x :: t, i + 2, v, 0, w, h => Or.inr ⟨by omega, by omega, by rw [q_st2] at h; exact h, by omega⟩
  | x :: t, i + 2, v, k + 1, w, h => by
    rw [q_st2, q_at_S] at h
    rcases q_st2_at t (i + 1) v k w h with ⟨h1, h2⟩ | ⟨h1, h0, h2, h3⟩
    · exact Or.inl ⟨by omega, h2⟩
    · exact Or.inr ⟨by omega, by omega, h2, fun z => h3 ⟨by omega, z.2⟩⟩
theorem q_st2_len : ∀ (l : QL) (i : Nat) (v : Value), i + 1 < l.length → (q_st2 l i v).length = l.length
  | [], _, _, h => by simp at h
  | [_], 0, _, h => by simp at h
  | _ :: _ :: t, 0, v, _ => rfl
  | x :: t, 1, v, h => by simp only [List.length_cons] at h; simp [q_st2, q_st2_len t 0 v (by omega)]
  | x :: t, i + 2, v, h => by simp only [List.length_cons] at h; simp [q_st2, q_st2_len t (i + 1) v (by omega)]
theorem q_LR.st2 {av : Nat → Value} (hav : q_AV av) {LS LS' : Array Slot} {nL : Nat} {l : QL} (h : q_LR av LS nL l) {i : Nat} {v : Value} (hi : i + 1 < l.length) (h' : lv_has LS' nL ((i, q_lf av v) :: (q_asc av l).filter (fun q => !(q.1 == i) && (!(q.1 == i + 1) && !(q.1 + 1 == i && q.2.category == 2))))) : q_LR av LS' nL (q_st2 l i v) := by
  refine ⟨(q_st2_len l i v hi).trans h.1, h'.1, h'.2.1, fun q hq => h'.2.2 q ?_⟩
  obtain ⟨w, h1, h2⟩ := q_asc_mem.mp hq
  rcases q_st2_at l i v q.1 w h1 with ⟨e1, e2⟩ | ⟨e1, e0, e2, e3⟩
  · refine List.mem_cons.mpr (Or.inl ?_)
    rw [← e1, ← e2, ← h2]
  · refine List.mem_cons.mpr (Or.inr (List.mem_filter.mpr ⟨q_asc_mem.mpr ⟨w, e2, h2⟩, ?_⟩))
    have e4 : q.2.category = w.category := by rw [h2]; exact hav.cat w
    simp only [Bool.and_eq_true, Bool.not_eq_true', beq_eq_false_iff_ne, ne_eq, Bool.and_eq_false_imp, beq_iff_eq]
    exact ⟨e1, e0, fun z => by rw [e4]; exact fun y => e3 ⟨z, y⟩⟩
