/-! THE SMALL MACHINE IS TRUE TO THE MACHINE, 3: memory -/
def q_fs (av : Nat → Value) (V : QV) (c ci N : Nat) : List Value := (List.range N).map (fun k => q_lf av (q_rd V c k (q_tyf ci k)))
def q_elt (k : Nat) : FieldType := if k = 100 then .int else if k = 101 then .byte else if k = 102 then .boolean else if k = 103 then .object "StraightTax$Walk" else .object "StraightTax$Walker"
def q_e (av : Nat → Value) (ca : Nat → ClassId) (V : QV) (c : Nat) (s : Nat × Nat) : va_E :=
  if s.1 < 100 then .inr (s.1, q_fs av V c s.1 s.2)
  else if s.1 < 103 then .inl (ca c, s.2, .inl (V.1 c))
  else .inl (ca c, s.2, .inr (.inr (.inr (.inr (fun k => (V.2.2 c k).map (q_ad av))))))
def q_ws (av : Nat → Value) (ca : Nat → ClassId) (sh : QH) (V : QV) : va_W := (List.range sh.length).map (fun c => (q_ad av c, q_e av ca V c (sh.getD c (0, 0))))
def q_tys (ca : Nat → ClassId) (sh : QH) : List (ClassId × FieldType) := (List.range sh.length).filterMap (fun c => if 100 ≤ (sh.getD c (0, 0)).1 then some (ca c, q_elt (sh.getD c (0, 0)).1) else none)
def q_wf (sh : QH) : Prop := sh.length ≤ 1000 ∧ ∀ (c k z : Nat), sh[c]? = some (k, z) → k < 100 → ∃ q : vw_C, vwCl[k]? = some q ∧ q.2.2 = z
theorem q_getD {sh : QH} {c : Nat} {s : Nat × Nat} (h : sh[c]? = some s) : c < sh.length ∧ sh.getD c (0, 0) = s := by
  refine ⟨(List.getElem?_eq_some_iff.mp h).1, ?_⟩
  rw [List.getD_eq_getElem?_getD, h]; rfl
theorem q_ws_at {av : Nat → Value} {ca : Nat → ClassId} {sh : QH} {V : QV} {c : Nat} {s : Nat × Nat} (h : sh[c]? = some s) : (q_ws av ca sh V)[c]? = some (q_ad av c, q_e av ca V c s) := by
  obtain ⟨h1, h2⟩ := q_getD h
  unfold q_ws
  rw [List.getElem?_map, List.getElem?_range h1]
  show some (q_ad av c, q_e av ca V c (sh.getD c (0, 0))) = _
  rw [h2]
theorem q_tys_at {ca : Nat → ClassId} {sh : QH} {c k z : Nat} (h : sh[c]? = some (k, z)) (hk : 100 ≤ k) : ∃ t : Nat, (q_tys ca sh)[t]? = some (ca c, q_elt k) := by
  obtain ⟨h1, h2⟩ := q_getD h
  refine List.getElem?_of_mem (List.mem_filterMap.mpr ⟨c, List.mem_range.mpr h1, ?_⟩)
  rw [h2, if_pos hk]
theorem q_e_congr {av : Nat → Value} {ca : Nat → ClassId} {V V' : QV} {c : Nat} {s : Nat × Nat} (h1 : V.1 c = V'.1 c) (h2 : V.2.1 c = V'.2.1 c) (h3 : V.2.2 c = V'.2.2 c) : q_e av ca V c s = q_e av ca V' c s := by
  have e : ∀ k ty, q_rd V c k ty = q_rd V' c k ty := by
    intro k ty
    unfold q_rd
    rw [h1, h2, h3]
  unfold q_e q_fs
  simp only [e, h1, h3]
theorem q_ws_set {av : Nat → Value} {ca : Nat → ClassId} {sh : QH} {V V' : QV} {c : Nat} {s : Nat × Nat} (h : sh[c]? = some s) (hV : ∀ c', c' ≠ c → V.1 c' = V'.1 c' ∧ V.2.1 c' = V'.2.1 c' ∧ V.2.2 c' = V'.2.2 c') : (q_ws av ca sh V).set c (q_ad av c, q_e av ca V' c s) = q_ws av ca sh V' := by
  have hl : (q_ws av ca sh V).length = sh.length := by simp [q_ws]
  obtain ⟨h1, h2⟩ := q_getD h
  refine List.ext_getElem? (fun k => ?_)
  by_cases hk : k = c
  · subst hk
    rw [List.getElem?_set_self (by rw [hl]; exact h1), q_ws_at h]
  · rw [List.getElem?_set_ne (Ne.symm hk)]
    rcases Nat.lt_or_ge k sh.length with hlt | hge
    · have hs : sh[k]? = some sh[k] := List.getElem?_eq_getElem hlt
      rw [q_ws_at hs, q_ws_at hs]
      obtain ⟨a1, a2, a3⟩ := hV k hk
      rw [q_e_congr a1 a2 a3]
    · rw [List.getElem?_eq_none (by rw [hl]; exact hge), List.getElem?_eq_none (by simp [q_ws]; exact hge)]
def q_R (A : Nat → Prop) (av : Nat → Value) (ca : Nat → ClassId) (D : va_G) (sh : QH) (V : QV) (U : State) (H : Heap) : Prop := va_P D vwCl (q_ws av ca sh V) H ∧ va_D A (q_ws av ca sh V) ∧ va_K D vwCl (q_tys ca sh) U
theorem qtyX : ∀ (ci : Nat) (q : vw_C), vwCl[ci]? = some q → ∀ k, k < q.2.2 → parseFieldDescriptor (q.2.1 k).2.2.1 = some (q_tyf ci k) := by
  intro ci q h
  match ci, h with
  | 0, h => cases h; exact tyX0_ok
  | 1, h => cases h; exact tyX1_ok
  | 2, h => cases h; exact tyX2_ok
  | 3, h => cases h; exact tyX3_ok
  | 4, h => cases h; exact tyX4_ok
  | 5, h => cases h; exact tyX5_ok
  | 6, h => cases h; exact tyX6_ok
  | 7, h => cases h; exact tyX7_ok
  | 8, h => cases h; exact tyX8_ok
  | 9, h => cases h; exact tyX9_ok
  | 10, h => cases h; exact tyX10_ok
  | 11, h => cases h; exact tyX11_ok
  | 12, h => cases h; exact tyX12_ok
  | n + 13, h => simp [vwCl] at h
theorem qnmX : ∀ (ci : Nat) (q : vw_C), vwCl[ci]? = some q → ∀ a, a < q.2.2 → ∀ b, b < q.2.2 → a ≠ b → (q.2.1 a).2.1 ≠ (q.2.1 b).2.1 := by
  intro ci q h
  match ci, h with
  | 0, h => cases h; exact nmX0
  | 1, h => cases h; exact nmX1
  | 2, h => cases h; exact nmX2
  | 3, h => cases h; exact nmX3
  | 4, h => cases h; exact nmX4
  | 5, h => cases h; exact nmX5
  | 6, h => cases h; exact nmX6
  | 7, h => cases h; exact nmX7
  | 8, h => cases h; exact nmX8
  | 9, h => cases h; exact nmX9
  | 10, h => cases h; exact nmX10
  | 11, h => cases h; exact nmX11
  | 12, h => cases h; exact nmX12
  | n + 13, h => simp [vwCl] at h
/-- the link of a field, by its class's table -/
def q_okf (e : (Nat × Nat) × (Nat × Nat × Nat)) : Bool := match vwCl[e.2.1]? with
  | some q => if e.2.2.2 = 0 then q_wi (.fieldLink (q_cn e.1.1) e.1.2 (q.2.1 e.2.2.1).1 (q.2.1 e.2.2.1).2.1 (q.2.1 e.2.2.1).2.2.1) else decide (Cond.fieldLinkNest (q_cn e.1.1) e.1.2 (q.2.1 e.2.2.1).1 (q.2.1 e.2.2.1).2.1 (q.2.1 e.2.2.1).2.2.1 "StraightTax" ∈ qnest)
  | none => e.2.1 == 13 && e.1.1 == 13 && (if e.2.2.1 = 0 then q_wi (.fieldLink "java/lang/String" e.1.2 "java/lang/String" "value" "[B") else q_wi (.fieldLink "java/lang/String" e.1.2 "java/lang/String" "coder" "B"))
theorem qft_ok : ∀ e ∈ qft, q_okf e = true := by decide +kernel
theorem q_fld {o x ci k ne : Nat} {q : vw_C} (h : q_lk qft o x = some (ci, k, ne)) (hq : vwCl[ci]? = some q) : (ne = 0 ∧ Cond.fieldLink (q_cn o) x (q.2.1 k).1 (q.2.1 k).2.1 (q.2.1 k).2.2.1 ∈ q_tbl) ∨ (ne ≠ 0 ∧ Cond.fieldLinkNest (q_cn o) x (q.2.1 k).1 (q.2.1 k).2.1 (q.2.1 k).2.2.1 "StraightTax" ∈ qnest) := by
  have h1 := qft_ok _ (q_lk_mem h)
  unfold q_okf at h1
  dsimp only at h1
  rw [hq] at h1
  dsimp only at h1
  by_cases hn : ne = 0
  · rw [if_pos hn] at h1; exact Or.inl ⟨hn, q_wi_in h1⟩
  · rw [if_neg hn] at h1; exact Or.inr ⟨hn, of_decide_eq_true h1⟩
theorem q_fldS {o x k ne : Nat} (h : q_lk qft o x = some (13, k, ne)) : o = 13 ∧ (if k = 0 then Cond.fieldLink "java/lang/String" x "java/lang/String" "value" "[B" ∈ q_tbl else Cond.fieldLink "java/lang/String" x "java/lang/String" "coder" "B" ∈ q_tbl) := by
  have h1 := qft_ok _ (q_lk_mem h)
  unfold q_okf at h1
  have hn : vwCl[13]? = none := by decide +kernel
  dsimp only at h1
  rw [hn] at h1
  dsimp only at h1
  simp only [Bool.and_eq_true, beq_iff_eq] at h1
  refine ⟨h1.1.2, ?_⟩
  by_cases hk : k = 0
  · rw [if_pos hk] at h1 ⊢; exact q_wi_in h1.2
  · rw [if_neg hk] at h1 ⊢; exact q_wi_in h1.2
/-- statics -/
def q_okst (e : (Nat × Nat) × Value) : Bool := (e.1.1 == 7 && e.2 == .ref 1000 && q_wi (.fieldLink (q_cn 7) e.1.2 "StraightTax$Town" "RIGHT" "[I")) || (e.1.1 == 7 && e.2 == .ref 1001 && q_wi (.fieldLink (q_cn 7) e.1.2 "StraightTax$Town" "DOWN" "[I")) || (e.1.1 == 13 && e.2 == .int 1 && q_wi (.fieldLink (q_cn 13) e.1.2 "java/lang/String" "COMPACT_STRINGS" "Z")) || (e.1.1 == 13 && e.2 == .ref 1030 && q_wi (.fieldLink (q_cn 13) e.1.2 "jdk/internal/util/Preconditions" "SIOOBE_FORMATTER" "Ljava/util/function/BiFunction;"))
theorem qst_ok : ∀ e ∈ qst, q_okst e = true := by decide +kernel
theorem q_stat {A : Nat → Prop} {av : Nat → Value} {s : State} (hfx : q_Fx A av s) {o x : Nat} {v : Value} (h : q_lk qst o x = some v) : ∃ C n d, va_Z C n d (q_lf av v) A s s.heap ∧ Cond.fieldLink (q_cn o) x C n d ∈ q_tbl := by
  have h1 := qst_ok _ (q_lk_mem h)
  unfold q_okst at h1
  simp only [Bool.or_eq_true, Bool.and_eq_true, beq_iff_eq] at h1
  obtain ⟨-, z1, z2, z3, z4, -⟩ := hfx
  rcases h1 with ((h1 | h1) | h1) | h1
  · obtain ⟨⟨a1, a2⟩, a3⟩ := h1; subst a1; subst a2; exact ⟨_, _, _, z1, q_wi_in a3⟩
  · obtain ⟨⟨a1, a2⟩, a3⟩ := h1; subst a1; subst a2; exact ⟨_, _, _, z2, q_wi_in a3⟩
  · obtain ⟨⟨a1, a2⟩, a3⟩ := h1; subst a1; subst a2; exact ⟨_, _, _, z3, q_wi_in a3⟩
  · obtain ⟨⟨a1, a2⟩, a3⟩ := h1; subst a1; subst a2; exact ⟨_, _, _, z4, q_wi_in a3⟩
theorem q_fs_len {av : Nat → Value} {V : QV} {c ci N : Nat} : (q_fs av V c ci N).length = N := by simp [q_fs]
theorem q_fs_at {av : Nat → Value} {V : QV} {c ci N k : Nat} (h : k < N) : (q_fs av V c ci N)[k]? = some (q_lf av (q_rd V c k (q_tyf ci k))) := by
  unfold q_fs
  rw [List.getElem?_map, List.getElem?_range h]; rfl
theorem q_up_s {α : Type} {f : Nat → Nat → α} {c k : Nat} {v : α} : q_up f c k v c k = v := by simp [q_up]
theorem q_up_n {α : Type} {f : Nat → Nat → α} {c k c' k' : Nat} {v : α} (h : ¬ (c' = c ∧ k' = k)) : q_up f c k v c' k' = f c' k' := by simp only [q_up, if_neg h]
theorem q_up_c {α : Type} {f : Nat → Nat → α} {c k c' : Nat} {v : α} (h : c' ≠ c) : f c' = q_up f c k v c' := by
  funext k'
  rw [q_up_n (fun z => h z.1)]
/-- a field is written: what it is, and that the other fields and cells stay -/
theorem q_wr_spec {av : Nat → Value} (hav : q_AV av) {V V' : QV} {c ci k N : Nat} {v : Value} (h : q_wr V c k (q_tyf ci k) v = some V') (hk : k < N) : narrow (q_tyf ci k) (q_lf av v) = q_lf av v ∧ fits (q_tyf ci k) (q_lf av v) = true ∧ (∀ c', c' ≠ c → V.1 c' = V'.1 c' ∧ V.2.1 c' = V'.2.1 c' ∧ V.2.2 c' = V'.2.2 c') ∧ q_fs av V' c ci N = (q_fs av V c ci N).set k (q_lf av v) := by
  have key : ∀ V' : QV, (∀ k' ty, k' ≠ k → q_rd V' c k' ty = q_rd V c k' ty) → q_lf av (q_rd V' c k (q_tyf ci k)) = q_lf av v → q_fs av V' c ci N = (q_fs av V c ci N).set k (q_lf av v) := by
    intro V' e1 e2
    refine List.ext_getElem? (fun i => ?_)
    by_cases hi : i = k
    · subst hi
      rw [List.getElem?_set_self (by rw [q_fs_len]; exact hk), q_fs_at hk, e2]
    · rw [List.getElem?_set_ne (Ne.symm hi)]
      rcases Nat.lt_or_ge i N with hl | hl
      · rw [q_fs_at hl, q_fs_at hl, e1 i _ hi]
      · rw [List.getElem?_eq_none (by rw [q_fs_len]; exact hl), List.getElem?_eq_none (by rw [q_fs_len]; exact hl)]
  unfold q_wr at h
  split at h
  · split at h
    · rename_i hty _ x
      cases h
      rw [hty]
      refine ⟨rfl, rfl, fun c' hc => ⟨rfl, q_up_c hc, rfl⟩, key _ (fun k' ty hk' => ?_) ?_⟩
      · unfold q_rd q_uL; simp only [q_up_n (fun z : c = c ∧ k' = k => hk' z.2)]
      · rw [hty]; show Value.long (q_up V.2.1 c k x c k) = _; rw [q_up_s]; rfl
    · cases h
  · split at h
    · rename_i hty _ a
      split at h
      · rename_i ha
        cases h
        rw [hty]
        have e : q_lf av (.ref a) = .ref (q_ad av a) := hav.ad (fun z => absurd ha (by rw [z]; decide))
        rw [e]
        refine ⟨rfl, rfl, fun c' hc => ⟨rfl, rfl, q_up_c hc⟩, ?_⟩
        rw [← e]
        refine key _ (fun k' ty hk' => ?_) ?_
        · unfold q_rd q_uR; simp only [q_up_n (fun z : c = c ∧ k' = k => hk' z.2)]
        · rw [hty]; show q_lf av (q_rf (q_up V.2.2 c k (some a) c k)) = _; rw [q_up_s]; rfl
      · cases h
    · cases h
  · split at h
    · rename_i hty _ x
      cases h
      rw [hty]
      refine ⟨rfl, rfl, fun c' hc => ⟨q_up_c hc, rfl, rfl⟩, key _ (fun k' ty hk' => ?_) ?_⟩
      · unfold q_rd q_uI; simp only [q_up_n (fun z : c = c ∧ k' = k => hk' z.2)]
      · rw [hty]; show Value.int (q_up V.1 c k x c k) = _; rw [q_up_s]; rfl
    · cases h
  · split at h
    · rename_i hty _ x
      split at h
      · rename_i hb
        cases h
        rw [hty]
        refine ⟨?_, ?_, fun c' hc => ⟨q_up_c hc, rfl, rfl⟩, key _ (fun k' ty hk' => ?_) ?_⟩
        · rcases hb with rfl | rfl <;> rfl
        · rcases hb with rfl | rfl <;> rfl
        · unfold q_rd q_uI; simp only [q_up_n (fun z : c = c ∧ k' = k => hk' z.2)]
        · rw [hty]; show Value.int (q_up V.1 c k x c k) = _; rw [q_up_s]; rfl
      · cases h
    · cases h
  · cases h
theorem q_vin {x : Int32} {n : Nat} (h : 0 ≤ x.toInt ∧ x.toInt < n) : vp_in x n := vp_in_iff.mpr h
