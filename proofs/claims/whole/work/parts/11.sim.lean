/-! THE SMALL MACHINE IS TRUE TO THE MACHINE, 6: all of it -/
theorem q_at_rep {n i : Nat} {v : Value} (h : q_at (List.replicate n none) i = some v) : False := by
  unfold q_at at h
  rw [List.getD_eq_getElem?_getD, List.getElem?_replicate] at h
  split at h <;> cases h
theorem q_en_len : ∀ (as : List Value) (n : Nat), (q_en as n).length = n
  | [], n => by simp [q_en]
  | .int v :: t, 0 => by simp [q_en]
  | .int v :: t, n + 1 => by simp [q_en, q_en_len t n]
  | .ref v :: t, 0 => by simp [q_en]
  | .ref v :: t, n + 1 => by simp [q_en, q_en_len t n]
  | .long v :: t, 0 => by simp [q_en]
  | .long v :: t, 1 => by simp [q_en]
  | .long v :: t, n + 2 => by simp [q_en, q_en_len t n]
  | .null :: t, n => by simp [q_en]
  | .float _ :: t, n => by simp [q_en]
  | .double _ :: t, n => by simp [q_en]
  | .retAddr _ :: t, n => by simp [q_en]
theorem q_lv_args {av : Nat → Value} (hav : q_AV av) : ∀ (as : List Value) (n b i : Nat) (v : Value), q_at (q_en as n) i = some v → (b + i, q_lf av v) ∈ lv_args b (as.map (q_lf av))
  | [], n, b, i, v, h => by rw [q_en] at h; exact (q_at_rep h).elim
  | .int x :: t, 0, b, i, v, h => by cases i <;> cases h
  | .int x :: t, n + 1, b, 0, v, h => by cases h; exact List.mem_cons_self
  | .int x :: t, n + 1, b, i + 1, v, h => by
    have h1 := q_lv_args hav t n (b + 1) i v h
    rw [show b + 1 + i = b + (i + 1) by omega] at h1
    exact List.mem_cons.mpr (Or.inr h1)
  | .ref x :: t, 0, b, i, v, h => by cases i <;> cases h
  | .ref x :: t, n + 1, b, 0, v, h => by cases h; exact List.mem_cons_self
  | .ref x :: t, n + 1, b, i + 1, v, h => by
    have h1 := q_lv_args hav t n (b + 1) i v h
    rw [show b + 1 + i = b + (i + 1) by omega] at h1
    refine List.mem_cons.mpr (Or.inr ?_)
    rw [show (if (q_lf av (.ref x)).category = 2 then b + 2 else b + 1) = b + 1 from by rw [hav.cat]; rfl]
    exact h1
  | .long x :: t, 0, b, i, v, h => by cases i <;> cases h
  | .long x :: t, 1, b, i, v, h => by rw [show q_en (.long x :: t) 1 = List.replicate 1 none from rfl] at h; exact (q_at_rep h).elim
  | .long x :: t, n + 2, b, 0, v, h => by cases h; exact List.mem_cons_self
  | .long x :: t, n + 2, b, 1, v, h => by cases h
  | .long x :: t, n + 2, b, i + 2, v, h => by
    have h1 := q_lv_args hav t n (b + 2) i v h
    rw [show b + 2 + i = b + (i + 2) by omega] at h1
    exact List.mem_cons.mpr (Or.inr h1)
  | .null :: t, n, b, i, v, h => by rw [q_en] at h; exact (q_at_rep h).elim; all_goals simp
  | .float _ :: t, n, b, i, v, h => by rw [q_en] at h; exact (q_at_rep h).elim; all_goals simp
  | .double _ :: t, n, b, i, v, h => by rw [q_en] at h; exact (q_at_rep h).elim; all_goals simp
  | .retAddr _ :: t, n, b, i, v, h => by rw [q_en] at h; exact (q_at_rep h).elim; all_goals simp
theorem q_sl_len (as : List Value) : (lg_sl as).length = (as.map fun v => v.category).sum := by
  induction as with
  | nil => rfl
  | cons a t ih =>
    unfold lg_sl at ih ⊢
    rw [List.flatMap_cons, List.length_append, ih, List.map_cons, List.sum_cons]
    rcases lv_cat a with h | h
    · rw [h]; simp
    · rw [h]; simp
section QZ
variable {l : Launch} {av : Nat → Value} {A : Nat → Prop} {ca : Nat → ClassId} {D : va_G} {sh : QH}
/-- what is to be shown of a run of n steps -/
def q_Sim (l : Launch) (av : Nat → Value) (A : Nat → Prop) (ca : Nat → ClassId) (D : va_G) (sh : QH) (n : Nat) : Prop := ∀ (d j pc : Nat) (ls : QL) (st : List Value) (V : QV) (v : Option Value) (V2 : QV) (r : QRow), am sh n d j pc ls st V = some (v, V2) → qmt[j]? = some r → ∀ (p : Program) (e : Env) (R : Room) (s : State) (m : MethodId) (args : Array Value) (below : List Frame) (meth : Method) (c : Code) (H : Heap) (locs : List Loc) (LS : Array Slot), p.tables.exec = Jvm.exec → c.code = r.2.1 → c.maxLocals = r.2.2.1 → s.vm.findClass (q_cn r.1) = some m.cls → (∀ w ∈ q_tbl, w.before args s = true) → meth.sig.returnType = r.2.2.2.2.1 → meth.locks = false → q_Fx A av s → (∀ q, s.heap.size ≤ q → A q) → d + 1 ≤ R.frames → 60 * (d + 1) ≤ R.locals → q_R A av ca D sh V s H → va_S A s.heap H locs → q_LR av LS r.2.2.1 ls → W p l e R s m args below meth c H locs 0 0 (MQ below (q_Q A av ca D sh v V2) args s 0 0 A) (F0 m pc LS (st.map (q_lf av)))
/-- the contract of a method, out of a run of it -/
theorem q_met (hav : q_AV av) {n : Nat} (hsim : q_Sim l av A ca D sh n) {d j : Nat} {as : List Value} {V V2 : QV} {v : Option Value} {r : QRow} (ha : am sh n d j 0 (q_en as (q_ml j)) [] V = some (v, V2)) (hr : qmt[j]? = some r) (hfit : (as.map fun v => v.category).sum ≤ q_ml j) : Met l r.2.2.2.1 (q_wsj r) (q_rm d) (q_P A av ca D sh as V) (q_Q A av ca D sh v V2) 0 0 A := by
  obtain ⟨hy, -, -, hcn, -, -⟩ := q_okm_spec hr
  have hml : q_ml j = r.2.2.1 := by unfold q_ml; rw [hr]; rfl
  rw [hml] at hfit ha
  refine va_MetF (cc := r.2.1) (maxL := r.2.2.1) (ret := r.2.2.2.2.1) hy rfl ?_
  intro p e s m args below meth c s₁ B hml2 hv
  obtain ⟨rfl, hR, hF, hA⟩ := hv
  have hts := atoms_spec (ws := q_wsj r) B.pre
  have hl : q_LR av ((lg_sl (as.map (q_lf av)) ++ List.replicate (r.2.2.1 - (lg_sl (as.map (q_lf av))).length) Slot.unset).toArray) r.2.2.1 (q_en as r.2.2.1) := by
    have h1 := lv_entry (as.map (q_lf av)) (n := r.2.2.1) (by rw [q_sl_len, hav.sum]; exact hfit)
    refine ⟨q_en_len as r.2.2.1, h1.1, h1.2.1, fun q hq => h1.2.2 q ?_⟩
    obtain ⟨w, h2, h3⟩ := q_asc_mem.mp hq
    have h4 := q_lv_args hav as r.2.2.1 0 q.1 w h2
    rw [Nat.zero_add, ← h3] at h4
    exact h4
  rw [lg_entry_eq]
  refine hsim d j 0 (q_en as r.2.2.1) [] V v V2 r ha hr p e _ s m _ below meth c s.heap [] _ B.exec B.bytes hml2 ?_ (fun w hw => hts w (List.mem_cons_of_mem _ hw)) B.returns B.notSynchronized hF hA (Nat.le_refl _) (Nat.le_refl _) hR va_S.rf hl
  rw [← hcn]
  exact findClass_of_methodNamed B.named
end QZ
