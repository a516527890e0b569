/-! THE SMALL MACHINE IS TRUE TO THE MACHINE, 5: calls, and all of it -/
def q_Q (A : Nat → Prop) (av : Nat → Value) (ca : Nat → ClassId) (D : va_G) (sh : QH) (v : Option Value) (V : QV) : Array Value → State → Outcome → State → Prop := fun _ st oc t => oc = .returned (v.map (q_lf av)) ∧ q_R A av ca D sh V t t.heap ∧ va_F A st t
def q_P (A : Nat → Prop) (av : Nat → Value) (ca : Nat → ClassId) (D : va_G) (sh : QH) (as : List Value) (V : QV) : Array Value → State → Prop := fun a U => a = (as.map (q_lf av)).toArray ∧ q_R A av ca D sh V U U.heap ∧ q_Fx A av U ∧ ∀ q, U.heap.size ≤ q → A q
def q_rm (d : Nat) : Room := { frames := d + 1, cells := 0, slots := 0, locals := 60 * (d + 1) }
def q_wsj (r : QRow) : List Cond := Cond.code r.2.2.2.1 r.2.1 r.2.2.1 r.2.2.2.2.1 :: q_tbl
def q_isN : Cond → Bool
  | .fieldLinkNest .. => true
  | .methodLinkNest .. => true
  | _ => false
theorem qnest_is : ∀ w ∈ qnest, q_isN w = true := by decide +kernel
theorem q_Fx.moved {A : Nat → Prop} {av : Nat → Value} {s U : State} {locs : List Loc} (h : q_Fx A av s) (hS : va_S A s.heap U.heap locs) (hW : s.WarmedH U.vm) : q_Fx A av U := by
  obtain ⟨h1, h2, h3, h4, h5, h6, h7, h8, h9⟩ := h
  have hvm := hW.alike
  refine ⟨fun w hw => ?_, va_Z.moved hvm (h2.kept hS.2.1), va_Z.moved hvm (h3.kept hS.2.1), va_Z.moved hvm (h4.kept hS.2.1), va_Z.moved hvm (h5.kept hS.2.1), va_T.moved hvm (h6.kept hS.2.1), va_T.moved hvm (h7.kept hS.2.1), vk_S.moved hvm (h8.kept hS.2.1), fun i hi => vk_R.warm hW (h9 i hi)⟩
  have hn := qnest_is w hw
  have hz := h1 w hw
  cases w <;> first | exact va_Nw.warmF hW hz | exact va_Nw.warmM hW hz | cases hn
theorem q_R.moved {A : Nat → Prop} {av : Nat → Value} {ca : Nat → ClassId} {D : va_G} {sh : QH} {V : QV} {u U : State} {H : Heap} (hvm : u.vm.Alike U.vm) (h : q_R A av ca D sh V u H) : q_R A av ca D sh V U H := ⟨h.1, h.2.1, va_K.moved hvm h.2.2⟩
theorem q_P_blind {A : Nat → Prop} {av : Nat → Value} {ca : Nat → ClassId} {D : va_G} {sh : QH} {as : List Value} {V : QV} : FrameBlind (q_P A av ca D sh as V) := by
  intro a U g mk h
  obtain ⟨h1, h2, h3, h4⟩ := h
  exact ⟨h1, q_R.moved (u := U) (U := U.calling g mk a) (Vm.Alike.refl U.vm) h2, q_Fx.moved (U := U.calling g mk a) h3 (va_S.rf (A := A) (H0 := U.heap)) (State.WarmedH.refl U), h4⟩
def q_okm (r : QRow) : Bool := plainFor r.2.2.2.1 && decide (r.2.2.2.1.cls ≠ "java/lang/invoke/MethodHandle") && decide (r.2.2.2.1.cls ≠ "java/lang/invoke/VarHandle") && decide ((parseMethodDescriptor r.2.2.2.1.desc).map (fun d => d.parameters.length) = some r.2.2.2.2.2) && decide (r.2.2.2.1.cls = q_cn r.1) && decide (r.2.2.1 ≤ 30)
theorem qmt_okm : ∀ r ∈ qmt, q_okm r = true := by decide +kernel
theorem q_okm_spec {j : Nat} {r : QRow} (h : qmt[j]? = some r) : plainFor r.2.2.2.1 = true ∧ (r.2.2.2.1.cls ≠ "java/lang/invoke/MethodHandle" ∧ r.2.2.2.1.cls ≠ "java/lang/invoke/VarHandle") ∧ (∀ sig, parseMethodDescriptor r.2.2.2.1.desc = some sig → r.2.2.2.2.2 = sig.parameters.length) ∧ r.2.2.2.1.cls = q_cn r.1 ∧ r.2.2.1 ≤ 30 ∧ Cond.code r.2.2.2.1 r.2.1 r.2.2.1 r.2.2.2.2.1 ∈ q_tbl := by
  have hm := List.mem_of_getElem? h
  have h1 := qmt_okm r hm
  unfold q_okm at h1
  simp only [Bool.and_eq_true, decide_eq_true_eq] at h1
  obtain ⟨⟨⟨⟨⟨a1, a2⟩, a3⟩, a4⟩, a5⟩, a6⟩ := h1
  refine ⟨a1, ⟨a2, a3⟩, fun sig hs => ?_, a5, a6, List.mem_filter.mpr ⟨qmt_in r hm, rfl⟩⟩
  rw [hs] at a4
  exact (Option.some.inj a4).symm
theorem q_tbl_good : GoodIn q_tbl q_tbl := fun w hw => ⟨hw, good_of_word (List.mem_filter.mp hw).2⟩
theorem q_wsj_good {j : Nat} {r : QRow} (h : qmt[j]? = some r) : GoodIn q_tbl (q_wsj r) := by
  intro w hw
  rcases List.mem_cons.mp hw with rfl | hw
  · exact q_tbl_good _ (q_okm_spec h).2.2.2.2.2
  · exact q_tbl_good w hw
def q_wp (w : Cond) (i : Nat) : Bool := decide (lw_tbl[i]? = some w) && goodWord w
theorem q_wp_in {w : Cond} {i : Nat} (h : q_wp w i = true) : w ∈ q_tbl := by
  unfold q_wp at h
  rw [Bool.and_eq_true, decide_eq_true_iff] at h
  exact List.mem_filter.mpr ⟨List.mem_of_getElem? h.1, h.2⟩
def q_okc (e : (Nat × Nat) × (Nat × Nat)) (ps : List Nat) : Bool := match qmt[e.2.2]? with
  | none => false
  | some r => match e.2.1 with
    | 0 => q_wp (.methodLink (q_cn e.1.1) e.1.2 r.2.2.2.1) (ps.getD 0 0) && q_wp (.instanceMethod r.2.2.2.1) (ps.getD 1 0) && q_wp (.selects r.2.2.2.1.cls r.2.2.2.1 r.2.2.2.1) (ps.getD 2 0) && q_wp (.initialized r.2.2.2.1.cls) (ps.getD 3 0)
    | 1 => q_wp (.methodLink (q_cn e.1.1) e.1.2 r.2.2.2.1) (ps.getD 0 0) && q_wp (.static r.2.2.2.1) (ps.getD 1 0) && q_wp (.initialized r.2.2.2.1.cls) (ps.getD 2 0)
    | 2 => decide (Cond.methodLinkNest (q_cn e.1.1) e.1.2 r.2.2.2.1 "StraightTax" ∈ qnest) && q_wp (.static r.2.2.2.1) (ps.getD 1 0) && q_wp (.initialized r.2.2.2.1.cls) (ps.getD 2 0)
    | 3 => q_wp (.methodLink (q_cn e.1.1) e.1.2 r.2.2.2.1) (ps.getD 0 0) && q_wp (.sameMethod r.2.2.2.1.cls r.2.2.2.1.cls r.2.2.2.1.name r.2.2.2.1.desc) (ps.getD 1 0) && q_wp (.superclass (q_cn e.1.1) r.2.2.2.1.cls) (ps.getD 2 0) && q_wp (.instanceMethod r.2.2.2.1) (ps.getD 3 0) && q_wp (.initialized r.2.2.2.1.cls) (ps.getD 4 0) && decide (r.2.2.2.1.name ≠ "<init>")
    | 4 => q_wp (.methodLink (q_cn e.1.1) e.1.2 r.2.2.2.1) (ps.getD 0 0) && q_wp (.sameMethod r.2.2.2.1.cls r.2.2.2.1.cls r.2.2.2.1.name r.2.2.2.1.desc) (ps.getD 1 0) && q_wp (.instanceMethod r.2.2.2.1) (ps.getD 2 0) && qdt.all (fun f => match qmt[f.2]? with
      | none => false
      | some r2 => q_wi (.selects (q_cn f.1) r.2.2.2.1 r2.2.2.2.1) && q_wi (.instanceMethod r2.2.2.2.1) && q_wi (.initialized r2.2.2.2.1.cls) && decide (r2.2.2.2.2.2 = r.2.2.2.2.2) && decide (f.1 < 13))
    | _ => true
set_option maxRecDepth 100000 in
theorem qct_okz : (qct.zip qcp).all (fun z => q_okc z.1 z.2) = true := by decide +kernel
theorem qct_len : qct.length = qcp.length := by decide +kernel
theorem qct_ok {e : (Nat × Nat) × (Nat × Nat)} (h : e ∈ qct) : ∃ ps, q_okc e ps = true := by
  obtain ⟨i, hi⟩ := List.getElem?_of_mem h
  have hl := (List.getElem?_eq_some_iff.mp hi).1
  have hp : qcp[i]? = some (qcp[i]'(by rw [← qct_len]; exact hl)) := List.getElem?_eq_getElem _
  refine ⟨_, List.all_eq_true.mp qct_okz (e, qcp[i]'(by rw [← qct_len]; exact hl)) ?_⟩
  refine List.mem_of_getElem? (i := i) ?_
  rw [List.getElem?_zip_eq_some]
  exact ⟨hi, hp⟩
theorem q_cnX : ∀ (ci : Nat) (q : vw_C), vwCl[ci]? = some q → q.1 = q_cn ci := by
  intro ci q h
  match ci, h with
  | 0, h => cases h; rfl
  | 1, h => cases h; rfl
  | 2, h => cases h; rfl
  | 3, h => cases h; rfl
  | 4, h => cases h; rfl
  | 5, h => cases h; rfl
  | 6, h => cases h; rfl
  | 7, h => cases h; rfl
  | 8, h => cases h; rfl
  | 9, h => cases h; rfl
  | 10, h => cases h; rfl
  | 11, h => cases h; rfl
  | 12, h => cases h; rfl
  | n + 13, h => simp [vwCl] at h
section QC
variable {p : Program} {l : Launch} {e : Env} {R : Room} {s : State} {m : MethodId} {args : Array Value} {below : List Frame} {meth : Method} {c : Code} {H : Heap} {locs : List Loc} {Q : State → Prop}
variable {av : Nat → Value} {A : Nat → Prop} {cc : ByteArray} {nL : Nat} {ca : Nat → ClassId} {D : va_G} {sh : QH}
theorem q_back {pc : Nat} {LS : Array Slot} {st0 rest : List Value} {v : Option Value} {V : QV} {a : Array Value} (hr : va_Run p l e R s m args below meth c H locs 0 0 0 0 (F0 m pc LS st0) rest (q_Q A av ca D sh v V a) A) (hS : va_S A s.heap H locs)
    (kk : ∀ H1 locs1, q_R A av ca D sh V s H1 → va_S A s.heap H1 locs1 → W p l e R s m args below meth c H1 locs1 0 0 Q (F0 m (pc + 3) LS ((v.map (q_lf av)).toList ++ rest))) : W p l e R s m args below meth c H locs 0 0 Q (F0 m pc LS st0) := by
  intro T hT X
  obtain ⟨v', st₀, t, T', L, h0, X', hL, e1, e2, ⟨hv, hR, hz, hk⟩, st⟩ := hr T hT X
  cases hv
  rw [h0] at hz hk
  have hal : s.vm.Alike t.vm := by rw [← e2]; exact X'.warmed.alike
  obtain ⟨t2, a1, b1⟩ := kk T'.heap (locs ++ L) (by rw [e1]; exact q_R.moved hal.symm hR)
    ⟨Nat.le_trans hS.1 (by rw [e1]; exact hz), fun q h1 h2 => by rw [e1, hk q (Nat.lt_of_lt_of_le h1 hS.1) h2]; exact hS.2.1 q h1 h2, fun q hq => by
      rcases List.mem_append.mp hq with h | h
      · exact hS.2.2 q h
      · exact hL q h⟩ T' rfl X'
  exact ⟨t2, st t2 a1, b1⟩
/-- the cell that a call is made upon -/
theorem q_recv {V : QV} (hwf : q_wf sh) (hfx : q_Fx A av s) (hR : q_R A av ca D sh V s H) (hS : va_S A s.heap H locs) {z k : Nat} (h : q_cls sh z = some k) (hk : k < 19) : z ≠ 1030 ∧ (∃ cell : Cell, H[q_ad av z]? = some cell ∧ cell.vm.isStatics = false ∧ s.vm.findClass (q_cn k) = some cell.cls) ∧ (z < sh.length → ∃ cC, ClassAt s (q_cn k) cC) := by
  unfold q_cls at h
  split at h
  · rename_i k' n hs
    cases h
    have hz := (q_getD hs).1
    obtain ⟨q, hq, hN⟩ := hwf.2 z k n hs (by omega)
    have hat := q_ws_at (av := av) (ca := ca) (V := V) hs
    have he : q_e av ca V z (k, n) = .inr (k, q_fs av V z k n) := by unfold q_e; rw [if_pos (show k < 100 by omega)]
    rw [he] at hat
    have hc := va_recv hR.2.2 hR.1 hq hat
    rw [q_cnX k q hq] at hc
    refine ⟨by have := hwf.1; omega, hc, fun _ => ⟨D.1 k, ?_⟩⟩
    have h2 := (hR.2.2.1 k q hq).2
    rw [q_cnX k q hq] at h2
    exact h2
  · rename_i hn
    split at h
    · rename_i hz
      cases h
      obtain ⟨i, hi, rfl⟩ := q_sp hz
      refine ⟨q_n1 hi, ?_, fun h1 => ?_⟩
      · obtain ⟨-, -, -, -, -, -, -, t1, -⟩ := hfx
        have h3 := vk_recv (i := i) t1 hi hS
        exact h3
      · have := hwf.1; omega
    · cases h
end QC
