/-! GROWTH: new cells -/
def qnestC : List Cond := [(Jvm.Cond.methodLinkNest "StraightTax" (11 : Nat) ({ cls := "StraightTax$Text", name := "<init>", desc := "()V" } : Jvm.MethodName) "StraightTax"), (Jvm.Cond.methodLinkNest "StraightTax" (18 : Nat) ({ cls := "StraightTax$Walk", name := "<init>", desc := "()V" } : Jvm.MethodName) "StraightTax"), (Jvm.Cond.methodLinkNest "StraightTax" (33 : Nat) ({ cls := "StraightTax$Errands", name := "<init>", desc := "()V" } : Jvm.MethodName) "StraightTax"), (Jvm.Cond.methodLinkNest "StraightTax" (46 : Nat) ({ cls := "StraightTax$Ways", name := "<init>", desc := "()V" } : Jvm.MethodName) "StraightTax"), (Jvm.Cond.methodLinkNest "StraightTax" (65 : Nat) ({ cls := "StraightTax$Walker", name := "<init>", desc := "()V" } : Jvm.MethodName) "StraightTax"), (Jvm.Cond.methodLinkNest "StraightTax" (68 : Nat) ({ cls := "StraightTax$Drover", name := "<init>", desc := "()V" } : Jvm.MethodName) "StraightTax"), (Jvm.Cond.methodLinkNest "StraightTax$Drover" (1 : Nat) ({ cls := "StraightTax$Walker", name := "<init>", desc := "()V" } : Jvm.MethodName) "StraightTax"), (Jvm.Cond.methodLinkNest "StraightTax" (71 : Nat) ({ cls := "StraightTax$Courtier", name := "<init>", desc := "()V" } : Jvm.MethodName) "StraightTax"), (Jvm.Cond.methodLinkNest "StraightTax$Courtier" (1 : Nat) ({ cls := "StraightTax$Walker", name := "<init>", desc := "()V" } : Jvm.MethodName) "StraightTax"), (Jvm.Cond.methodLinkNest "StraightTax" (74 : Nat) ({ cls := "StraightTax$Dancer", name := "<init>", desc := "()V" } : Jvm.MethodName) "StraightTax"), (Jvm.Cond.methodLinkNest "StraightTax$Dancer" (1 : Nat) ({ cls := "StraightTax$Drover", name := "<init>", desc := "()V" } : Jvm.MethodName) "StraightTax"), (Jvm.Cond.methodLinkNest "StraightTax" (77 : Nat) ({ cls := "StraightTax$Lawyer", name := "<init>", desc := "()V" } : Jvm.MethodName) "StraightTax"), (Jvm.Cond.methodLinkNest "StraightTax$Lawyer" (1 : Nat) ({ cls := "StraightTax$Courtier", name := "<init>", desc := "()V" } : Jvm.MethodName) "StraightTax"), (Jvm.Cond.methodLinkNest "StraightTax" (80 : Nat) ({ cls := "StraightTax$Beggar", name := "<init>", desc := "()V" } : Jvm.MethodName) "StraightTax"), (Jvm.Cond.methodLinkNest "StraightTax$Beggar" (1 : Nat) ({ cls := "StraightTax$Walker", name := "<init>", desc := "()V" } : Jvm.MethodName) "StraightTax")]
def qcast : List Cond := [(Jvm.Cond.castable "StraightTax$Drover" "StraightTax$Walker"), (Jvm.Cond.castable "StraightTax$Courtier" "StraightTax$Walker"), (Jvm.Cond.castable "StraightTax$Dancer" "StraightTax$Walker"), (Jvm.Cond.castable "StraightTax$Lawyer" "StraightTax$Walker"), (Jvm.Cond.castable "StraightTax$Beggar" "StraightTax$Walker")]
def q_isC : Cond → Bool
  | .castable .. => true
  | _ => false
theorem qnestC_is : ∀ w ∈ qnestC, q_isN w = true := by decide +kernel
theorem qcast_is : ∀ w ∈ qcast, q_isC w = true := by decide +kernel
def q_Fy (U : State) : Prop := (∀ w ∈ qnestC, va_Nw w U) ∧ va_AO "StraightTax$Walk" U ∧ va_AO "StraightTax$Walker" U ∧ ∀ w ∈ qcast, va_Nw w U
theorem q_Fy.moved {s U : State} (h : q_Fy s) (hW : s.WarmedH U.vm) : q_Fy U := by
  obtain ⟨h1, h2, h3, h4⟩ := h
  refine ⟨fun w hw => ?_, va_AO.moved hW.alike h2, va_AO.moved hW.alike h3, fun w hw => ?_⟩
  · have hn := qnestC_is w hw
    have hz := h1 w hw
    cases w <;> first | exact va_Nw.warmF hW hz | exact va_Nw.warmM hW hz | cases hn
  · have hn := qcast_is w hw
    have hz := h4 w hw
    cases w <;> first | exact va_Nw.warmC hW hz | cases hn
theorem fm_congr {α β : Type} {f g : α → Option β} : ∀ {l : List α}, (∀ x ∈ l, f x = g x) → l.filterMap f = l.filterMap g
  | [], _ => rfl
  | a :: t, h => by
    rw [List.filterMap_cons, List.filterMap_cons, h a List.mem_cons_self, fm_congr (fun x hx => h x (List.mem_cons_of_mem _ hx))]
def okv (n : Nat) : Value → Bool
  | .ref a => decide (a < n)
  | _ => true
def okl (n : Nat) : Option Value → Bool
  | some v => okv n v
  | none => true
/-- memory knows no cell from n on -/
def Fr (n : Nat) (S : QS) : Prop := (∀ c k a, S.2.2 c k = some a → a < n) ∧ ∀ c, n ≤ c → ∀ k, S.1 c k = 0 ∧ S.2.1 c k = 0 ∧ S.2.2 c k = none
def axt (av : Nat → Value) (n q : Nat) : Nat → Value := fun c => if c = n then .ref q else av c
theorem axt_o {av : Nat → Value} {n q c : Nat} (h : c ≠ n) : axt av n q c = av c := if_neg h
theorem q_ad_o {av : Nat → Value} {n q c : Nat} (h : c ≠ n) : q_ad (axt av n q) c = q_ad av c := by
  unfold q_ad
  rw [axt_o h]
theorem q_ad_s {av : Nat → Value} {n q : Nat} : q_ad (axt av n q) n = q := by
  unfold q_ad axt
  rw [if_pos rfl]
theorem Fr.mono {n : Nat} {S : QS} (h : Fr n S) : Fr (n + 1) S := ⟨fun c k a ha => Nat.lt_succ_of_lt (h.1 c k a ha), fun c hc => h.2 c (by omega)⟩
theorem q_lf_x {av : Nat → Value} {n q : Nat} {v : Value} (h : okv n v = true) : q_lf (axt av n q) v = q_lf av v := by
  cases v with
  | ref a =>
    have h1 : a < n := of_decide_eq_true h
    show axt av n q a = av a
    exact if_neg (Nat.ne_of_lt h1)
  | _ => rfl
theorem q_rd_ok {n c k : Nat} {S : QS} {ty : FieldType} (hF : Fr n S) : okv n (q_rd (vv S) c k ty) = true := by
  have hr : okv n (q_rf (S.2.2 c k)) = true := by
    cases h : S.2.2 c k with
    | none => rfl
    | some a => exact decide_eq_true (hF.1 c k a h)
  unfold q_rd
  split
  · rfl
  · exact hr
  · exact hr
  · rfl
theorem q_fs_x {av : Nat → Value} {n q c ci N : Nat} {S : QS} (hF : Fr n S) : q_fs (axt av n q) (vv S) c ci N = q_fs av (vv S) c ci N := List.map_congr_left (fun k _ => q_lf_x (q_rd_ok hF))
theorem q_e_x {av : Nat → Value} {ca ca' : Nat → ClassId} {n q c : Nat} {x : Nat × Nat} {S : QS} (hF : Fr n S) (hca : ca' c = ca c) : q_e (axt av n q) ca' (vv S) c x = q_e av ca (vv S) c x := by
  have e1 : (fun k => ((vv S).2.2 c k).map (q_ad (axt av n q))) = fun k => ((vv S).2.2 c k).map (q_ad av) := by
    funext k
    show (S.2.2 c k).map (q_ad (axt av n q)) = (S.2.2 c k).map (q_ad av)
    cases h : S.2.2 c k with
    | none => rfl
    | some a =>
      have := hF.1 c k a h
      show some (q_ad (axt av n q) a) = some (q_ad av a)
      rw [q_ad_o (by omega)]
  unfold q_e
  rw [q_fs_x hF, hca, e1]
theorem getD_l {sh : QH} {x : Nat × Nat} {c : Nat} (h : c < sh.length) : (sh ++ [x]).getD c (0, 0) = sh.getD c (0, 0) := by
  rw [List.getD_eq_getElem?_getD, List.getD_eq_getElem?_getD, List.getElem?_append_left h]
theorem getD_r {sh : QH} {x : Nat × Nat} : (sh ++ [x]).getD sh.length (0, 0) = x := by
  rw [List.getD_eq_getElem?_getD, List.getElem?_append_right (Nat.le_refl _), Nat.sub_self]
  rfl
theorem q_ws_x {av : Nat → Value} {ca ca' : Nat → ClassId} {sh : QH} {q : Nat} {x : Nat × Nat} {S : QS} (hF : Fr sh.length S) (hca : ∀ c, c < sh.length → ca' c = ca c) : q_ws (axt av sh.length q) ca' (sh ++ [x]) (vv S) = q_ws av ca sh (vv S) ++ [(q, q_e (axt av sh.length q) ca' (vv S) sh.length x)] := by
  unfold q_ws
  rw [List.length_append, List.length_singleton, List.range_succ, List.map_append]
  congr 1
  · refine List.map_congr_left (fun c hc => ?_)
    have hc := List.mem_range.mp hc
    rw [getD_l hc, q_ad_o (by omega), q_e_x hF (hca c hc)]
  · show [(q_ad (axt av sh.length q) sh.length, q_e (axt av sh.length q) ca' (vv S) sh.length ((sh ++ [x]).getD sh.length (0, 0)))] = _
    rw [getD_r, q_ad_s]
theorem q_tys_x {ca ca' : Nat → ClassId} {sh : QH} {x : Nat × Nat} (hca : ∀ c, c < sh.length → ca' c = ca c) : q_tys ca' (sh ++ [x]) = q_tys ca sh ++ (if 100 ≤ x.1 then [(ca' sh.length, q_elt x.1)] else []) := by
  unfold q_tys
  rw [List.length_append, List.length_singleton, List.range_succ, List.filterMap_append]
  congr 1
  · refine fm_congr (fun c hc => ?_)
    have hc := List.mem_range.mp hc
    rw [getD_l hc, hca c hc]
  · rw [List.filterMap_cons, getD_r]
    by_cases h : 100 ≤ x.1
    · rw [if_pos h, if_pos h]
      rfl
    · rw [if_neg h, if_neg h]
      rfl
theorem q_LR_x {av : Nat → Value} {n q nL : Nat} {LS : Array Slot} {ls : QL} (h : q_LR av LS nL ls) (hls : ls.all (okl n) = true) : q_LR (axt av n q) LS nL ls := by
  have e : q_asc (axt av n q) ls = q_asc av ls := by
    unfold q_asc
    refine fm_congr (fun i _ => ?_)
    cases hv : q_at ls i with
    | none => rfl
    | some v =>
      have hm : some v ∈ ls := by
        unfold q_at at hv
        rw [List.getD_eq_getElem?_getD] at hv
        cases hg : ls[i]? with
        | none => rw [hg] at hv; cases hv
        | some w =>
          rw [hg] at hv
          have : w = some v := hv
          rw [← this]
          exact List.mem_of_getElem? hg
      have hok : okv n v = true := List.all_eq_true.mp hls _ hm
      show some (i, q_lf (axt av n q) v) = some (i, q_lf av v)
      rw [q_lf_x hok]
  refine ⟨h.1, ?_⟩
  rw [e]
  exact h.2
theorem q_AV_x {av : Nat → Value} {n q : Nat} (h : q_AV av) (hn : n < 1000) : q_AV (axt av n q) := by
  refine ⟨fun c hc => ?_, ?_⟩
  · by_cases y : c = n
    · exact ⟨q, by unfold axt; rw [if_pos y]⟩
    · rw [axt_o y]; exact h.1 c hc
  · rw [axt_o (by omega)]; exact h.2
/-- addresses agree below n and from 1000 on -/
def q_xt (n : Nat) (av av' : Nat → Value) : Prop := ∀ c, c < n ∨ 1000 ≤ c → av' c = av c
theorem q_xt.rf {n : Nat} {av : Nat → Value} : q_xt n av av := fun _ _ => rfl
theorem q_xt.up {n q : Nat} {av : Nat → Value} (h : n < 1000) : q_xt n av (axt av n q) := fun c hc => axt_o (by omega)
theorem q_xt.tr {n n2 : Nat} {av av1 av2 : Nat → Value} (h : q_xt n av av1) (h2 : q_xt n2 av1 av2) (hn : n ≤ n2) : q_xt n av av2 := fun c hc => (h2 c (by omega)).trans (h c hc)
theorem q_Fx.xt {A : Nat → Prop} {av av' : Nat → Value} {n : Nat} {U : State} (h : q_Fx A av U) (hx : q_xt n av av') : q_Fx A av' U := by
  have e : ∀ c, 1000 ≤ c → av' c = av c := fun c hc => hx c (Or.inr hc)
  have e2 : ∀ c, 1000 ≤ c → q_ad av' c = q_ad av c := fun c hc => by unfold q_ad; rw [e c hc]
  have e3 : (fun i => q_ad av' (1010 + i)) = fun i => q_ad av (1010 + i) := funext (fun i => e2 _ (by omega))
  have e4 : (fun i => q_ad av' (1020 + i)) = fun i => q_ad av (1020 + i) := funext (fun i => e2 _ (by omega))
  obtain ⟨h1, h2, h3, h4, h5, h6, h7, h8, h9⟩ := h
  refine ⟨h1, by rw [e 1000 (by omega)]; exact h2, by rw [e 1001 (by omega)]; exact h3, h4, by rw [e 1030 (by omega)]; exact h5, by rw [e2 1000 (by omega)]; exact h6, by rw [e2 1001 (by omega)]; exact h7, by rw [e3, e4]; exact h8, fun i hi => by rw [e2 _ (by omega)]; exact h9 i hi⟩
theorem q_wf_x {sh : QH} {x : Nat × Nat} (h : q_wf sh) (hn : sh.length < 1000) (hx : x.1 < 100 → ∃ q : vw_C, vwCl[x.1]? = some q ∧ q.2.2 = x.2) : q_wf (sh ++ [x]) := by
  refine ⟨by rw [List.length_append, List.length_singleton]; omega, fun c k z hc hk => ?_⟩
  by_cases y : c < sh.length
  · rw [List.getElem?_append_left y] at hc
    exact h.2 c k z hc hk
  · rw [List.getElem?_append_right (by omega)] at hc
    cases hz : c - sh.length with
    | zero =>
      rw [hz] at hc
      cases hc
      exact hx hk
    | succ n =>
      rw [hz] at hc
      cases hc
def q_dt : FieldType → Bool
  | .int => true
  | .boolean => true
  | .long => true
  | .object _ => true
  | .array _ => true
  | _ => false
theorem q_dtX : ∀ (ci : Nat) (q : vw_C), vwCl[ci]? = some q → ∀ k, k < q.2.2 → q_dt (q_tyf ci k) = true := by
  intro ci q h
  match ci, h with
  | 0, h => cases h; decide +kernel
  | 1, h => cases h; decide +kernel
  | 2, h => cases h; decide +kernel
  | 3, h => cases h; decide +kernel
  | 4, h => cases h; decide +kernel
  | 5, h => cases h; decide +kernel
  | 6, h => cases h; decide +kernel
  | 7, h => cases h; decide +kernel
  | 8, h => cases h; decide +kernel
  | 9, h => cases h; decide +kernel
  | 10, h => cases h; decide +kernel
  | 11, h => cases h; decide +kernel
  | 12, h => cases h; decide +kernel
  | n + 13, h => simp [vwCl] at h
section NG
variable {p : Program} {l : Launch} {e : Env} {R : Room} {s : State} {m : MethodId} {args : Array Value} {below : List Frame} {meth : Method} {c : Code} {Q : State → Prop} {A : Nat → Prop} {D : va_G} {o nL : Nat} {cc : ByteArray} {av av0 : Nat → Value} {ca : Nat → ClassId} {sh : QH} {ls : QL} {st : List Value} {S : QS} {pc cells slots n0 : Nat}
/-- the machine at a place of a constructor, its world in numbered cells -/
def NW (p : Program) (l : Launch) (e : Env) (R : Room) (s : State) (m : MethodId) (args : Array Value) (below : List Frame) (meth : Method) (c : Code) (Q : State → Prop) (A : Nat → Prop) (D : va_G) (nL n0 : Nat) (av0 av : Nat → Value) (ca : Nat → ClassId) (sh : QH) (ls : QL) (st : List Value) (S : QS) (pc cells slots : Nat) : Prop :=
  ∀ (H : Heap) (locs : List Loc) (LS : Array Slot), (n0 ≤ sh.length ∧ q_xt n0 av0 av) → q_AV av → q_wf sh → Fr sh.length S → q_Fx A av s → q_R A av ca D sh (vv S) s H → va_S A s.heap H locs → q_LR av LS nL ls → W p l e R s m args below meth c H locs cells slots Q (F0 m pc LS (st.map (q_lf av)))
def NC (p : Program) (R : Room) (s : State) (m : MethodId) (args : Array Value) (meth : Method) (c : Code) (A : Nat → Prop) (o : Nat) (cc : ByteArray) (nL : Nat) : Prop :=
  p.tables.exec = Jvm.exec ∧ c.code = cc ∧ c.maxLocals = nL ∧ s.vm.findClass (q_cn o) = some m.cls ∧ (∀ w ∈ q_tbl, w.before args s = true) ∧ (∀ q, s.heap.size ≤ q → A q) ∧ 1 ≤ R.frames ∧ 60 ≤ R.locals ∧ meth.name = "<init>" ∧ q_Fy s
theorem n_s (C : NC p R s m args meth c A o cc nL) {i : Instr} {len pc2 : Nat} {ls2 : QL} {st2 : List Value} (hdg : decode cc pc = .ok (i, len)) (h : q_s o i len pc ls st = some (pc2, ls2, st2)) (k : NW p l e R s m args below meth c Q A D nL n0 av0 av ca sh ls2 st2 S pc2 cells slots) : NW p l e R s m args below meth c Q A D nL n0 av0 av ca sh ls st S pc cells slots :=
  fun H locs LS hxt hav hwf hF hfx hR hS hL => q_simS hav C.1 C.2.1 C.2.2.2.1 C.2.2.2.2.1 hfx hdg hL h (fun LS' hL' => k H locs LS' hxt hav hwf hF hfx hR hS hL')
theorem n_m (C : NC p R s m args meth c A o cc nL) {i : Instr} {len pc2 : Nat} {st2 : List Value} {S2 : QS} (hdg : decode cc pc = .ok (i, len)) (h : q_m sh o i len pc st (vv S) = some (pc2, st2, vv S2)) (hF2 : Fr sh.length S → Fr sh.length S2) (k : NW p l e R s m args below meth c Q A D nL n0 av0 av ca sh ls st2 S2 pc2 cells slots) : NW p l e R s m args below meth c Q A D nL n0 av0 av ca sh ls st S pc cells slots :=
  fun H locs LS hxt hav hwf hF hfx hR hS hL => q_simM hav hwf C.1 C.2.1 C.2.2.2.1 C.2.2.2.2.1 hfx C.2.2.1 hdg hL hR hS C.2.2.2.2.2.2.1 C.2.2.2.2.2.2.2.1 h (fun H1 locs1 hR1 hS1 => k H1 locs1 LS hxt hav hwf (hF2 hF) hfx hR1 hS1 hL)
theorem Fr.upI {n c0 k : Nat} {v : Int} (h : Fr n S) (hc : c0 < n) : Fr n (q_up S.1 c0 k v, S.2) := ⟨h.1, fun c' hc' k' => ⟨(q_up_n (by omega)).trans (h.2 c' hc' k').1, (h.2 c' hc' k').2⟩⟩
theorem Fr.upL {n c0 k : Nat} {v : Int64} (h : Fr n S) (hc : c0 < n) : Fr n (S.1, q_up S.2.1 c0 k v, S.2.2) := ⟨h.1, fun c' hc' k' => ⟨(h.2 c' hc' k').1, (q_up_n (by omega)).trans (h.2 c' hc' k').2.1, (h.2 c' hc' k').2.2⟩⟩
theorem Fr.upR {n c0 k a : Nat} (h : Fr n S) (hc : c0 < n) (ha : a < n) : Fr n (S.1, S.2.1, q_up S.2.2 c0 k (some a)) := by
  refine ⟨fun c' k' a' h' => ?_, fun c' hc' k' => ⟨(h.2 c' hc' k').1, (h.2 c' hc' k').2.1, (q_up_n (by omega)).trans (h.2 c' hc' k').2.2⟩⟩
  by_cases y : c' = c0 ∧ k' = k
  · obtain ⟨rfl, rfl⟩ := y
    change q_up S.2.2 c' k' (some a) c' k' = some a' at h'
    rw [q_up_s] at h'
    cases h'
    exact ha
  · change q_up S.2.2 c0 k (some a) c' k' = some a' at h'
    rw [q_up_n y] at h'
    exact h.1 c' k' a' h'
theorem q_sh_lt {x : Nat × Nat} {c0 : Nat} (h : sh[c0]? = some x) : c0 < sh.length := (List.getElem?_eq_some_iff.mp h).1
theorem n_pfI (C : NC p R s m args meth c A o cc nL) {x c0 ci f ne n : Nat} {a : Int} (hdg : decode cc pc = .ok (.putfield x, 3)) (hf : q_lk qft o x = some (ci, f, ne)) (hs : sh[c0]? = some (ci, n)) (hk : q_nf ci f = true) (ht : q_tyf ci f = .int) (kk : NW p l e R s m args below meth c Q A D nL n0 av0 av ca sh ls st (q_up S.1 c0 f a, S.2) (pc + 3) cells slots) : NW p l e R s m args below meth c Q A D nL n0 av0 av ca sh ls (.int (J a) :: .ref c0 :: st) S pc cells slots := by
  refine n_m C hdg ?_ (fun h => h.upI (q_sh_lt hs)) kk
  simp only [q_m, hf, hs]
  rw [if_pos ⟨trivial, trivial, hk⟩, ht]
  simp only [q_wr, vv_uI]
theorem n_pfZ (C : NC p R s m args meth c A o cc nL) {x c0 ci f ne n : Nat} {a : Int} (hdg : decode cc pc = .ok (.putfield x, 3)) (hf : q_lk qft o x = some (ci, f, ne)) (hs : sh[c0]? = some (ci, n)) (hk : q_nf ci f = true) (ht : q_tyf ci f = .boolean) (ha : a = 0 ∨ a = 1) (kk : NW p l e R s m args below meth c Q A D nL n0 av0 av ca sh ls st (q_up S.1 c0 f a, S.2) (pc + 3) cells slots) : NW p l e R s m args below meth c Q A D nL n0 av0 av ca sh ls (.int (J a) :: .ref c0 :: st) S pc cells slots := by
  refine n_m C hdg ?_ (fun h => h.upI (q_sh_lt hs)) kk
  simp only [q_m, hf, hs]
  rw [if_pos ⟨trivial, trivial, hk⟩, ht]
  have h01 : J a = 0 ∨ J a = 1 := by rcases ha with rfl | rfl; exact Or.inl rfl; exact Or.inr rfl
  simp only [q_wr]
  rw [if_pos h01]
  simp only [vv_uI]
theorem n_pfL (C : NC p R s m args meth c A o cc nL) {x c0 ci f ne n : Nat} {a : Int64} (hdg : decode cc pc = .ok (.putfield x, 3)) (hf : q_lk qft o x = some (ci, f, ne)) (hs : sh[c0]? = some (ci, n)) (hk : q_nf ci f = true) (ht : q_tyf ci f = .long) (kk : NW p l e R s m args below meth c Q A D nL n0 av0 av ca sh ls st (S.1, q_up S.2.1 c0 f a, S.2.2) (pc + 3) cells slots) : NW p l e R s m args below meth c Q A D nL n0 av0 av ca sh ls (.long a :: .ref c0 :: st) S pc cells slots := by
  refine n_m C hdg ?_ (fun h => h.upL (q_sh_lt hs)) kk
  simp only [q_m, hf, hs]
  rw [if_pos ⟨trivial, trivial, hk⟩, ht]
  rfl
theorem n_pfR (C : NC p R s m args meth c A o cc nL) {x c0 ci f ne n a : Nat} {u : String} (hdg : decode cc pc = .ok (.putfield x, 3)) (hf : q_lk qft o x = some (ci, f, ne)) (hs : sh[c0]? = some (ci, n)) (hk : q_nf ci f = true) (ht : q_tyf ci f = .object u) (ha : a < sh.length) (h1000 : a < 1000) (kk : NW p l e R s m args below meth c Q A D nL n0 av0 av ca sh ls st (S.1, S.2.1, q_up S.2.2 c0 f (some a)) (pc + 3) cells slots) : NW p l e R s m args below meth c Q A D nL n0 av0 av ca sh ls (.ref a :: .ref c0 :: st) S pc cells slots := by
  refine n_m C hdg ?_ (fun h => h.upR (q_sh_lt hs) ha) kk
  simp only [q_m, hf, hs]
  rw [if_pos ⟨trivial, trivial, hk⟩, ht]
  simp only [q_wr]
  rw [if_pos h1000]
  rfl
theorem n_gfR (C : NC p R s m args meth c A o cc nL) {x c0 ci f ne n a : Nat} (hdg : decode cc pc = .ok (.getfield x, 3)) (hf : q_lk qft o x = some (ci, f, ne)) (hs : sh[c0]? = some (ci, n)) (h13 : ci ≠ 13) (hk : q_kf ci f = true) (ht : (∃ u, q_tyf ci f = .object u) ∨ ∃ u, q_tyf ci f = .array u) (hr : S.2.2 c0 f = some a) (kk : NW p l e R s m args below meth c Q A D nL n0 av0 av ca sh ls (.ref a :: st) S (pc + 3) cells slots) : NW p l e R s m args below meth c Q A D nL n0 av0 av ca sh ls (.ref c0 :: st) S pc cells slots := by
  refine n_m C hdg ?_ (fun h => h) kk
  simp only [q_m, hf, hs]
  rw [if_pos ⟨trivial, trivial, hk⟩]
  have e : (vv S).2.2 c0 f = some a := hr
  rcases ht with ⟨u, ht⟩ | ⟨u, ht⟩ <;> rw [ht] <;> simp only [q_rd, e] <;> rfl
theorem n_iast (C : NC p R s m args meth c A o cc nL) {c0 n : Nat} {i a : Int} (hdg : decode cc pc = .ok (.iastore, 1)) (hs : sh[c0]? = some (100, n)) (hn : (n : Int) < 2147483648) (h0 : 0 ≤ i) (h1 : i < n) (kk : NW p l e R s m args below meth c Q A D nL n0 av0 av ca sh ls st (q_up S.1 c0 i.toNat a, S.2) (pc + 1) cells slots) : NW p l e R s m args below meth c Q A D nL n0 av0 av ca sh ls (.int (J a) :: .int (J i) :: .ref c0 :: st) S pc cells slots := by
  refine n_m C hdg ?_ (fun h => h.upI (q_sh_lt hs)) kk
  obtain ⟨e1, e2⟩ := J_ix h0 h1 hn
  simp only [q_m, hs]
  rw [if_pos ⟨trivial, e1⟩, e2, vv_uI]
/-- Object's constructor -/
theorem n_obj (C : NC p R s m args meth c A o cc nL) {x c0 : Nat} (hdg : decode cc pc = .ok (.invokespecial x, 3)) (hlink : Cond.methodLink (q_cn o) x objectInit ∈ q_tbl) (hc0 : c0 ≠ 1030) (h8 : (st.map fun v => v.category).sum ≤ 8) (kk : NW p l e R s m args below meth c Q A D nL n0 av0 av ca sh ls st S (pc + 3) cells slots) : NW p l e R s m args below meth c Q A D nL n0 av0 av ca sh ls (.ref c0 :: st) S pc cells slots := by
  intro H locs LS hxt hav hwf hF hfx hR hS hL
  obtain ⟨hx, hb, hml, hown, hts, hA, hfr, hlo, hin, hfy⟩ := C
  have w1 : Cond.instanceMethod objectInit ∈ q_tbl := q_wi_in (by decide +kernel)
  have w2 : Cond.code objectInit ⟨#[0xb1]⟩ 1 none ∈ q_tbl := q_wi_in (by decide +kernel)
  have ez : q_lf av (.ref c0) = .ref (q_ad av c0) := hav.ad hc0
  rw [List.map_cons, ez]
  refine W.objInit hx hb hown (hts _ hlink) (hts _ w1) (hts _ w2) rfl (by rw [hml]; exact hL.2.1) rfl hdg hfr ?_ ?_
  · have h1 : (((st.map (q_lf av))).map fun v => v.category).sum ≤ 8 := by rw [hav.sum]; exact h8
    have h2 : 2 * (F0 m pc LS (Value.ref (q_ad av c0) :: st.map (q_lf av))).monitorRoom = 0 := rfl
    omega
  · exact kk H locs LS hxt hav hwf hF hfx hR hS hL
end NG
