/-! THE LAW: its calls, over two worlds -/
theorem q_Fx.narrow {A B : Nat → Prop} {av : Nat → Value} {U : State} (h : q_Fx A av U) (hAB : ∀ q, B q → A q) : q_Fx B av U := by
  obtain ⟨h1, h2, h3, h4, h5, h6, h7, h8, h9⟩ := h
  exact ⟨h1, h2.narrow hAB, h3.narrow hAB, h4.narrow hAB, h5.narrow hAB, h6.narrow hAB, h7.narrow hAB, h8.narrow hAB, h9⟩
def S0 : QS := (fun _ _ => 0, fun _ _ => 0, tb [])
theorem Fr0 {n : Nat} : Fr n S0 := ⟨fun c k a h => (by cases h), fun c _ k => ⟨rfl, rfl, rfl⟩⟩
abbrev A0 (s : State) : Nat → Prop := fun q => s.heap.size ≤ q
theorem q_tbl_in {args : Array Value} {s : State} (hts : ∀ w ∈ lw_tbl, w.before args s = true) : ∀ w ∈ q_tbl, w.before args s = true := fun w hw => hts w (List.mem_filter.mp hw).1
theorem q_ad_in {A : Nat → Prop} {av : Nat → Value} {ca : Nat → ClassId} {D : va_G} {sh : QH} {V : QV} {U : State} {H : Heap} (h : q_R A av ca D sh V U H) {i : Nat} (hi : i < sh.length) : A (q_ad av i) ∧ q_ad av i < H.size := by
  have hs : sh[i]? = some sh[i] := List.getElem?_eq_getElem hi
  have h1 := q_ws_at (av := av) (ca := ca) (V := V) hs
  exact ⟨h.2.1.2 i _ h1, (h.1 i _ h1).lt⟩
theorem q_ws_add {av : Nat → Value} {ca : Nat → ClassId} {sh : QH} {V : QV} {k : Nat} {x : Nat × va_E} (h : (q_ws av ca sh V)[k]? = some x) : k < sh.length ∧ x.1 = q_ad av k := by
  have hl : (q_ws av ca sh V).length = sh.length := by simp [q_ws]
  have hk : k < sh.length := by rw [← hl]; exact (List.getElem?_eq_some_iff.mp h).1
  have hs : sh[k]? = some sh[k] := List.getElem?_eq_getElem hk
  rw [q_ws_at hs] at h
  cases h
  exact ⟨hk, rfl⟩
section LC
variable {p : Program} {l : Launch} {e : Env} {s : State} {m : MethodId} {below : List Frame} {meth : Method} {c : Code} {b L : Nat} {xs : Nat → Int32} {D : va_G} {Q : State → Prop} {pc cells slots : Nat} {ls : Array Slot} {st : List Value} {H : Heap} {locs : List Loc}
theorem lw_new (C0 : lw_At p s m meth c b L xs) {ws2 : va_W} {av : Nat → Value} {ca : Nat → ClassId} {x ci : Nat} {r : vw_C} (hav : q_AV av) (hfx : q_Fx (A0 s) av s) (hK : va_K D vwCl [] s) (hP : va_P D vwCl ws2 H) (hD : va_D (A0 s) ws2) (hS : va_S (A0 s) s.heap H locs) (hdg : decode code pc = .ok (.new x, 3)) (hq : vwCl[ci]? = some r) (hcl : Cond.classLink R_law x r.1 ∈ lw_tbl) (hinst : Cond.instantiable r.1 r.2.2 ∈ lw_tbl) (hini : Cond.initialized r.1 ∈ lw_tbl) (hce : cells + 1 ≤ room_1.cells) (hsl : slots + r.2.2 ≤ room_1.slots)
    (k : ∀ (q : Nat) (H1 : Heap) (av1 : Nat → Value), q_AV av1 → q_Fx (A0 s) av1 s → av1 0 = .ref q → q_R (A0 s) av1 ca D [(ci, r.2.2)] (vv S0) s H1 → va_P D vwCl ws2 H1 → (∀ (k : Nat) (x : Nat × va_E), ws2[k]? = some x → x.1 ≠ q) → va_S (A0 s) s.heap H1 locs → W p l e room_1 s m #[Value.ref b] below meth c H1 locs (cells + 1) (slots + r.2.2) Q (F0 m (pc + 3) ls (.ref q :: st))) : W p l e room_1 s m #[Value.ref b] below meth c H locs cells slots Q (F0 m pc ls st) := by
  obtain ⟨hx, hb, hr, hml, hown, hts, hX, hbl, hlocks, hgv⟩ := C0
  have hc100 : ci < 100 := by
    have h1 := (List.getElem?_eq_some_iff.mp hq).1
    have h2 : vwCl.length ≤ 100 := by decide
    omega
  have hinw : ∀ w ∈ u_ws r.1 r.2.1 r.2.2, w ∈ lw_tbl := fun w hw => (qinX ci r hq w hw).1
  refine va_new (C := r.1) (T := r.2.1) (N := r.2.2) (ci := ci) hx hb hts hinw (q_tyf ci) (qtyX ci r hq) hown (hts _ hcl) (hts _ hinst) (hts _ hini) hK hP hD hS (fun _ h => h) hq (fs := q_fs av (vv S0) 0 ci r.2.2) ?_ hce hsl hdg (fun q H1 hP1 hD1 hS1 => ?_)
  · intro j hj
    unfold vp_V
    rw [List.getD_eq_getElem?_getD, q_fs_at hj]
    exact q_dv (q_dtX ci r hq j hj) (Fr0 (n := 0))
  · have hw : q_ws (axt av 0 q) ca [(ci, r.2.2)] (vv S0) = [(q, .inr (ci, q_fs av (vv S0) 0 ci r.2.2))] := by
      have h1 := q_ws_x (av := av) (ca := ca) (ca' := ca) (sh := []) (q := q) (x := (ci, r.2.2)) (S := S0) Fr0 (fun _ _ => rfl)
      have h2 : q_e (axt av 0 q) ca (vv S0) 0 (ci, r.2.2) = .inr (ci, q_fs av (vv S0) 0 ci r.2.2) := by
        unfold q_e
        rw [if_pos hc100, q_fs_x Fr0]
      refine h1.trans ?_
      show q_ws av ca [] (vv S0) ++ [(q, q_e (axt av 0 q) ca (vv S0) 0 (ci, r.2.2))] = _
      rw [h2]
      rfl
    have ht : q_tys ca [(ci, r.2.2)] = [] := (q_tys_x (sh := []) (ca := ca) (ca' := ca) (x := (ci, r.2.2)) (fun _ _ => rfl)).trans (by rw [if_neg (by dsimp only; omega)]; rfl)
    have hlast : (ws2 ++ [(q, (Sum.inr (ci, q_fs av (vv S0) 0 ci r.2.2) : va_E))])[ws2.length]? = some (q, .inr (ci, q_fs av (vv S0) 0 ci r.2.2)) := by
      rw [List.getElem?_append_right (Nat.le_refl _), Nat.sub_self]
      rfl
    refine k q H1 (axt av 0 q) (q_AV_x hav (by omega)) (hfx.xt (q_xt.up (by omega))) (if_pos rfl) ⟨?_, ?_, by rw [ht]; exact hK⟩ ?_ ?_ hS1
    · rw [hw]
      intro j y hj
      cases j with
      | zero => cases hj; exact hP1 _ _ hlast
      | succ j => cases hj
    · rw [hw]
      refine ⟨fun i j a d hi hj _ => ?_, fun j y hj => ?_⟩
      · have := (List.getElem?_eq_some_iff.mp hi).1
        have := (List.getElem?_eq_some_iff.mp hj).1
        simp only [List.length_singleton] at *
        omega
      · cases j with
        | zero => cases hj; exact hD1.2 _ _ hlast
        | succ j => cases hj
    · intro j y hj
      exact hP1 j y (by rw [List.getElem?_append_left (List.getElem?_eq_some_iff.mp hj).1]; exact hj)
    · intro j y hj e
      have h1 := (List.getElem?_eq_some_iff.mp hj).1
      have h2 := hD1.1 j ws2.length y _ (by rw [List.getElem?_append_left h1]; exact hj) hlast e
      omega
theorem lw_init (C0 : lw_At p s m meth c b L xs) (hfy : q_Fy s) {ws2 : va_W} {av : Nat → Value} {ca : Nat → ClassId} {x ci n d mc ms maxL q : Nat} {y : MethodName} {bytes : ByteArray} {S S2 : QS} {sh2 : QH} (hav : q_AV av) (hfx : q_Fx (A0 s) av s) (hq : av 0 = .ref q) (hF : Fr 1 S) (hwf : q_wf [(ci, n)]) (hR : q_R (A0 s) av ca D [(ci, n)] (vv S) s H) (hP2 : va_P D vwCl ws2 H) (hne : ∀ (k : Nat) (x : Nat × va_E), ws2[k]? = some x → x.1 ≠ q) (hS : va_S (A0 s) s.heap H locs) (hM : CM y bytes maxL d mc ms [(ci, n)] [.ref 0] S sh2 S2) (hdg : decode code pc = .ok (.invokespecial x, 3)) (hlk : Cond.methodLink R_law x y ∈ lw_tbl) (hcode : Cond.code y bytes maxL none ∈ q_tbl) (hini : Cond.initialized y.cls ∈ q_tbl) (hinst : Cond.instanceMethod y ∈ q_tbl) (hname : y.name = "<init>") (hcls : y.cls ≠ "java/lang/invoke/MethodHandle" ∧ y.cls ≠ "java/lang/invoke/VarHandle") (hnp : (parseMethodDescriptor y.desc).map (fun d => d.parameters.length) = some 0) (hd : d ≤ 1000) (hmax : maxL ≤ 30) (h8 : (st.map fun v => v.category).sum ≤ 8) (hce : cells + mc ≤ room_1.cells) (hsl : slots + ms ≤ room_1.slots) (hls : ls.size = 4)
    (k : ∀ (H1 : Heap) (locs1 : List Loc) (av1 : Nat → Value) (ca1 : Nat → ClassId), q_AV av1 → q_Fx (A0 s) av1 s → av1 0 = .ref q → Fr sh2.length S2 → q_R (A0 s) av1 ca1 D sh2 (vv S2) s H1 → va_P D vwCl ws2 H1 → (∀ (k : Nat) (x : Nat × va_E), ws2[k]? = some x → ∀ i, i < sh2.length → q_ad av1 i ≠ x.1) → va_S (A0 s) s.heap H1 locs1 → W p l e room_1 s m #[Value.ref b] below meth c H1 locs1 (cells + mc) (slots + ms) Q (F0 m (pc + 3) ls st)) : W p l e room_1 s m #[Value.ref b] below meth c H locs cells slots Q (F0 m pc ls (.ref q :: st)) := by
  obtain ⟨hx, hb, hr, hml, hown, hts0, hX, hbl, hlocks, hgv⟩ := C0
  have hts := q_tbl_in hts0
  have hq0 : q_ad av 0 = q := by unfold q_ad; rw [hq]
  obtain ⟨A1, eA⟩ : ∃ A1 : Nat → Prop, A1 = fun a => a = q ∨ H.size ≤ a := ⟨_, rfl⟩
  have hqA := q_ad_in hR (i := 0) (by show 0 < 1; omega)
  rw [hq0] at hqA
  have hsub : ∀ a, A1 a → A0 s a := by
    intro a ha
    rw [eA] at ha
    rcases ha with rfl | h
    · exact hqA.1
    · exact Nat.le_trans hS.1 h
  have hR1 : q_R A1 av ca D [(ci, n)] (vv S) s H := by
    refine ⟨hR.1, ⟨hR.2.1.1, fun k x hk => ?_⟩, hR.2.2⟩
    obtain ⟨h1, h2⟩ := q_ws_add hk
    have h3 : k = 0 := by
      have : k < 1 := h1
      omega
    subst h3
    rw [h2, hq0, eA]
    exact Or.inl rfl
  have hM2 := hM l A1 av ca D hav hwf hF
  have hG : GoodIn q_tbl (Cond.code y bytes maxL none :: q_tbl) := by
    intro w hw
    rcases List.mem_cons.mp hw with rfl | hw
    · exact q_tbl_good _ hcode
    · exact q_tbl_good w hw
  have hnp2 : ∀ sig, parseMethodDescriptor y.desc = some sig → 0 = sig.parameters.length := by
    intro sig hs
    rw [hs] at hnp
    exact (Option.some.inj hnp).symm
  have hpre : PreS s H (q_Pn A1 av ca D [(ci, n)] [.ref 0] S) [.ref q] := by
    refine ⟨q_Pn_blind, fun U hU hW => ⟨⟨?_, by rw [hU]; exact q_R.moved hW.alike hR1, (hfx.moved (locs := locs) (by rw [hU]; exact hS) hW).narrow hsub, fun a ha => ?_⟩, hfy.moved hW⟩⟩
    · show [Value.ref q].toArray = [av 0].toArray
      rw [hq]
    · rw [eA]
      rw [hU] at ha
      exact Or.inr ha
  have hfr2 : d + 1 + 1 ≤ room_1.frames := by show d + 1 + 1 ≤ 2048; omega
  have hroom : 8 + (maxL + 11) + (rmN d mc ms).locals ≤ room_1.locals := by
    show 8 + (maxL + 11) + 60 * (d + 1) ≤ 84000
    omega
  have hrr : va_Run p l e room_1 s m #[Value.ref b] below meth c H locs cells slots mc ms (F0 m pc ls (.ref q :: st)) st (q_Qn A1 av D 1 sh2 S2 [Value.ref q].toArray) A1 :=
    va_runI (As := []) (n := 0) ⟨hx, hb, hml, hown, hts⟩ hM2 ⟨⟨rfl, rfl, hfr2, hroom, pay_in hts hG, List.mem_cons_self, hts _ hcode, hts _ hini, hcls, hnp2, hts0 _ hlk⟩, hname, hts _ hinst⟩ hpre rfl rfl hls rfl (lv_room h8) hdg ⟨hce, hsl⟩
  intro T hT X
  obtain ⟨v', st₀, t, T', L', h0, X', hLo, e1, e2, ⟨hv, ⟨av', ca', hx2, hav', hwf', hF', hle, hR'⟩, hz, hk⟩, stp⟩ := hrr T hT X
  cases hv
  rw [h0] at hz hk
  have hal : s.vm.Alike t.vm := by rw [← e2]; exact X'.warmed.alike
  have hnA : ∀ (k : Nat) (x : Nat × va_E), ws2[k]? = some x → ¬ A1 x.1 := by
    intro k x hk h
    rw [eA] at h
    rcases h with h | h
    · exact hne k x hk h
    · have := (hP2 k x hk).lt
      omega
  have hkk := k T'.heap (locs ++ L') av' ca' hav' (hfx.xt hx2) (by rw [hx2 0 (Or.inl (by omega)), hq]) hF' (by rw [e1]; exact q_R.moved hal.symm ⟨hR'.1, hR'.2.1.weaken (fun _ _ _ h => hsub _ h), hR'.2.2⟩) (hP2.kept (fun k x h => by rw [e1]; exact hk x.1 (hP2 k x h).lt (hnA k x h))) (fun k x h i hi e => hnA k x h (by rw [← e]; exact (q_ad_in hR' hi).1))
    ⟨Nat.le_trans hS.1 (by rw [e1]; exact hz), fun a h1 h2 => by rw [e1, hk a (Nat.lt_of_lt_of_le h1 hS.1) (fun h => h2 (hsub a h))]; exact hS.2.1 a h1 h2, fun a ha => by
      rcases List.mem_append.mp ha with h | h
      · exact hS.2.2 a h
      · exact hsub _ (hLo a h)⟩
  obtain ⟨t2, a1, b1⟩ := hkk T' rfl X'
  exact ⟨t2, stp t2 a1, b1⟩
/-- a call on one of two objects -/
theorem lw_call (C0 : lw_At p s m meth c b L xs) {sh1 sh2 : QH} {av1 av2 : Nat → Value} {ca1 ca2 : Nat → ClassId} {S1 S2 : QS} {x j ci n : Nat} {r : QRow} {as : List Value} {v : Value} {P : QS → Prop} (hav : q_AV av1) (hwf : q_wf sh1) (hfx : q_Fx (A0 s) av1 s) (hR1 : q_R (A0 s) av1 ca1 D sh1 (vv S1) s H) (hR2 : q_R (A0 s) av2 ca2 D sh2 (vv S2) s H) (hne : ∀ i k, i < sh1.length → k < sh2.length → q_ad av1 i ≠ q_ad av2 k) (hS : va_S (A0 s) s.heap H locs) (hdg : decode code pc = .ok (.invokevirtual x, 3)) (hj : qmt[j]? = some r) (hcl : sh1[0]? = some (ci, n)) (hr1 : r.1 = ci) (hci : ci < 13) (w1 : Cond.methodLink R_law x r.2.2.2.1 ∈ q_tbl) (w2 : Cond.instanceMethod r.2.2.2.1 ∈ q_tbl) (w3 : Cond.selects r.2.2.2.1.cls r.2.2.2.1 r.2.2.2.1 ∈ q_tbl) (w4 : Cond.initialized r.2.2.2.1.cls ∈ q_tbl) (hk : KC sh1 21 j (.ref 0 :: as) S1 (fun u S' => u = some v ∧ P S')) (has : as.map (q_lf av1) = as) (hnp : as.length = r.2.2.2.2.2) (hv : q_lf av1 v = v) (h8 : (st.map fun v => v.category).sum ≤ 8) (hcs : cells ≤ room_1.cells ∧ slots ≤ room_1.slots) (hls : ls.size = 4)
    (k : ∀ (H1 : Heap) (locs1 : List Loc) (S' : QS), P S' → q_R (A0 s) av1 ca1 D sh1 (vv S') s H1 → q_R (A0 s) av2 ca2 D sh2 (vv S2) s H1 → va_S (A0 s) s.heap H1 locs1 → W p l e room_1 s m #[Value.ref b] below meth c H1 locs1 cells slots Q (F0 m (pc + 3) ls (v :: st))) : W p l e room_1 s m #[Value.ref b] below meth c H locs cells slots Q (F0 m pc ls (as.reverse ++ .ref (q_ad av1 0) :: st)) := by
  obtain ⟨hx, hb, hr, hml, hown, hts0, hX, hbl, hlocks, hgv⟩ := C0
  have hts := q_tbl_in hts0
  have hl0 := q_sh_lt hcl
  obtain ⟨A1, eA⟩ : ∃ A1 : Nat → Prop, A1 = fun a => (∃ i, i < sh1.length ∧ q_ad av1 i = a) ∨ H.size ≤ a := ⟨_, rfl⟩
  have hsub : ∀ a, A1 a → A0 s a := by
    intro a ha
    rw [eA] at ha
    rcases ha with ⟨i, hi, rfl⟩ | h
    · exact (q_ad_in hR1 hi).1
    · exact Nat.le_trans hS.1 h
  have hR3 : q_R A1 av1 ca1 D sh1 (vv S1) s H := by
    refine ⟨hR1.1, ⟨hR1.2.1.1, fun k x hk => ?_⟩, hR1.2.2⟩
    obtain ⟨h1, h2⟩ := q_ws_add hk
    rw [h2, eA]
    exact Or.inl ⟨k, h1, rfl⟩
  obtain ⟨hfit, hg⟩ := hk
  obtain ⟨v1, V1, ⟨S', hV, hv1, hPS⟩, hM⟩ := q_contract (l := l) (A := A1) (ca := ca1) (D := D) hav hwf hj hfit hg
  subst hv1
  subst hV
  obtain ⟨b0, b1, b2, b3, b4, b5⟩ := q_okm_spec hj
  have hfx1 : q_Fx A1 av1 s := hfx.narrow hsub
  obtain ⟨hz, hrc, -⟩ := q_recv hwf hfx hR1 hS (q_cls_of hcl) (by omega)
  have hG := q_wsj_good hj
  have ez : av1 0 = .ref (q_ad av1 0) := hav.ad hz
  have hfr2 : 21 + 1 + 1 ≤ room_1.frames := by show 21 + 1 + 1 ≤ 2048; omega
  have hroom : 8 + (r.2.2.1 + 11) + (q_rm 21).locals ≤ room_1.locals := by
    show 8 + (r.2.2.1 + 11) + 60 * (21 + 1) ≤ 84000
    omega
  have hrc2 : ∃ cellB : Cell, H[q_ad av1 0]? = some cellB ∧ cellB.vm.isStatics = false ∧ s.vm.findClass r.2.2.2.1.cls = some cellB.cls := by
    rw [b3, hr1]; exact hrc
  have hpre : ∀ U : State, U.heap = H → s.WarmedH U.vm → q_P A1 av1 ca1 D sh1 (.ref 0 :: as) (vv S1) (Value.ref (q_ad av1 0) :: as).toArray U := by
    intro U hU hW
    refine ⟨?_, by rw [hU]; exact q_R.moved hW.alike hR3, (hfx.moved (locs := locs) (by rw [hU]; exact hS) hW).narrow hsub, fun a ha => ?_⟩
    · rw [List.map_cons, has, show q_lf av1 (.ref 0) = .ref (q_ad av1 0) from ez]
    · rw [eA]
      rw [hU] at ha
      exact Or.inr ha
  have hrr : va_Run p l e room_1 s m #[Value.ref b] below meth c H locs cells slots 0 0 (F0 m pc ls (as.reverse ++ .ref (q_ad av1 0) :: st)) st (q_Q A1 av1 ca1 D sh1 (some v) (vv S') (Value.ref (q_ad av1 0) :: as).toArray) A1 :=
    va_runV (As := as) (n := r.2.2.2.2.2) ⟨hx, hb, hml, hown, hts⟩ hM ⟨⟨rfl, rfl, hfr2, hroom, pay_in hts hG, List.mem_cons_self, hts _ b5, hts _ w4, b1, fun sig h => b2 sig h, hts _ w1⟩, hts _ w2, hts _ w3⟩ ⟨q_P_blind, hrc2, hpre⟩ rfl hnp hls rfl (lv_room h8) hdg hcs
  intro T hT X
  obtain ⟨v', st₀, t, T', L', h0, X', hLo, e1, e2, ⟨hv2, hR', hz2, hk2⟩, stp⟩ := hrr T hT X
  have hv3 : v' = some v := by
    cases hv2
    show some (q_lf av1 v) = some v
    rw [hv]
  subst hv3
  rw [h0] at hz2 hk2
  have hal : s.vm.Alike t.vm := by rw [← e2]; exact X'.warmed.alike
  have hnA : ∀ (k : Nat) (x : Nat × va_E), (q_ws av2 ca2 sh2 (vv S2))[k]? = some x → ¬ A1 x.1 := by
    intro k x hk h
    rw [eA] at h
    obtain ⟨k1, k2⟩ := q_ws_add hk
    rcases h with ⟨i, hi, h⟩ | h
    · exact hne i k hi k1 (h.trans k2)
    · have := (hR2.1 k x hk).lt
      omega
  have hkk := k T'.heap (locs ++ L') S' hPS (by rw [e1]; exact q_R.moved hal.symm ⟨hR'.1, hR'.2.1.weaken (fun _ _ _ h => hsub _ h), hR'.2.2⟩) ⟨hR2.1.kept (fun k x h => by rw [e1]; exact hk2 x.1 (hR2.1 k x h).lt (hnA k x h)), hR2.2⟩
    ⟨Nat.le_trans hS.1 (by rw [e1]; exact hz2), fun a h1 h2 => by rw [e1, hk2 a (Nat.lt_of_lt_of_le h1 hS.1) (fun h => h2 (hsub a h))]; exact hS.2.1 a h1 h2, fun a ha => by
      rcases List.mem_append.mp ha with h | h
      · exact hS.2.2 a h
      · exact hsub _ (hLo a h)⟩
  obtain ⟨t2, a1, b1⟩ := hkk T' rfl X'
  exact ⟨t2, stp t2 a1, b1⟩
end LC
