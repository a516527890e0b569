/-! GROWTH, 3: constructors' contracts -/
def rmN (d mc ms : Nat) : Room := { frames := d + 1, cells := mc, slots := ms, locals := 60 * (d + 1) }
def q_Pn (A : Nat → Prop) (av : Nat → Value) (ca : Nat → ClassId) (D : va_G) (sh : QH) (as : List Value) (S : QS) : Array Value → State → Prop := fun a U => q_P A av ca D sh as (vv S) a U ∧ q_Fy U
def q_Qn (A : Nat → Prop) (av : Nat → Value) (D : va_G) (n : Nat) (sh2 : QH) (S2 : QS) : Array Value → State → Outcome → State → Prop := fun _ st oc t => oc = .returned none ∧ (∃ av' ca', q_xt n av av' ∧ q_AV av' ∧ q_wf sh2 ∧ Fr sh2.length S2 ∧ n ≤ sh2.length ∧ q_R A av' ca' D sh2 (vv S2) t t.heap) ∧ va_F A st t
def CM (y : MethodName) (bytes : ByteArray) (maxL d mc ms : Nat) (sh : QH) (as : List Value) (S : QS) (sh2 : QH) (S2 : QS) : Prop := ∀ (l : Launch) (A : Nat → Prop) (av : Nat → Value) (ca : Nat → ClassId) (D : va_G), q_AV av → q_wf sh → Fr sh.length S → Met l y (Cond.code y bytes maxL none :: q_tbl) (rmN d mc ms) (q_Pn A av ca D sh as S) (q_Qn A av D sh.length sh2 S2) mc ms A
theorem q_Pn_blind {A : Nat → Prop} {av : Nat → Value} {ca : Nat → ClassId} {D : va_G} {sh : QH} {as : List Value} {S : QS} : FrameBlind (q_Pn A av ca D sh as S) := by
  intro a U g mk h
  exact ⟨q_P_blind a U g mk h.1, h.2.moved (U := U.calling g mk a) (State.WarmedH.refl U)⟩
theorem map_xt {av av' : Nat → Value} {n : Nat} {st : List Value} (hx : q_xt n av av') (h : st.all (okv n) = true) : st.map (q_lf av') = st.map (q_lf av) := by
  refine List.map_congr_left (fun v hv => ?_)
  have h1 := List.all_eq_true.mp h v hv
  cases v with
  | ref a =>
    have h2 : a < n := of_decide_eq_true h1
    exact hx a (Or.inl h2)
  | _ => rfl
theorem q_LR_xt {av av' : Nat → Value} {n nL : Nat} {LS : Array Slot} {ls : QL} (h : q_LR av LS nL ls) (hx : q_xt n av av') (hls : ls.all (okl n) = true) : q_LR av' LS nL ls := by
  have e : q_asc av' ls = q_asc av ls := by
    unfold q_asc
    refine fm_congr (fun i _ => ?_)
    cases hv : q_at ls i with
    | none => rfl
    | some v =>
      have hm : some v ∈ ls := by
        unfold q_at at hv
        rw [List.getD_eq_getElem?_getD] at hv
        cases hg : ls[i]? with
        | none => rw [hg] at hv; cases hv
        | some w =>
          rw [hg] at hv
          have : w = some v := hv
          rw [← this]
          exact List.mem_of_getElem? hg
      have hok : okv n v = true := List.all_eq_true.mp hls _ hm
      show some (i, q_lf av' v) = some (i, q_lf av v)
      cases v with
      | ref a =>
        have h2 : a < n := of_decide_eq_true hok
        have h3 : q_lf av' (.ref a) = q_lf av (.ref a) := hx a (Or.inl h2)
        rw [h3]
      | _ => rfl
  refine ⟨h.1, ?_⟩
  rw [e]
  exact h.2
theorem cm_start {y : MethodName} {bytes : ByteArray} {maxL o d mc ms : Nat} {sh : QH} {as : List Value} {S : QS} {sh2 : QH} {S2 : QS} (hy : plainFor y = true) (hcn : y.cls = q_cn o) (hname : y.name = "<init>") (hfit : (as.map fun v => v.category).sum ≤ maxL)
    (h : ∀ (p : Program) (l : Launch) (e : Env) (s : State) (m : MethodId) (args : Array Value) (below : List Frame) (meth : Method) (c : Code) (A : Nat → Prop) (av : Nat → Value) (ca : Nat → ClassId) (D : va_G), NC p (rmN d mc ms) s m args meth c A o bytes maxL → meth.sig.returnType = none → meth.locks = false → NW p l e (rmN d mc ms) s m args below meth c (MQ below (q_Qn A av D sh.length sh2 S2) args s mc ms A) A D maxL sh.length av av ca sh (q_en as maxL) [] S 0 0 0) : CM y bytes maxL d mc ms sh as S sh2 S2 := by
  intro l A av ca D hav hwf hF
  refine va_MetF (cc := bytes) (maxL := maxL) (ret := none) hy rfl ?_
  intro p e s m args below meth c s₁ B hml2 hv
  obtain ⟨⟨rfl, hR, hFx, hA⟩, hfy⟩ := hv
  have hts := atoms_spec (ws := Cond.code y bytes maxL none :: q_tbl) B.pre
  have hl : q_LR av ((lg_sl (as.map (q_lf av)) ++ List.replicate (maxL - (lg_sl (as.map (q_lf av))).length) Slot.unset).toArray) maxL (q_en as maxL) := by
    have h1 := lv_entry (as.map (q_lf av)) (n := maxL) (by rw [q_sl_len, hav.sum]; exact hfit)
    refine ⟨q_en_len as maxL, h1.1, h1.2.1, fun q hq => h1.2.2 q ?_⟩
    obtain ⟨w, h2, h3⟩ := q_asc_mem.mp hq
    have h4 := q_lv_args hav as maxL 0 q.1 w h2
    rw [Nat.zero_add, ← h3] at h4
    exact h4
  have hown : s.vm.findClass (q_cn o) = some m.cls := by
    have h1 : s.vm.findClass y.cls = some m.cls := findClass_of_methodNamed B.named
    rw [hcn] at h1
    exact h1
  have hin : meth.name = "<init>" := ((name_of_methodNamed B.named B.method).1).trans hname
  rw [lg_entry_eq]
  exact h p l e s m _ below meth c A av ca D ⟨B.exec, B.bytes, hml2, hown, fun w hw => hts w (List.mem_cons_of_mem _ hw), hA, Nat.le_add_left _ _, by show 60 ≤ 60 * (d + 1); omega, hin, hfy⟩ B.returns B.notSynchronized s.heap [] _ ⟨Nat.le_refl _, q_xt.rf⟩ hav hwf hF hFx hR va_S.rf hl
section NI
variable {p : Program} {l : Launch} {e : Env} {R : Room} {s : State} {m : MethodId} {args : Array Value} {below : List Frame} {meth : Method} {c : Code} {Q : State → Prop} {A : Nat → Prop} {D : va_G} {o nL : Nat} {cc : ByteArray} {av av0 : Nat → Value} {ca : Nat → ClassId} {sh : QH} {ls : QL} {st : List Value} {S : QS} {pc cells slots n0 : Nat}
theorem n_ret {mc ms : Nat} (C : NC p R s m args meth c A o cc nL) (hret : meth.sig.returnType = none) (hlocks : meth.locks = false) (hdg : decode cc pc = .ok (.return_, 1)) : NW p l e R s m args below meth c (MQ below (q_Qn A av0 D n0 sh S) args s mc ms A) A D nL n0 av0 av ca sh ls [] S pc mc ms := by
  intro H locs LS hxt hav hwf hF hfx hR hS hL
  obtain ⟨hx, hb, hml, hown, hts, hA, hfr, hlo, hin, hfy⟩ := C
  exact W.vret hx hb hret (fun t ht hW => ⟨rfl, ⟨av, ca, hxt.2, hav, hwf, hF, hxt.1, by rw [ht]; exact q_R.moved hW.alike hR⟩, hS.F ht⟩) hS.2.2 hdg
theorem n_init (C : NC p R s m args meth c A o cc nL) {x d2 mc ms maxL np c0 : Nat} {y : MethodName} {bytes : ByteArray} {As stk : List Value} {sh2 : QH} {S2 : QS} (hdg : decode cc pc = .ok (.invokespecial x, 3)) (hlk : Cond.methodLink (q_cn o) x y ∈ q_tbl ∨ Cond.methodLinkNest (q_cn o) x y "StraightTax" ∈ qnestC) (hcode : Cond.code y bytes maxL none ∈ q_tbl) (hini : Cond.initialized y.cls ∈ q_tbl) (hinst : Cond.instanceMethod y ∈ q_tbl) (hname : y.name = "<init>") (hcls : y.cls ≠ "java/lang/invoke/MethodHandle" ∧ y.cls ≠ "java/lang/invoke/VarHandle") (hnp : (parseMethodDescriptor y.desc).map (fun d => d.parameters.length) = some np) (hAs : As.length = np) (hM : CM y bytes maxL d2 mc ms sh (.ref c0 :: As) S sh2 S2) (hfr2 : d2 + 1 + 1 ≤ R.frames) (hlo2 : 60 * (d2 + 1 + 1) ≤ R.locals) (hmax : maxL ≤ 30) (hc0 : c0 ≠ 1030) (h8 : (st.map fun v => v.category).sum ≤ 8) (hce : cells + mc ≤ R.cells) (hsl : slots + ms ≤ R.slots) (hst : st.all (okv sh.length) = true) (hls : ls.all (okl sh.length) = true) (hstk : stk = As.reverse ++ .ref c0 :: st) (k : ∀ av' ca', NW p l e R s m args below meth c Q A D nL n0 av0 av' ca' sh2 ls st S2 (pc + 3) (cells + mc) (slots + ms)) : NW p l e R s m args below meth c Q A D nL n0 av0 av ca sh ls stk S pc cells slots := by
  intro H locs LS hxt hav hwf hF hfx hR hS hL
  obtain ⟨hx, hb, hml, hown, hts, hA, hfr, hlo, hin, hfy⟩ := C
  have ez : q_lf av (.ref c0) = .ref (q_ad av c0) := hav.ad hc0
  have hM2 := hM l A av ca D hav hwf hF
  have hG : GoodIn q_tbl (Cond.code y bytes maxL none :: q_tbl) := by
    intro w hw
    rcases List.mem_cons.mp hw with rfl | hw
    · exact q_tbl_good _ hcode
    · exact q_tbl_good w hw
  have hnp2 : ∀ sig, parseMethodDescriptor y.desc = some sig → np = sig.parameters.length := by
    intro sig hs
    rw [hs] at hnp
    exact (Option.some.inj hnp).symm
  have hpre : PreS s H (q_Pn A av ca D sh (.ref c0 :: As) S) (.ref (q_ad av c0) :: As.map (q_lf av)) := by
    refine ⟨q_Pn_blind, fun U hU hW => ⟨⟨?_, by rw [hU]; exact q_R.moved hW.alike hR, hfx.moved (locs := locs) (by rw [hU]; exact hS) hW, fun q hq => hA q (Nat.le_trans ?_ hq)⟩, hfy.moved hW⟩⟩
    · rw [List.map_cons, ez]
    · rw [hU]; exact hS.1
  have hroom : 8 + (maxL + 11) + (rmN d2 mc ms).locals ≤ R.locals := by
    show 8 + (maxL + 11) + 60 * (d2 + 1) ≤ R.locals
    omega
  have hstk2 : stk.map (q_lf av) = (As.map (q_lf av)).reverse ++ .ref (q_ad av c0) :: st.map (q_lf av) := by
    rw [hstk, List.map_append, List.map_cons, ez, List.map_reverse]
  have hrm : 2 * (F0 m pc LS (stk.map (q_lf av))).monitorRoom + ((st.map (q_lf av)).map fun v => v.category).sum ≤ 8 := by
    rw [hav.sum]
    exact lv_room h8
  have hr : va_Run p l e R s m args below meth c H locs cells slots mc ms (F0 m pc LS (stk.map (q_lf av))) (st.map (q_lf av)) (q_Qn A av D sh.length sh2 S2 (Value.ref (q_ad av c0) :: As.map (q_lf av)).toArray) A := by
    rcases hlk with hlk | hlk
    · exact va_runI (n := np) ⟨hx, hb, hml, hown, hts⟩ hM2 ⟨⟨rfl, rfl, hfr2, hroom, pay_in hts hG, List.mem_cons_self, hts _ hcode, hts _ hini, hcls, hnp2, hts _ hlk⟩, hname, hts _ hinst⟩ hpre rfl (by rw [List.length_map]; exact hAs) hL.2.1 hstk2 hrm hdg ⟨hce, hsl⟩
    · exact va_runIN (n := np) ⟨hx, hb, hml, hown, hts⟩ hM2 ⟨⟨⟨rfl, rfl, hfr2, hroom, pay_in hts hG, List.mem_cons_self⟩, hts _ hcode, hts _ hini, hcls, hnp2, va_Nw.use rfl (hfy.1 _ hlk)⟩, hname, hts _ hinst⟩ hpre rfl (by rw [List.length_map]; exact hAs) hL.2.1 hstk2 hrm hdg ⟨hce, hsl⟩
  intro T hT X
  obtain ⟨v', st₀, t, T', L, h0, X', hLo, e1, e2, ⟨hv, ⟨av', ca', hx2, hav', hwf', hF', hle, hR'⟩, hz, hk⟩, stp⟩ := hr T hT X
  cases hv
  rw [h0] at hz hk
  have hal : s.vm.Alike t.vm := by rw [← e2]; exact X'.warmed.alike
  have hkk := k av' ca' T'.heap (locs ++ L) LS ⟨Nat.le_trans hxt.1 hle, hxt.2.tr hx2 hxt.1⟩ hav' hwf' hF' (hfx.xt hx2) (by rw [e1]; exact q_R.moved hal.symm hR')
    ⟨Nat.le_trans hS.1 (by rw [e1]; exact hz), fun q h1 h2 => by rw [e1, hk q (Nat.lt_of_lt_of_le h1 hS.1) h2]; exact hS.2.1 q h1 h2, fun q hq => by
      rcases List.mem_append.mp hq with h | h
      · exact hS.2.2 q h
      · exact hLo q h⟩ (q_LR_xt hL hx2 hls)
  rw [map_xt hx2 hst] at hkk
  obtain ⟨t2, a1, b1⟩ := hkk T' rfl X'
  exact ⟨t2, stp t2 a1, b1⟩
/-- a method of the small machine, called in a constructor -/
theorem n_callv (C : NC p R s m args meth c A o cc nL) {x j d2 ci n c0 : Nat} {r : QRow} {S2 : QS} (hdg : decode cc pc = .ok (.invokevirtual x, 3)) (hj : qmt[j]? = some r) (hnp : r.2.2.2.2.2 = 0) (hrt : r.2.2.2.2.1 = none) (hcl : sh[c0]? = some (ci, n)) (hr1 : r.1 = ci) (hci : ci < 19) (w1 : Cond.methodLink (q_cn o) x r.2.2.2.1 ∈ q_tbl) (w2 : Cond.instanceMethod r.2.2.2.1 ∈ q_tbl) (w3 : Cond.selects r.2.2.2.1.cls r.2.2.2.1 r.2.2.2.1 ∈ q_tbl) (w4 : Cond.initialized r.2.2.2.1.cls ∈ q_tbl) (hk : KC sh d2 j [.ref c0] S (fun v S' => v = none ∧ S' = S2)) (hfr2 : d2 + 1 + 1 ≤ R.frames) (hlo2 : 60 * (d2 + 1 + 1) ≤ R.locals) (h8 : (st.map fun v => v.category).sum ≤ 8) (hF2 : Fr sh.length S → Fr sh.length S2) (hcs : cells + 0 ≤ R.cells ∧ slots + 0 ≤ R.slots) (k : NW p l e R s m args below meth c Q A D nL n0 av0 av ca sh ls st S2 (pc + 3) cells slots) : NW p l e R s m args below meth c Q A D nL n0 av0 av ca sh ls (.ref c0 :: st) S pc cells slots := by
  intro H locs LS hxt hav hwf hF hfx hR hS hL
  obtain ⟨hx, hb, hml, hown, hts, hA, hfr, hlo, hin, hfy⟩ := C
  obtain ⟨hfit, hg⟩ := hk
  obtain ⟨v1, V1, ⟨S', hV, hv1, hS'⟩, hM⟩ := q_contract (l := l) (A := A) (ca := ca) (D := D) hav hwf hj hfit hg
  subst hv1
  subst hS'
  subst hV
  obtain ⟨b0, b1, b2, b3, b4, b5⟩ := q_okm_spec hj
  obtain ⟨hz, hrc, -⟩ := q_recv hwf hfx hR hS (q_cls_of hcl) hci
  have hG := q_wsj_good hj
  have ez : q_lf av (.ref c0) = .ref (q_ad av c0) := hav.ad hz
  have hroom : 8 + (r.2.2.1 + 11) + (q_rm d2).locals ≤ R.locals := by
    show 8 + (r.2.2.1 + 11) + 60 * (d2 + 1) ≤ R.locals
    omega
  have hrc2 : ∃ cellB : Cell, H[q_ad av c0]? = some cellB ∧ cellB.vm.isStatics = false ∧ s.vm.findClass r.2.2.2.1.cls = some cellB.cls := by
    rw [b3, hr1]; exact hrc
  have hpre : ∀ U : State, U.heap = H → s.WarmedH U.vm → q_P A av ca D sh [.ref c0] (vv S) ([Value.ref (q_ad av c0)] : List Value).toArray U := by
    intro U hU hW
    refine ⟨by rw [List.map_cons, ez]; rfl, by rw [hU]; exact q_R.moved hW.alike hR, hfx.moved (locs := locs) (by rw [hU]; exact hS) hW, fun q hq => hA q (Nat.le_trans ?_ hq)⟩
    rw [hU]; exact hS.1
  have hrm : 2 * (F0 m pc LS ((Value.ref c0 :: st).map (q_lf av))).monitorRoom + ((st.map (q_lf av)).map fun v => v.category).sum ≤ 8 := by
    rw [hav.sum]
    exact lv_room h8
  have hr : va_Run p l e R s m args below meth c H locs cells slots 0 0 (F0 m pc LS ((Value.ref c0 :: st).map (q_lf av))) (st.map (q_lf av)) (q_Q A av ca D sh none (vv S') ([Value.ref (q_ad av c0)] : List Value).toArray) A :=
    va_runV (As := []) (n := 0) ⟨hx, hb, hml, hown, hts⟩ hM ⟨⟨rfl, rfl, hfr2, hroom, pay_in hts hG, List.mem_cons_self, hts _ b5, hts _ w4, b1, fun sig h => by rw [← hnp]; exact b2 sig h, hts _ w1⟩, hts _ w2, hts _ w3⟩ ⟨q_P_blind, hrc2, hpre⟩ rfl rfl hL.2.1 (by rw [List.map_cons, ez]; rfl) hrm hdg ⟨hcs.1, hcs.2⟩
  intro T hT X
  obtain ⟨v', st₀, t, T', L, h0, X', hLo, e1, e2, ⟨hv, hR', hz2, hk2⟩, stp⟩ := hr T hT X
  cases hv
  rw [h0] at hz2 hk2
  have hal : s.vm.Alike t.vm := by rw [← e2]; exact X'.warmed.alike
  have hkk := k T'.heap (locs ++ L) LS hxt hav hwf (hF2 hF) hfx (by rw [e1]; exact q_R.moved hal.symm hR')
    ⟨Nat.le_trans hS.1 (by rw [e1]; exact hz2), fun q h1 h2 => by rw [e1, hk2 q (Nat.lt_of_lt_of_le h1 hS.1) h2]; exact hS.2.1 q h1 h2, fun q hq => by
      rcases List.mem_append.mp hq with h | h
      · exact hS.2.2 q h
      · exact hLo q h⟩ hL
  obtain ⟨t2, a1, b1⟩ := hkk T' rfl X'
  exact ⟨t2, stp t2 a1, b1⟩
end NI
