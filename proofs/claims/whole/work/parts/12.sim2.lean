/-! THE SMALL MACHINE IS TRUE TO THE MACHINE, 7 -/
section QY
variable {l : Launch} {av : Nat → Value} {A : Nat → Prop} {ca : Nat → ClassId} {D : va_G} {sh : QH}
theorem q_dec_spec {j pc o len : Nat} {i : Instr} {r : QRow} (h : q_dec j pc = some (o, i, len)) (hr : qmt[j]? = some r) : o = r.1 ∧ decode r.2.1 pc = .ok (i, len) := by
  unfold q_dec at h
  rw [hr] at h
  dsimp only at h
  split at h
  · cases h
  · cases h; exact ⟨rfl, by assumption⟩
theorem q_drop {α : Type} {st r : List α} {n : Nat} {a : α} (h : st.drop n = a :: r) : st = st.take n ++ a :: r ∧ (st.take n).length = n := by
  refine ⟨by rw [← h, List.take_append_drop], ?_⟩
  have h1 : (st.drop n).length = r.length + 1 := by rw [h]; rfl
  rw [List.length_drop] at h1
  rw [List.length_take]
  omega
theorem q_retW {p : Program} {e : Env} {R : Room} {s : State} {m : MethodId} {args : Array Value} {below : List Frame} {meth : Method} {c : Code} {H : Heap} {locs : List Loc} {LS : Array Slot} {V : QV} {r : QRow} {j pc len : Nat} {i : Instr} {st : List Value} {w : Option Value} (hx : p.tables.exec = Jvm.exec) (hb : c.code = r.2.1) (hret : meth.sig.returnType = r.2.2.2.2.1) (hlk : meth.locks = false) (hj : qmt[j]? = some r) (hdg : decode r.2.1 pc = .ok (i, len)) (hR : q_R A av ca D sh V s H) (hS : va_S A s.heap H locs) (hq : q_ret j i len st = some w) : W p l e R s m args below meth c H locs 0 0 (MQ below (q_Q A av ca D sh w V) args s 0 0 A) (F0 m pc LS (st.map (q_lf av))) := by
  have hrt : q_rt j = some r.2.2.2.2.1 := by unfold q_rt; rw [hj]; rfl
  have post : ∀ (w' : Option Value), w'.map (q_lf av) = w' → ∀ t : State, t.heap = H → s.WarmedH t.vm → q_Q A av ca D sh w' V args s (.returned w') t := by
    intro w' hw t ht hW
    exact ⟨by rw [hw], by rw [ht]; exact q_R.moved hW.alike hR, hS.F ht⟩
  cases i with
  | ireturn =>
    simp only [q_ret] at hq
    split at hq
    · rename_i x
      split at hq
      · rename_i hn
        subst hn
        rw [hrt] at hq
        split at hq
        · rename_i ty hty
          split at hq
          · rename_i hnar
            cases hq
            exact W.zret hx hb (hret.trans (Option.some.inj hty)) hnar (post (some (.int x)) rfl) hS.2.2 hdg
          · cases hq
        · cases hq
      · cases hq
    · cases hq
  | lreturn =>
    simp only [q_ret] at hq
    split at hq
    · rename_i x
      split at hq
      · rename_i hn
        obtain ⟨rfl, h2⟩ := hn
        cases hq
        rw [hrt] at h2
        exact W.lret hx hb (hret.trans (Option.some.inj h2)) (post (some (.long x)) rfl) hS.2.2 hdg
      · cases hq
    · cases hq
  | return_ =>
    simp only [q_ret] at hq
    split at hq
    · split at hq
      · rename_i hn
        obtain ⟨rfl, h2⟩ := hn
        cases hq
        rw [hrt] at h2
        exact W.vret hx hb (hret.trans (Option.some.inj h2)) (post none rfl) hS.2.2 hdg
      · cases hq
    · cases hq
  | _ => cases hq
set_option maxHeartbeats 4000000 in
theorem q_callW (hav : q_AV av) (hwf : q_wf sh) {p : Program} {e : Env} {R : Room} {s : State} {m : MethodId} {args : Array Value} {below : List Frame} {meth : Method} {c : Code} {H : Heap} {locs : List Loc} {LS : Array Slot} {ls : QL} {V V1 : QV} {r : QRow} {d2 o pc len j2 : Nat} {i : Instr} {st as rs : List Value} {v1 : Option Value} {Q : State → Prop}
    (hx : p.tables.exec = Jvm.exec) (hb : c.code = r.2.1) (hml : c.maxLocals = r.2.2.1) (hown : s.vm.findClass (q_cn o) = some m.cls) (hts : ∀ w ∈ q_tbl, w.before args s = true) (hfx : q_Fx A av s) (hA : ∀ q, s.heap.size ≤ q → A q) (hfr : d2 + 1 + 1 ≤ R.frames) (hlo : 60 * (d2 + 1 + 1) ≤ R.locals) (hR : q_R A av ca D sh V s H) (hS : va_S A s.heap H locs) (hL : q_LR av LS r.2.2.1 ls) (hdg : decode r.2.1 pc = .ok (i, len)) (hc : q_call sh o i len st = some (j2, as, rs))
    (hM : ∀ r2, qmt[j2]? = some r2 → Met l r2.2.2.2.1 (q_wsj r2) (q_rm d2) (q_P A av ca D sh as V) (q_Q A av ca D sh v1 V1) 0 0 A)
    (k : ∀ H1 locs1, q_R A av ca D sh V1 s H1 → va_S A s.heap H1 locs1 → W p l e R s m args below meth c H1 locs1 0 0 Q (F0 m (pc + 3) LS ((v1.toList ++ rs).map (q_lf av)))) : W p l e R s m args below meth c H locs 0 0 Q (F0 m pc LS (st.map (q_lf av))) := by
  have hpre : ∀ U : State, U.heap = H → s.WarmedH U.vm → q_P A av ca D sh as V (as.map (q_lf av)).toArray U := by
    intro U hU hW
    refine ⟨rfl, by rw [hU]; exact q_R.moved hW.alike hR, hfx.moved (locs := locs) (by rw [hU]; exact hS) hW, fun q hq => hA q (Nat.le_trans ?_ hq)⟩
    rw [hU]; exact hS.1
  have hk : ∀ H1 locs1, q_R A av ca D sh V1 s H1 → va_S A s.heap H1 locs1 → W p l e R s m args below meth c H1 locs1 0 0 Q (F0 m (pc + 3) LS ((v1.map (q_lf av)).toList ++ rs.map (q_lf av))) := by
    intro H1 locs1 a1 a2
    have h1 := k H1 locs1 a1 a2
    rw [List.map_append] at h1
    have e1 : (v1.toList).map (q_lf av) = (v1.map (q_lf av)).toList := by cases v1 <;> rfl
    rw [e1] at h1
    exact h1
  have hws : ∀ {r2 : QRow}, qmt[j2]? = some r2 → (∀ w ∈ q_wsj r2, ∀ (a' : Array Value) (U : State), s.WarmedH U.vm → w.before a' U = true) ∧ Cond.code r2.2.2.2.1 r2.2.1 r2.2.2.1 r2.2.2.2.2.1 ∈ q_wsj r2 ∧ (Cond.code r2.2.2.2.1 r2.2.1 r2.2.2.1 r2.2.2.2.2.1).before args s = true ∧ 8 + (r2.2.2.1 + 11) + (q_rm d2).locals ≤ R.locals := by
    intro r2 h2
    obtain ⟨-, -, -, -, b1, b2⟩ := q_okm_spec h2
    refine ⟨pay_in hts (q_wsj_good h2), List.mem_cons_self, hts _ b2, ?_⟩
    show 8 + (r2.2.2.1 + 11) + 60 * (d2 + 1) ≤ R.locals
    omega
  have room : ∀ {x : List Value}, (x.map fun v => v.category).sum ≤ 8 → 2 * (F0 m pc LS (st.map (q_lf av))).monitorRoom + ((x.map (q_lf av)).map fun v => v.category).sum ≤ 8 := by
    intro x hx8
    rw [hav.sum]
    exact lv_room hx8
  have revs : ∀ (x : List Value), (((x.reverse).map (q_lf av)).reverse) = x.map (q_lf av) := fun x => by rw [← List.map_reverse, List.reverse_reverse]
  cases i with
  | invokevirtual x =>
    simp only [q_call] at hc
    split at hc
    · rename_i j hl
      split at hc
      · rename_i z r' hdr
        split at hc
        · rename_i hn
          obtain ⟨rfl, hcl, h8⟩ := hn
          cases hc
          obtain ⟨ps, hok⟩ := qct_ok (q_lk_mem hl)
          unfold q_okc at hok
          split at hok
          · cases hok
          · rename_i r2 h2
            dsimp only at hok h2
            simp only [Bool.and_eq_true] at hok
            obtain ⟨⟨⟨k1, k2⟩, k3⟩, k4⟩ := hok
            obtain ⟨b0, b1, b2, b3, b4, b5⟩ := q_okm_spec h2
            have hj19 : r2.1 < 19 := by
              have h3 : ∀ q ∈ qmt, q.1 < 19 := by decide +kernel
              exact h3 r2 (List.mem_of_getElem? h2)
            have hown2 : q_own j2 = r2.1 := by unfold q_own; rw [h2]; rfl
            have hnp : q_np j2 = r2.2.2.2.2.2 := by unfold q_np; rw [h2]; rfl
            rw [hown2] at hcl
            obtain ⟨hz, hrc, -⟩ := q_recv hwf hfx hR hS hcl hj19
            rw [← b3] at hrc
            obtain ⟨w1, w2, w3, w4⟩ := hws h2
            obtain ⟨d1, d3⟩ := q_drop hdr
            have ez : q_lf av (.ref z) = .ref (q_ad av z) := hav.ad hz
            rw [List.map_cons, ez] at hpre
            refine q_back (va_runV (n := r2.2.2.2.2.2) ⟨hx, hb, hml, hown, hts⟩ (hM r2 h2) ⟨⟨rfl, rfl, hfr, w4, w1, w2, w3, hts _ (q_wp_in k4), b1, fun sig h => b2 sig h, hts _ (q_wp_in k1)⟩, hts _ (q_wp_in k2), hts _ (q_wp_in k3)⟩ ⟨q_P_blind, hrc, hpre⟩ rfl (by rw [List.length_map, List.length_reverse, d3, hnp]) hL.2.1 ?_ (room h8) hdg ⟨Nat.zero_le _, Nat.zero_le _⟩) hS hk
            show st.map (q_lf av) = _
            rw [revs]
            conv => lhs; rw [d1]
            rw [List.map_append, List.map_cons, ez]
        · cases hc
      · cases hc
    · rename_i j0 hl
      split at hc
      · rename_i z r' hdr
        split at hc
        · rename_i kk hcl
          split at hc
          · rename_i fj jj hfind
            split at hc
            · rename_i hn
              obtain ⟨rfl, hzl, h8⟩ := hn
              cases hc
              obtain ⟨ps, hok⟩ := qct_ok (q_lk_mem hl)
              unfold q_okc at hok
              split at hok
              · cases hok
              · rename_i r0 h0
                dsimp only at hok h0
                simp only [Bool.and_eq_true] at hok
                obtain ⟨⟨⟨k1, k2⟩, k3⟩, k4⟩ := hok
                have hmem := List.mem_of_find?_eq_some hfind
                have hfk : fj = kk := by simpa using List.find?_some hfind
                subst hfk
                have k5 := List.all_eq_true.mp k4 _ hmem
                dsimp only at k5
                split at k5
                · cases k5
                · rename_i r2 h2
                  simp only [Bool.and_eq_true, decide_eq_true_eq] at k5
                  obtain ⟨⟨⟨⟨k6, k7⟩, k8⟩, k9⟩, k10⟩ := k5
                  obtain ⟨c0, c1, c2, c3, c4, c5⟩ := q_okm_spec h0
                  have hnp : q_np j0 = r0.2.2.2.2.2 := by unfold q_np; rw [h0]; rfl
                  obtain ⟨hz, hrc, -⟩ := q_recv hwf hfx hR hS hcl (by omega)
                  obtain ⟨w1, w2, w3, w4⟩ := hws h2
                  obtain ⟨d1, d3⟩ := q_drop hdr
                  have ez : q_lf av (.ref z) = .ref (q_ad av z) := hav.ad hz
                  rw [List.map_cons, ez] at hpre
                  refine q_back (va_runU (owner := r0.2.2.2.1.cls) (x := r0.2.2.2.1) (n := r0.2.2.2.2.2) ⟨hx, hb, hml, hown, hts⟩ (hM r2 h2) ⟨⟨rfl, rfl, hfr, w4, w1, w2⟩, w3, hts _ (q_wi_in k8), c1, fun sig h => c2 sig h, hts _ (q_wp_in k1), hts _ (q_wp_in k2), va_Decl.of (hts _ (q_wp_in k3)) (hts _ c5), hts _ (q_wi_in k6), hts _ (q_wi_in k7)⟩ ⟨q_P_blind, hrc, hpre⟩ rfl (by rw [List.length_map, List.length_reverse, d3, hnp]) hL.2.1 ?_ (room h8) hdg ⟨Nat.zero_le _, Nat.zero_le _⟩) hS hk
                  show st.map (q_lf av) = _
                  rw [revs]
                  conv => lhs; rw [d1]
                  rw [List.map_append, List.map_cons, ez]
            · cases hc
          · cases hc
        · cases hc
      · cases hc
    · cases hc
  | invokestatic x =>
    simp only [q_call] at hc
    split at hc
    · rename_i j hl
      split at hc
      · rename_i hn
        obtain ⟨rfl, hst, h8⟩ := hn
        cases hc
        obtain ⟨ps, hok⟩ := qct_ok (q_lk_mem hl)
        unfold q_okc at hok
        split at hok
        · cases hok
        · rename_i r2 h2
          dsimp only at hok h2
          simp only [Bool.and_eq_true] at hok
          obtain ⟨⟨k1, k2⟩, k3⟩ := hok
          obtain ⟨b0, b1, b2, b3, b4, b5⟩ := q_okm_spec h2
          have hnp : q_np j2 = r2.2.2.2.2.2 := by unfold q_np; rw [h2]; rfl
          obtain ⟨w1, w2, w3, w4⟩ := hws h2
          refine q_back (va_runS (n := r2.2.2.2.2.2) ⟨hx, hb, hml, hown, hts⟩ (hM r2 h2) ⟨⟨rfl, rfl, hfr, w4, w1, w2, w3, hts _ (q_wp_in k3), b1, fun sig h => b2 sig h, hts _ (q_wp_in k1)⟩, hts _ (q_wp_in k2)⟩ ⟨q_P_blind, hpre⟩ rfl (by rw [List.length_map, List.length_reverse, List.length_take, Nat.min_eq_left hst, hnp]) hL.2.1 ?_ (room h8) hdg ⟨Nat.zero_le _, Nat.zero_le _⟩) hS hk
          show st.map (q_lf av) = _
          rw [revs, ← List.map_append, List.take_append_drop]
      · cases hc
    · rename_i j hl
      split at hc
      · rename_i hn
        obtain ⟨rfl, hst, h8⟩ := hn
        cases hc
        obtain ⟨ps, hok⟩ := qct_ok (q_lk_mem hl)
        unfold q_okc at hok
        split at hok
        · cases hok
        · rename_i r2 h2
          dsimp only at hok h2
          simp only [Bool.and_eq_true, decide_eq_true_eq] at hok
          obtain ⟨⟨k1, k2⟩, k3⟩ := hok
          obtain ⟨b0, b1, b2, b3, b4, b5⟩ := q_okm_spec h2
          have hnp : q_np j2 = r2.2.2.2.2.2 := by unfold q_np; rw [h2]; rfl
          obtain ⟨w1, w2, w3, w4⟩ := hws h2
          refine q_back (va_runSN (n := r2.2.2.2.2.2) ⟨hx, hb, hml, hown, hts⟩ (hM r2 h2) ⟨⟨⟨rfl, rfl, hfr, w4, w1, w2⟩, w3, hts _ (q_wp_in k3), b1, fun sig h => b2 sig h, va_Nw.use rfl (hfx.1 _ k1)⟩, hts _ (q_wp_in k2), trivial⟩ ⟨q_P_blind, hpre⟩ rfl (by rw [List.length_map, List.length_reverse, List.length_take, Nat.min_eq_left hst, hnp]) hL.2.1 ?_ (room h8) hdg ⟨Nat.zero_le _, Nat.zero_le _⟩) hS hk
          show st.map (q_lf av) = _
          rw [revs, ← List.map_append, List.take_append_drop]
      · cases hc
    · cases hc
  | invokespecial x =>
    simp only [q_call] at hc
    split at hc
    · rename_i j hl
      split at hc
      · rename_i z r' hdr
        split at hc
        · rename_i kk hcl
          split at hc
          · rename_i hn
            obtain ⟨rfl, hzl, hk13, h8⟩ := hn
            cases hc
            obtain ⟨ps, hok⟩ := qct_ok (q_lk_mem hl)
            unfold q_okc at hok
            split at hok
            · cases hok
            · rename_i r2 h2
              dsimp only at hok h2
              simp only [Bool.and_eq_true, decide_eq_true_eq] at hok
              obtain ⟨⟨⟨⟨⟨k1, k2⟩, k3⟩, k4⟩, k5⟩, k6⟩ := hok
              obtain ⟨b0, b1, b2, b3, b4, b5⟩ := q_okm_spec h2
              have hnp : q_np j2 = r2.2.2.2.2.2 := by unfold q_np; rw [h2]; rfl
              obtain ⟨hz, hrc, hat⟩ := q_recv hwf hfx hR hS hcl (by omega)
              obtain ⟨cC, hat⟩ := hat hzl
              obtain ⟨w1, w2, w3, w4⟩ := hws h2
              obtain ⟨d1, d3⟩ := q_drop hdr
              have ez : q_lf av (.ref z) = .ref (q_ad av z) := hav.ad hz
              rw [List.map_cons, ez] at hpre
              refine q_back (va_runSU (n := r2.2.2.2.2.2) hat ⟨hx, hb, hml, hown, hts⟩ (hM r2 h2) ⟨⟨rfl, rfl, hfr, w4, w1, w2⟩, hts _ (q_wp_in k1), hts _ (q_wp_in k2), hts _ (q_wp_in k3), hts _ (q_wp_in k4), hts _ (q_wp_in k5), w3, k6, fun sig h => b2 sig h⟩ ⟨q_P_blind, hrc, hpre⟩ rfl (by rw [List.length_map, List.length_reverse, d3, hnp]) hL.2.1 ?_ (room h8) hdg ⟨Nat.zero_le _, Nat.zero_le _⟩) hS hk
              show st.map (q_lf av) = _
              rw [revs]
              conv => lhs; rw [d1]
              rw [List.map_append, List.map_cons, ez]
          · cases hc
        · cases hc
      · cases hc
    · cases hc
  | _ => cases hc
/-- ALL OF IT: what the small machine does, the machine does -/
theorem q_sim (hav : q_AV av) (hwf : q_wf sh) : ∀ n, q_Sim l av A ca D sh n
  | 0 => by intro d j pc ls st V v V2 r h; cases h
  | n + 1 => by
    have ih := q_sim hav hwf n
    intro d j pc ls st V v V2 r h hr p e R s m args below meth c H locs LS hx hb hml hown hts hret hlk hfx hA hfr hlo hR hS hL
    change q_go sh (am sh n) d j pc ls st V = some (v, V2) at h
    unfold q_go at h
    cases hd : q_dec j pc with
    | none => rw [hd] at h; cases h
    | some y =>
      obtain ⟨o, i, len⟩ := y
      rw [hd] at h
      dsimp only at h
      obtain ⟨rfl, hdg⟩ := q_dec_spec hd hr
      cases hq : q_ret j i len st with
      | some w =>
        rw [hq] at h
        cases h
        exact q_retW hx hb hret hlk hr hdg hR hS hq
      | none =>
        rw [hq] at h
        dsimp only at h
        cases hc : q_call sh r.1 i len st with
        | some y =>
          obtain ⟨j2, as, rs⟩ := y
          rw [hc] at h
          dsimp only at h
          cases d with
          | zero => cases h
          | succ d2 =>
            dsimp only at h
            split at h
            · rename_i hfit
              cases ha : am sh n d2 j2 0 (q_en as (q_ml j2)) [] V with
              | none => rw [ha] at h; cases h
              | some w =>
                obtain ⟨v1, V1⟩ := w
                rw [ha] at h
                dsimp only at h
                exact q_callW hav hwf hx hb hml hown hts hfx hA hfr hlo hR hS hL hdg hc (fun r2 h2 => q_met hav ih ha h2 hfit) (fun H1 locs1 hR1 hS1 => ih (d2 + 1) j (pc + 3) ls (v1.toList ++ rs) V1 v V2 r h hr p e R s m args below meth c H1 locs1 LS hx hb hml hown hts hret hlk hfx hA hfr hlo hR1 hS1 hL)
            · cases h
        | none =>
          rw [hc] at h
          dsimp only at h
          cases hs : q_s r.1 i len pc ls st with
          | some y =>
            obtain ⟨pc2, ls2, st2⟩ := y
            rw [hs] at h
            exact q_simS hav hx hb hown hts hfx hdg hL hs (fun LS' hL' => ih d j pc2 ls2 st2 V v V2 r h hr p e R s m args below meth c H locs LS' hx hb hml hown hts hret hlk hfx hA hfr hlo hR hS hL')
          | none =>
            rw [hs] at h
            dsimp only at h
            cases hm : q_m sh r.1 i len pc st V with
            | some y =>
              obtain ⟨pc2, st2, V1⟩ := y
              rw [hm] at h
              exact q_simM hav hwf hx hb hown hts hfx hml hdg hL hR hS (by omega) (by omega) hm (fun H1 locs1 hR1 hS1 => ih d j pc2 ls st2 V1 v V2 r h hr p e R s m args below meth c H1 locs1 LS hx hb hml hown hts hret hlk hfx hA hfr hlo hR1 hS1 hL)
            | none => rw [hm] at h; cases h
/-- a method's contract, out of the small machine's -/
theorem q_contract (hav : q_AV av) (hwf : q_wf sh) {d j : Nat} {as : List Value} {V : QV} {r : QRow} {Q : Option Value → QV → Prop} (hr : qmt[j]? = some r) (hfit : (as.map fun v => v.category).sum ≤ q_ml j) (hg : G sh d j 0 (q_en as (q_ml j)) [] V Q) : ∃ v V2, Q v V2 ∧ Met l r.2.2.2.1 (q_wsj r) (q_rm d) (q_P A av ca D sh as V) (q_Q A av ca D sh v V2) 0 0 A := by
  obtain ⟨n, v, V2, h1, h2⟩ := hg
  exact ⟨v, V2, h2, q_met hav (q_sim hav hwf n) h1 hr hfit⟩
end QY
