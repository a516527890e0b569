/-! THE SMALL MACHINE IS TRUE TO THE MACHINE, 4: what reads or writes memory -/
theorem q_up_upd {f : Nat → Nat → Int32} {c k : Nat} {v : Int32} : q_up f c k v c = upd (f c) k v := by
  funext j
  simp only [q_up, upd, true_and]
section QM
variable {p : Program} {l : Launch} {e : Env} {R : Room} {s : State} {m : MethodId} {args : Array Value} {below : List Frame} {meth : Method} {c : Code} {H : Heap} {locs : List Loc} {cells slots : Nat} {Q : State → Prop}
variable {av : Nat → Value} {A : Nat → Prop} {cc : ByteArray} {nL : Nat} {ca : Nat → ClassId} {D : va_G} {sh : QH}
theorem q_roI_T {U : State} (hfx : q_Fx A av U) {c : Nat} {a : List Int32} (h : q_roI c = some a) : a.length = 4 ∧ c ≠ 1030 ∧ va_T .int (q_ad av c) 4 (fun j => .int (a.getD j 0)) A U U.heap := by
  obtain ⟨-, -, -, -, -, t1, t2, -⟩ := hfx
  unfold q_roI at h
  split at h
  · cases h; exact ⟨rfl, by decide, t1⟩
  · cases h; exact ⟨rfl, by decide, t2⟩
  · cases h
theorem q_sb : ∀ i, i < 6 → qsln.getD i 0 = (qsby.getD i []).length := by decide +kernel
theorem q_roB_T {U : State} (hfx : q_Fx A av U) {c : Nat} {a : List Int32} (h : q_roB c = some a) : c ≠ 1030 ∧ va_T .byte (q_ad av c) a.length (fun j => .int (a.getD j 0)) A U U.heap := by
  obtain ⟨-, -, -, -, -, -, -, t1, -⟩ := hfx
  unfold q_roB at h
  split at h
  · rename_i hc
    refine ⟨by omega, ?_⟩
    have h2 := (t1.1 (c - 1020) (by omega)).2.2.2
    have e1 : qsby.getD (c - 1020) [] = a := by rw [List.getD_eq_getElem?_getD, h]; rfl
    rw [e1, q_sb _ (by omega), e1] at h2
    dsimp only at h2
    rw [show 1020 + (c - 1020) = c by omega] at h2
    exact h2
  · cases h
theorem q_sp {z : Nat} (h : 1010 ≤ z ∧ z < 1016) : ∃ i : Nat, i < 6 ∧ z = 1010 + i := ⟨z - 1010, by omega, by omega⟩
theorem q_n1 {i : Nat} (h : i < 6) : 1010 + i ≠ 1030 := by omega
theorem q_n2 {i : Nat} (h : i < 6) : 1020 + i ≠ 1030 := by omega
theorem q_n3 {i : Nat} : 1010 + i + 10 = 1020 + i := by omega
theorem qac_ok : ∀ e ∈ qct, e.2.1 = 5 → q_wi (.methodLink (q_cn e.1.1) e.1.2 arraycopyName) = true := by decide +kernel
theorem qac_w : q_wi (.native arraycopyName) = true ∧ q_wi (.static arraycopyName) = true ∧ q_wi (.initialized "java/lang/System") = true := by decide +kernel
set_option maxHeartbeats 4000000 in
theorem q_simM (hav : q_AV av) (hwf : q_wf sh) (hx : p.tables.exec = Jvm.exec) (hb : c.code = cc) {o : Nat} (hown : s.vm.findClass (q_cn o) = some m.cls) (hts : ∀ w ∈ q_tbl, w.before args s = true) (hfx : q_Fx A av s) (hml : c.maxLocals = nL) {i : Instr} {len pc pc2 : Nat} {LS : Array Slot} {ls : QL} {st st2 : List Value} {V V2 : QV} (hdg : decode cc pc = .ok (i, len)) (hL : q_LR av LS nL ls) (hR : q_R A av ca D sh V s H) (hS : va_S A s.heap H locs) (hfr : 1 ≤ R.frames) (hlo : 60 ≤ R.locals) (h : q_m sh o i len pc st V = some (pc2, st2, V2)) (k : ∀ H1 locs1, q_R A av ca D sh V2 s H1 → va_S A s.heap H1 locs1 → W p l e R s m args below meth c H1 locs1 cells slots Q (F0 m pc2 LS (st2.map (q_lf av)))) : W p l e R s m args below meth c H locs cells slots Q (F0 m pc LS (st.map (q_lf av))) := by
  obtain ⟨hP, hD, hK⟩ := id hR
  have nm : ∀ {z : Nat} {w : Nat × Nat}, sh[z]? = some w → z ≠ 1030 := fun {z w} hz => by
    have h1 := (q_getD hz).1
    have h2 := hwf.1
    omega
  have rf : ∀ {z : Nat} {w : Nat × Nat}, sh[z]? = some w → q_lf av (.ref z) = .ref (q_ad av z) := fun hz => hav.ad (nm hz)
  cases i with
  | getfield x =>
    simp only [q_m] at h
    split at h
    · rename_i z r
      split at h
      · rename_i kk ne hf
        split at h
        · rename_i v hv
          split at h
          · rename_i hn
            obtain ⟨rfl, -⟩ := hn
            cases h
            obtain ⟨rfl, hw⟩ := q_fldS hf
            have hz : 1010 ≤ z ∧ z < 1016 := by
              unfold q_roF at hv
              split at hv
              · assumption
              · cases hv
            obtain ⟨i, hi, rfl⟩ := q_sp hz
            obtain ⟨-, -, -, -, -, -, -, t1, -⟩ := id hfx
            obtain ⟨-, o1, o2, -⟩ := t1.1 i hi
            have e0 : q_lf av (.ref (1010 + i)) = .ref (q_ad av (1010 + i)) := hav.ad (q_n1 hi)
            rw [List.map_cons, e0]
            by_cases hk : kk = 0
            · rw [if_pos hk] at hw
              have ev : v = .ref (1010 + i + 10) := by
                unfold q_roF at hv; rw [if_pos hz, if_pos hk] at hv; exact (Option.some.inj hv).symm
              subst ev
              refine vk_getf hx hb o2 hS hown (hts _ hw) (fun _ h => h) hdg ?_
              have h1 := k H locs hR hS
              rw [List.map_cons, show q_lf av (.ref (1010 + i + 10)) = .ref (q_ad av (1020 + i)) from by rw [q_n3]; exact hav.ad (q_n2 hi)] at h1
              exact h1
            · rw [if_neg hk] at hw
              have ev : v = .int 0 := by
                unfold q_roF at hv; rw [if_pos hz, if_neg hk] at hv; exact (Option.some.inj hv).symm
              subst ev
              exact vk_getf hx hb o1 hS hown (hts _ hw) (fun _ h => h) hdg (k H locs hR hS)
          · cases h
        · cases h
      · rename_i ci kk ne hne hf
        split at h
        · rename_i ci' n0 hs
          split at h
          · rename_i hn
            obtain ⟨rfl, rfl, hkf⟩ := hn
            cases h
            unfold q_kf at hkf
            split at hkf
            · rename_i q hq
              have hk := of_decide_eq_true hkf
              have hc100 : ci' < 100 := by
                have h1 := (List.getElem?_eq_some_iff.mp hq).1
                have h2 : vwCl.length ≤ 100 := by decide
                omega
              obtain ⟨q', hq', hN⟩ := hwf.2 z ci' n0 hs hc100
              cases hq.symm.trans hq'
              have hat := q_ws_at (av := av) (ca := ca) (V := V) hs
              have he : q_e av ca V z (ci', n0) = .inr (ci', q_fs av V z ci' n0) := by unfold q_e; rw [if_pos hc100]
              rw [he] at hat
              have hv : (q_fs av V z ci' n0)[kk]? = some (q_lf av (q_rd V z kk (q_tyf ci' kk))) := q_fs_at (by omega)
              rw [List.map_cons, rf hs]
              have hin : ∀ w ∈ u_ws q.1 q.2.1 q.2.2, w ∈ q_tbl := fun w hw => List.mem_filter.mpr (qinX ci' q hq w hw)
              rcases q_fld hf hq with ⟨-, hw⟩ | ⟨-, hw⟩
              · exact va_get (C := q.1) (T := q.2.1) (N := q.2.2) hx hb hts hin hown hK hP z hat hq kk hk (hts _ hw) (fun _ h => h) hv hdg (k H locs hR hS)
              · exact va_getN (C := q.1) (T := q.2.1) (N := q.2.2) hx hb hts hin hown hK hP z hat hq kk hk (va_Nw.use rfl (hfx.1 _ hw)) (fun _ h => h) hv hdg (k H locs hR hS)
            · cases hkf
          · cases h
        · cases h
      · cases h
    · cases h
  | putfield x =>
    simp only [q_m] at h
    split at h
    · rename_i v z r
      split at h
      · rename_i ci kk ne hf
        split at h
        · rename_i ci' n0 hs
          split at h
          · rename_i hn
            obtain ⟨rfl, rfl, hnf⟩ := hn
            split at h
            · rename_i V' hwr
              cases h
              unfold q_nf at hnf
              split at hnf
              · rename_i q hq
                rw [Bool.and_eq_true] at hnf
                have hk := of_decide_eq_true hnf.1
                have hfin : (q.2.1 kk).2.2.2 = false := by simpa using hnf.2
                have hc100 : ci' < 100 := by
                  have h1 := (List.getElem?_eq_some_iff.mp hq).1
                  have h2 : vwCl.length ≤ 100 := by decide
                  omega
                obtain ⟨q', hq', hN⟩ := hwf.2 z ci' n0 hs hc100
                cases hq.symm.trans hq'
                have he : ∀ V, q_e av ca V z (ci', n0) = .inr (ci', q_fs av V z ci' n0) := fun V => by unfold q_e; rw [if_pos hc100]
                have hat := q_ws_at (av := av) (ca := ca) (V := V) hs
                rw [he] at hat
                obtain ⟨w1, w2, w3, w4⟩ := q_wr_spec hav (N := n0) hwr (by omega)
                have hin : ∀ w ∈ u_ws q.1 q.2.1 q.2.2, w ∈ q_tbl := fun w hw => List.mem_filter.mpr (qinX ci' q hq w hw)
                have hset := q_ws_set (av := av) (ca := ca) (V := V) (V' := V2) hs w3
                rw [he, w4] at hset
                rw [List.map_cons, List.map_cons, rf hs]
                rcases q_fld hf hq with ⟨-, hw⟩ | ⟨-, hw⟩
                · refine va_put (C := q.1) (T := q.2.1) (N := q.2.2) hx hb hts hin (q_tyf ci') (qtyX ci' q hq) (qnmX ci' q hq) hown hK hP hD hS z hat hq kk hk (hts _ hw) (fun _ h => h) hfin (qtyX ci' q hq kk hk) w1 w2 (by rw [q_fs_len]; omega) hdg (fun H1 locs1 hP1 hD1 hS1 => ?_)
                  rw [hset] at hP1 hD1
                  exact k H1 locs1 ⟨hP1, hD1, hK⟩ hS1
                · refine va_putN (C := q.1) (T := q.2.1) (N := q.2.2) hx hb hts hin (q_tyf ci') (qtyX ci' q hq) (qnmX ci' q hq) hown hK hP hD hS z hat hq kk hk (va_Nw.use rfl (hfx.1 _ hw)) (fun _ h => h) hfin (qtyX ci' q hq kk hk) w1 w2 (by rw [q_fs_len]; omega) hdg (fun H1 locs1 hP1 hD1 hS1 => ?_)
                  rw [hset] at hP1 hD1
                  exact k H1 locs1 ⟨hP1, hD1, hK⟩ hS1
              · cases hnf
            · cases h
          · cases h
        · cases h
      · cases h
    · cases h
  | getstatic x =>
    simp only [q_m] at h
    split at h
    · rename_i v hv
      split at h
      · rename_i hn
        subst hn
        cases h
        obtain ⟨C, n, d, hZ, hw⟩ := q_stat hfx hv
        exact va_gets hx hb hZ hS hown (hts _ hw) (fun _ h => h) hdg (k H locs hR hS)
      · cases h
    · cases h
  | iaload =>
    simp only [q_m] at h
    split at h
    · rename_i j z r
      split at h
      · rename_i n0 hs
        split at h
        · rename_i hn
          obtain ⟨rfl, hj⟩ := hn
          cases h
          rw [List.map_cons, List.map_cons, rf hs]
          obtain ⟨t0, ht⟩ := q_tys_at (ca := ca) hs (by decide)
          exact va_iald hx hb hK hP z t0 (q_ws_at hs) ht (q_vin hj) hdg (k H locs hR hS)
        · cases h
      · cases h
      · split at h
        · rename_i a ha
          split at h
          · rename_i hn
            obtain ⟨rfl, hj⟩ := hn
            cases h
            obtain ⟨e1, e2, hT⟩ := q_roI_T hfx ha
            rw [e1] at hj
            rw [List.map_cons, List.map_cons, show q_lf av (.ref z) = .ref (q_ad av z) from hav.ad e2]
            exact va_ti hx hb hT hS (q_vin hj) rfl hdg (k H locs hR hS)
          · cases h
        · cases h
    · cases h
  | baload =>
    simp only [q_m] at h
    split at h
    · rename_i j z r
      split at h
      · rename_i n0 hs
        split at h
        · rename_i hn
          obtain ⟨rfl, hj⟩ := hn
          cases h
          rw [List.map_cons, List.map_cons, rf hs]
          obtain ⟨t0, ht⟩ := q_tys_at (ca := ca) hs (by decide)
          exact va_bald hx hb hK hP z t0 (q_ws_at hs) ht (q_vin hj) hdg (k H locs hR hS)
        · cases h
      · rename_i n0 hs
        split at h
        · rename_i hn
          obtain ⟨rfl, hj⟩ := hn
          cases h
          rw [List.map_cons, List.map_cons, rf hs]
          obtain ⟨t0, ht⟩ := q_tys_at (ca := ca) hs (by decide)
          exact va_zald hx hb hK hP z t0 (q_ws_at hs) ht (q_vin hj) hdg (k H locs hR hS)
        · cases h
      · cases h
      · split at h
        · rename_i a ha
          split at h
          · rename_i hn
            obtain ⟨rfl, hj⟩ := hn
            cases h
            obtain ⟨e2, hT⟩ := q_roB_T hfx ha
            rw [List.map_cons, List.map_cons, show q_lf av (.ref z) = .ref (q_ad av z) from hav.ad e2]
            exact va_tb hx hb hT hS (q_vin hj) rfl hdg (k H locs hR hS)
          · cases h
        · cases h
    · cases h
  | aaload =>
    simp only [q_m] at h
    split at h
    · rename_i j z r
      split at h
      · rename_i n0 hs
        split at h
        · rename_i a ha
          split at h
          · rename_i hn
            obtain ⟨rfl, hj, ha2⟩ := hn
            cases h
            rw [List.map_cons, List.map_cons, rf hs]
            obtain ⟨t0, ht⟩ := q_tys_at (ca := ca) hs (by decide)
            refine va_aldq (C := "StraightTax$Walk") hx hb hK hP z t0 (q_ws_at hs) ht (q_vin hj) hdg ?_
            have h1 := k H locs hR hS
            rw [List.map_cons, show q_lf av (.ref a) = .ref (q_ad av a) from hav.ad (fun z => absurd ha2 (by rw [z]; decide))] at h1
            show W _ _ _ _ _ _ _ _ _ _ _ _ _ _ _ (F0 m (pc + 1) LS (va_rf ((V.2.2 z (q_ix j)).map (q_ad av)) :: _))
            rw [ha]
            exact h1
          · cases h
        · cases h
      · rename_i n0 hs
        split at h
        · rename_i a ha
          split at h
          · rename_i hn
            obtain ⟨rfl, hj, ha2⟩ := hn
            cases h
            rw [List.map_cons, List.map_cons, rf hs]
            obtain ⟨t0, ht⟩ := q_tys_at (ca := ca) hs (by decide)
            refine va_aldq (C := "StraightTax$Walker") hx hb hK hP z t0 (q_ws_at hs) ht (q_vin hj) hdg ?_
            have h1 := k H locs hR hS
            rw [List.map_cons, show q_lf av (.ref a) = .ref (q_ad av a) from hav.ad (fun z => absurd ha2 (by rw [z]; decide))] at h1
            show W _ _ _ _ _ _ _ _ _ _ _ _ _ _ _ (F0 m (pc + 1) LS (va_rf ((V.2.2 z (q_ix j)).map (q_ad av)) :: _))
            rw [ha]
            exact h1
          · cases h
        · cases h
      · cases h
    · cases h
  | iastore =>
    simp only [q_m] at h
    split at h
    · rename_i v j z r
      split at h
      · rename_i n0 hs
        split at h
        · rename_i hn
          obtain ⟨rfl, hj⟩ := hn
          cases h
          rw [List.map_cons, List.map_cons, List.map_cons, rf hs]
          obtain ⟨t0, ht⟩ := q_tys_at (ca := ca) hs (by decide)
          refine va_iast hx hb hK hP hD hS z t0 (q_ws_at hs) ht (q_vin hj) hdg (fun H1 locs1 hP1 hD1 hS1 => ?_)
          have hset := q_ws_set (av := av) (ca := ca) (V := V) (V' := q_uI V z (q_ix j) v) hs (fun c' hc => ⟨q_up_c hc, rfl, rfl⟩)
          have he : q_e av ca (q_uI V z (q_ix j) v) z (100, n0) = .inl (ca z, n0, .inl (upd (V.1 z) j.toNatClampNeg v)) := by
            show (Sum.inl (ca z, n0, Sum.inl (q_up V.1 z (q_ix j) v z)) : va_E) = _
            rw [q_up_upd]; rfl
          rw [he] at hset
          rw [hset] at hP1 hD1
          exact k H1 locs1 ⟨hP1, hD1, hK⟩ hS1
        · cases h
      · cases h
    · cases h
  | bastore =>
    simp only [q_m] at h
    split at h
    · rename_i v j z r
      split at h
      · rename_i n0 hs
        split at h
        · rename_i hn
          obtain ⟨rfl, hj⟩ := hn
          cases h
          rw [List.map_cons, List.map_cons, List.map_cons, rf hs]
          obtain ⟨t0, ht⟩ := q_tys_at (ca := ca) hs (by decide)
          refine va_bast hx hb hK hP hD hS z t0 (q_ws_at hs) ht (q_vin hj) hdg (fun H1 locs1 hP1 hD1 hS1 => ?_)
          have hset := q_ws_set (av := av) (ca := ca) (V := V) (V' := q_uI V z (q_ix j) v.toInt8.toInt32) hs (fun c' hc => ⟨q_up_c hc, rfl, rfl⟩)
          have he : q_e av ca (q_uI V z (q_ix j) v.toInt8.toInt32) z (101, n0) = .inl (ca z, n0, .inl (upd (V.1 z) j.toNatClampNeg (vp_nar .byte v))) := by
            show (Sum.inl (ca z, n0, Sum.inl (q_up V.1 z (q_ix j) v.toInt8.toInt32 z)) : va_E) = _
            rw [q_up_upd, vp_nar_byte]; rfl
          rw [he] at hset
          rw [hset] at hP1 hD1
          exact k H1 locs1 ⟨hP1, hD1, hK⟩ hS1
        · cases h
      · rename_i n0 hs
        split at h
        · rename_i hn
          obtain ⟨rfl, hj, hv⟩ := hn
          cases h
          rw [List.map_cons, List.map_cons, List.map_cons, rf hs]
          obtain ⟨t0, ht⟩ := q_tys_at (ca := ca) hs (by decide)
          refine va_zast hx hb hK hP hD hS z t0 (q_ws_at hs) ht (q_vin hj) hdg (fun H1 locs1 hP1 hD1 hS1 => ?_)
          have hset := q_ws_set (av := av) (ca := ca) (V := V) (V' := q_uI V z (q_ix j) v) hs (fun c' hc => ⟨q_up_c hc, rfl, rfl⟩)
          have he : q_e av ca (q_uI V z (q_ix j) v) z (102, n0) = .inl (ca z, n0, .inl (upd (V.1 z) j.toNatClampNeg (vp_nar .boolean v))) := by
            show (Sum.inl (ca z, n0, Sum.inl (q_up V.1 z (q_ix j) v z)) : va_E) = _
            rw [q_up_upd, show vp_nar .boolean v = v from by rcases hv with rfl | rfl <;> rfl]; rfl
          rw [he] at hset
          rw [hset] at hP1 hD1
          exact k H1 locs1 ⟨hP1, hD1, hK⟩ hS1
        · cases h
      · cases h
    · cases h
  | arraylength =>
    simp only [q_m] at h
    split at h
    · rename_i z r
      split at h
      · rename_i k0 n0 hs
        split at h
        · rename_i hn
          obtain ⟨rfl, rfl⟩ := hn
          cases h
          rw [List.map_cons, rf hs]
          obtain ⟨t0, ht⟩ := q_tys_at (ca := ca) hs (by decide)
          exact va_alen (x := (n0, .inl (V.1 z))) hx hb hK hP z t0 (q_ws_at hs) ht rfl hdg (k H locs hR hS)
        · cases h
      · split at h
        · rename_i a ha
          split at h
          · rename_i hn
            subst hn
            cases h
            obtain ⟨e2, hT⟩ := q_roB_T hfx ha
            rw [List.map_cons, show q_lf av (.ref z) = .ref (q_ad av z) from hav.ad e2]
            exact va_tlen hx hb hT hS rfl hdg (k H locs hR hS)
          · cases h
        · cases h
    · cases h
  | invokestatic x =>
    simp only [q_m] at h
    split at h
    · rename_i jj hc
      split at h
      · rename_i mm dp c1 sp c0 r
        split at h
        · rename_i z0 z1 hs0 hs1
          split at h
          · rename_i hn
            obtain ⟨rfl, n1, n2, n3, n4, n5, n6⟩ := hn
            cases h
            have hw := q_wi_in (qac_ok _ (q_lk_mem hc) rfl)
            obtain ⟨w1, w2, w3⟩ := qac_w
            rw [List.map_cons, List.map_cons, List.map_cons, List.map_cons, List.map_cons, rf hs0, rf hs1]
            obtain ⟨t0, ht0⟩ := q_tys_at (ca := ca) hs0 (by decide)
            obtain ⟨t1, ht1⟩ := q_tys_at (ca := ca) hs1 (by decide)
            have ng : ∀ {y : Int32}, 0 ≤ y.toInt → ¬ y < 0 := fun {y} h1 h2 => by
              rw [Int32.lt_iff_toInt_lt] at h2
              have : (0 : Int32).toInt = 0 := rfl
              omega
            refine va_copyi hx hb (hml.trans hL.2.1.symm) hown (hts _ hw) (hts _ (q_wi_in w1)) (hts _ (q_wi_in w2)) (hts _ (q_wi_in w3)) hK hP hD hS c0 c1 t0 t1 (q_ws_at hs0) (q_ws_at hs1) ht0 ht1 rfl (ng n1) (ng n2) (ng n3) n4 n5 (fun i hi => rfl) hfr ?_ hdg (fun H1 locs1 hP1 hD1 hS1 => ?_)
            · rw [hav.sum]
              have : nativeFrameWords "java/lang/System" "arraycopy" 5 = 7 := by decide
              omega
            · have hset := q_ws_set (av := av) (ca := ca) (V := V) (V' := (q_cp V.1 c0 c1 (q_ix sp) (q_ix dp) (q_ix mm), V.2)) hs1 (fun c' hc' => ⟨by funext kk; simp only [q_cp, if_neg hc'], rfl, rfl⟩)
              have he : q_e av ca (q_cp V.1 c0 c1 (q_ix sp) (q_ix dp) (q_ix mm), V.2) c1 (100, z1) = .inl (ca c1, z1, .inl (va_cpy (V.1 c0) (V.1 c1) sp.toNatClampNeg dp.toNatClampNeg mm.toNatClampNeg)) := by
                show (Sum.inl (ca c1, z1, Sum.inl (q_cp V.1 c0 c1 (q_ix sp) (q_ix dp) (q_ix mm) c1)) : va_E) = _
                rw [show q_cp V.1 c0 c1 (q_ix sp) (q_ix dp) (q_ix mm) c1 = va_cpy (V.1 c0) (V.1 c1) (q_ix sp) (q_ix dp) (q_ix mm) from by funext kk; simp [q_cp]]; rfl
              rw [he] at hset
              rw [hset] at hP1 hD1
              exact k H1 locs1 ⟨hP1, hD1, hK⟩ hS1
          · cases h
        · cases h
      · cases h
    · cases h
  | _ => cases h
end QM
