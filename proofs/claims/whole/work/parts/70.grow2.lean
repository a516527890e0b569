/-! GROWTH, 2: new, arrays, final fields, constructors -/
section NH
variable {p : Program} {l : Launch} {e : Env} {R : Room} {s : State} {m : MethodId} {args : Array Value} {below : List Frame} {meth : Method} {c : Code} {Q : State → Prop} {A : Nat → Prop} {D : va_G} {o nL : Nat} {cc : ByteArray} {av av0 : Nat → Value} {ca : Nat → ClassId} {sh : QH} {ls : QL} {st : List Value} {S : QS} {pc cells slots n0 : Nat}
theorem map_x {n q : Nat} (h : st.all (okv n) = true) : st.map (q_lf (axt av n q)) = st.map (q_lf av) := List.map_congr_left (fun v hv => q_lf_x (List.all_eq_true.mp h v hv))
theorem q_dv {ty : FieldType} {n k : Nat} (h : q_dt ty = true) (hF : Fr n S) : defaultValue ty = q_lf av (q_rd (vv S) n k ty) := by
  obtain ⟨h1, h2, h3⟩ := hF.2 n (Nat.le_refl n) k
  have e1 : (vv S).1 n k = 0 := by show J (S.1 n k) = 0; rw [h1]; rfl
  have e2 : (vv S).2.1 n k = 0 := h2
  have e3 : (vv S).2.2 n k = none := h3
  cases ty with
  | int => show Value.int 0 = Value.int ((vv S).1 n k); rw [e1]
  | boolean => show Value.int 0 = Value.int ((vv S).1 n k); rw [e1]
  | long => show Value.long 0 = Value.long ((vv S).2.1 n k); rw [e2]
  | object u => show Value.null = q_lf av (q_rf ((vv S).2.2 n k)); rw [e3]; rfl
  | array u => show Value.null = q_lf av (q_rf ((vv S).2.2 n k)); rw [e3]; rfl
  | _ => cases h
theorem n_new (C : NC p R s m args meth c A o cc nL) {x ci : Nat} {r : vw_C} (hdg : decode cc pc = .ok (.new x, 3)) (hq : vwCl[ci]? = some r) (hcl : Cond.classLink (q_cn o) x r.1 ∈ q_tbl) (hinst : Cond.instantiable r.1 r.2.2 ∈ q_tbl) (hini : Cond.initialized r.1 ∈ q_tbl) (hn : sh.length < 1000) (hst : st.all (okv sh.length) = true) (hls : ls.all (okl sh.length) = true) (hce : cells + 1 ≤ R.cells) (hsl : slots + r.2.2 ≤ R.slots) (k : ∀ q, NW p l e R s m args below meth c Q A D nL n0 av0 (axt av sh.length q) ca (sh ++ [(ci, r.2.2)]) ls (.ref sh.length :: st) S (pc + 3) (cells + 1) (slots + r.2.2)) : NW p l e R s m args below meth c Q A D nL n0 av0 av ca sh ls st S pc cells slots := by
  intro H locs LS hxt hav hwf hF hfx hR hS hL
  obtain ⟨hx, hb, hml, hown, hts, hA, hfr, hlo, hin, hfy⟩ := C
  obtain ⟨hP, hD, hK⟩ := hR
  have hc100 : ci < 100 := by
    have h1 := (List.getElem?_eq_some_iff.mp hq).1
    have h2 : vwCl.length ≤ 100 := by decide
    omega
  have hinw : ∀ w ∈ u_ws r.1 r.2.1 r.2.2, w ∈ q_tbl := fun w hw => List.mem_filter.mpr (qinX ci r hq w hw)
  refine va_new (C := r.1) (T := r.2.1) (N := r.2.2) (ci := ci) hx hb hts hinw (q_tyf ci) (qtyX ci r hq) hown (hts _ hcl) (hts _ hinst) (hts _ hini) hK hP hD hS hA hq (fs := q_fs av (vv S) sh.length ci r.2.2) ?_ hce hsl hdg (fun q H1 hP1 hD1 hS1 => ?_)
  · intro j hj
    unfold vp_V
    rw [List.getD_eq_getElem?_getD, q_fs_at hj]
    exact q_dv (q_dtX ci r hq j hj) hF
  · have hw : q_ws (axt av sh.length q) ca (sh ++ [(ci, r.2.2)]) (vv S) = q_ws av ca sh (vv S) ++ [(q, .inr (ci, q_fs av (vv S) sh.length ci r.2.2))] := by
      rw [q_ws_x hF (fun _ _ => rfl)]
      unfold q_e
      rw [if_pos hc100, q_fs_x hF]
    have hk := k q H1 locs LS ⟨by rw [List.length_append]; omega, hxt.2.tr (q_xt.up hn) hxt.1⟩ (q_AV_x hav hn) (q_wf_x hwf hn (fun _ => ⟨r, hq, rfl⟩)) (by rw [List.length_append, List.length_singleton]; exact hF.mono) (hfx.xt (q_xt.up hn)) ⟨by rw [hw]; exact hP1, by rw [hw]; exact hD1, by rw [q_tys_x (ca := ca) (fun _ _ => rfl), if_neg (by dsimp only; omega), List.append_nil]; exact hK⟩ hS1 (q_LR_x hL hls)
    rw [List.map_cons, map_x hst, show q_lf (axt av sh.length q) (.ref sh.length) = .ref q from if_pos rfl] at hk
    exact hk
def cxt (ca : Nat → ClassId) (n : Nat) (cA : ClassId) : Nat → ClassId := fun c => if c = n then cA else ca c
theorem n_newa (C : NC p R s m args meth c A o cc nL) {atype : ArrayType} {kd N : Nat} {n : Int32} (hdg : decode cc pc = .ok (.newarray atype, 2)) (harr : Cond.arrayClass (newarray.typeOf atype) ∈ q_tbl) (hkd : (kd = 100 ∧ newarray.typeOf atype = .int) ∨ (kd = 101 ∧ newarray.typeOf atype = .byte) ∨ (kd = 102 ∧ newarray.typeOf atype = .boolean)) (hneg : ¬ n < 0) (hN : n.toNatClampNeg = N) (hb0 : N * componentBytes (newarray.typeOf atype) ≤ 536870912) (hn : sh.length < 1000) (hst : st.all (okv sh.length) = true) (hls : ls.all (okl sh.length) = true) (hce : cells + 1 ≤ R.cells) (hsl : slots + N ≤ R.slots) (k : ∀ q cA, NW p l e R s m args below meth c Q A D nL n0 av0 (axt av sh.length q) (cxt ca sh.length cA) (sh ++ [(kd, N)]) ls (.ref sh.length :: st) S (pc + 2) (cells + 1) (slots + N)) : NW p l e R s m args below meth c Q A D nL n0 av0 av ca sh ls (.int n :: st) S pc cells slots := by
  intro H locs LS hxt hav hwf hF hfx hR hS hL
  obtain ⟨hx, hb, hml, hown, hts, hA, hfr, hlo, hin, hfy⟩ := C
  obtain ⟨hP, hD, hK⟩ := hR
  have ez : (vv S).1 sh.length = fun _ => 0 := by
    funext j
    show J (S.1 sh.length j) = 0
    rw [(hF.2 sh.length (Nat.le_refl _) j).1]
    rfl
  have hca : ∀ cA c', c' < sh.length → cxt ca sh.length cA c' = ca c' := fun cA c' h => if_neg (by omega)
  rw [List.map_cons]
  refine va_newa (ty := newarray.typeOf atype) hx hb (hts _ harr) rfl hK hP hD hS hA (a0 := (N, .inl ((vv S).1 sh.length))) ?_ hneg hN hb0 hce hsl hdg (fun q cA H1 hK1 hP1 hD1 hS1 => ?_)
  · intro cA
    rw [ez]
    rcases hkd with ⟨-, h⟩ | ⟨-, h⟩ | ⟨-, h⟩ <;> rw [h] <;> rfl
  · have hw : q_ws (axt av sh.length q) (cxt ca sh.length cA) (sh ++ [(kd, N)]) (vv S) = q_ws av ca sh (vv S) ++ [(q, .inl (cA, N, .inl ((vv S).1 sh.length)))] := by
      rw [q_ws_x hF (hca cA)]
      unfold q_e
      rw [if_neg (by dsimp only; omega), if_pos (by dsimp only; omega), show cxt ca sh.length cA sh.length = cA from if_pos rfl]
    have ht : q_elt kd = newarray.typeOf atype := by
      rcases hkd with ⟨rfl, h⟩ | ⟨rfl, h⟩ | ⟨rfl, h⟩ <;> rw [h] <;> rfl
    have hk := k q cA H1 locs LS ⟨by rw [List.length_append]; omega, hxt.2.tr (q_xt.up hn) hxt.1⟩ (q_AV_x hav hn) (q_wf_x hwf hn (fun h => by dsimp only at h; omega)) (by rw [List.length_append, List.length_singleton]; exact hF.mono) (hfx.xt (q_xt.up hn)) ⟨by rw [hw]; exact hP1, by rw [hw]; exact hD1, by rw [q_tys_x (hca cA), if_pos (by dsimp only; omega), show cxt ca sh.length cA sh.length = cA from if_pos rfl, ht]; exact hK1⟩ hS1 (q_LR_x hL hls)
    rw [List.map_cons, map_x hst, show q_lf (axt av sh.length q) (.ref sh.length) = .ref q from if_pos rfl] at hk
    exact hk
theorem n_newq (C : NC p R s m args meth c A o cc nL) {x kd N : Nat} {n : Int32} {E : String} (hdg : decode cc pc = .ok (.anewarray x, 3)) (hcl : Cond.classLink (q_cn o) x E ∈ q_tbl) (hao : va_AO E s) (hkd : (kd = 103 ∧ E = "StraightTax$Walk") ∨ (kd = 104 ∧ E = "StraightTax$Walker")) (hneg : ¬ n < 0) (hN : n.toNatClampNeg = N) (hb0 : N * 4 ≤ 536870912) (hn : sh.length < 1000) (hst : st.all (okv sh.length) = true) (hls : ls.all (okl sh.length) = true) (hce : cells + 1 ≤ R.cells) (hsl : slots + N ≤ R.slots) (k : ∀ q cA, NW p l e R s m args below meth c Q A D nL n0 av0 (axt av sh.length q) (cxt ca sh.length cA) (sh ++ [(kd, N)]) ls (.ref sh.length :: st) S (pc + 3) (cells + 1) (slots + N)) : NW p l e R s m args below meth c Q A D nL n0 av0 av ca sh ls (.int n :: st) S pc cells slots := by
  intro H locs LS hxt hav hwf hF hfx hR hS hL
  obtain ⟨hx, hb, hml, hown, hts, hA, hfr, hlo, hin, hfy⟩ := C
  obtain ⟨hP, hD, hK⟩ := hR
  have hca : ∀ cA c', c' < sh.length → cxt ca sh.length cA c' = ca c' := fun cA c' h => if_neg (by omega)
  rw [List.map_cons]
  refine va_newq hx hb hown (hts _ hcl) hao hK hP hD hS hA hneg hN hb0 hce hsl hdg (fun q cA H1 hK1 hP1 hD1 hS1 => ?_)
  have ez : (fun k => ((vv S).2.2 sh.length k).map (q_ad (axt av sh.length q))) = fun _ => none := by
    funext j
    show (S.2.2 sh.length j).map _ = none
    rw [(hF.2 sh.length (Nat.le_refl _) j).2.2]
    rfl
  have hw : q_ws (axt av sh.length q) (cxt ca sh.length cA) (sh ++ [(kd, N)]) (vv S) = q_ws av ca sh (vv S) ++ [(q, .inl (cA, N, .inr (.inr (.inr (.inr (fun _ => none))))))] := by
    rw [q_ws_x hF (hca cA)]
    unfold q_e
    rw [if_neg (by dsimp only; omega), if_neg (by dsimp only; omega), show cxt ca sh.length cA sh.length = cA from if_pos rfl, ez]
  have ht : q_elt kd = .object E := by
    rcases hkd with ⟨rfl, h⟩ | ⟨rfl, h⟩ <;> rw [h] <;> rfl
  have hk := k q cA H1 locs LS ⟨by rw [List.length_append]; omega, hxt.2.tr (q_xt.up hn) hxt.1⟩ (q_AV_x hav hn) (q_wf_x hwf hn (fun h => by dsimp only at h; omega)) (by rw [List.length_append, List.length_singleton]; exact hF.mono) (hfx.xt (q_xt.up hn)) ⟨by rw [hw]; exact hP1, by rw [hw]; exact hD1, by rw [q_tys_x (hca cA), if_pos (by dsimp only; omega), show cxt ca sh.length cA sh.length = cA from if_pos rfl, ht]; exact hK1⟩ hS1 (q_LR_x hL hls)
  rw [List.map_cons, map_x hst, show q_lf (axt av sh.length q) (.ref sh.length) = .ref q from if_pos rfl] at hk
  exact hk
/-- a final field of its own class, in a constructor -/
theorem n_putF (C : NC p R s m args meth c A o cc nL) {x c0 ci f n a : Nat} {r : vw_C} (hdg : decode cc pc = .ok (.putfield x, 3)) (hf : q_lk qft o x = some (ci, f, 0)) (hs : sh[c0]? = some (ci, n)) (hq : vwCl[ci]? = some r) (hk : f < r.2.2) (hfin : (r.2.1 f).2.2.2 = true) (hdecl : (r.2.1 f).1 = q_cn o) (ht : (∃ u, q_tyf ci f = .object u) ∨ ∃ u, q_tyf ci f = .array u) (ha : a < sh.length) (h1000 : sh.length ≤ 1000) (kk : NW p l e R s m args below meth c Q A D nL n0 av0 av ca sh ls st (S.1, S.2.1, q_up S.2.2 c0 f (some a)) (pc + 3) cells slots) : NW p l e R s m args below meth c Q A D nL n0 av0 av ca sh ls (.ref a :: .ref c0 :: st) S pc cells slots := by
  intro H locs LS hxt hav hwf hF hfx hR hS hL
  obtain ⟨hx, hb, hml, hown, hts, hA, hfr, hlo, hin, hfy⟩ := C
  obtain ⟨hP, hD, hK⟩ := hR
  have hc0 := q_sh_lt hs
  have hc100 : ci < 100 := by
    have h1 := (List.getElem?_eq_some_iff.mp hq).1
    have h2 : vwCl.length ≤ 100 := by decide
    omega
  obtain ⟨r', hq', hN⟩ := hwf.2 c0 ci n hs hc100
  cases hq.symm.trans hq'
  have he : ∀ V, q_e av ca V c0 (ci, n) = .inr (ci, q_fs av V c0 ci n) := fun V => by unfold q_e; rw [if_pos hc100]
  have hat := q_ws_at (av := av) (ca := ca) (V := vv S) hs
  rw [he] at hat
  have hinw : ∀ w ∈ u_ws r.1 r.2.1 r.2.2, w ∈ q_tbl := fun w hw => List.mem_filter.mpr (qinX ci r hq w hw)
  have ea : q_lf av (.ref a) = .ref (q_ad av a) := hav.ad (by omega)
  have ec : q_lf av (.ref c0) = .ref (q_ad av c0) := hav.ad (by omega)
  have w4 : q_fs av (vv (S.1, S.2.1, q_up S.2.2 c0 f (some a))) c0 ci n = (q_fs av (vv S) c0 ci n).set f (.ref (q_ad av a)) := by
    refine List.ext_getElem? (fun i => ?_)
    by_cases hi : i = f
    · subst hi
      rw [List.getElem?_set_self (by rw [q_fs_len]; omega), q_fs_at (by omega)]
      have er : (vv (S.1, S.2.1, q_up S.2.2 c0 i (some a))).2.2 c0 i = some a := q_up_s
      rcases ht with ⟨u, ht⟩ | ⟨u, ht⟩
      · rw [ht]
        show some (q_lf av (q_rf ((vv (S.1, S.2.1, q_up S.2.2 c0 i (some a))).2.2 c0 i))) = _
        rw [er]
        exact congrArg some ea
      · rw [ht]
        show some (q_lf av (q_rf ((vv (S.1, S.2.1, q_up S.2.2 c0 i (some a))).2.2 c0 i))) = _
        rw [er]
        exact congrArg some ea
    · rw [List.getElem?_set_ne (Ne.symm hi)]
      rcases Nat.lt_or_ge i n with hl | hl
      · rw [q_fs_at hl, q_fs_at hl]
        have er : ∀ ty, q_rd (vv (S.1, S.2.1, q_up S.2.2 c0 f (some a))) c0 i ty = q_rd (vv S) c0 i ty := by
          intro ty
          have e3 : (vv (S.1, S.2.1, q_up S.2.2 c0 f (some a))).2.2 c0 i = (vv S).2.2 c0 i := q_up_n (by omega)
          unfold q_rd
          rw [e3]
          rfl
        rw [er]
      · rw [List.getElem?_eq_none (by rw [q_fs_len]; exact hl), List.getElem?_eq_none (by rw [q_fs_len]; exact hl)]
  have hset := q_ws_set (av := av) (ca := ca) (V := vv S) (V' := vv (S.1, S.2.1, q_up S.2.2 c0 f (some a))) hs (fun c' hc' => ⟨rfl, rfl, q_up_c hc'⟩)
  rw [he, w4] at hset
  have hlk : Cond.fieldLink (q_cn o) x (r.2.1 f).1 (r.2.1 f).2.1 (r.2.1 f).2.2.1 ∈ q_tbl := by
    rcases q_fld hf hq with ⟨-, hw⟩ | ⟨hne, -⟩
    · exact hw
    · exact absurd rfl hne
  rw [List.map_cons, List.map_cons, ea, ec]
  refine va_putF (C := r.1) (T := r.2.1) (N := r.2.2) hx hb hts hinw (q_tyf ci) (qtyX ci r hq) (qnmX ci r hq) hown hK hP hD hS c0 hat hq f hk (hts _ hlk) (fun _ h => h) hfin hin hdecl (qtyX ci r hq f hk) ?_ ?_ (by rw [q_fs_len]; omega) hdg (fun H1 locs1 hP1 hD1 hS1 => ?_)
  · rcases ht with ⟨u, ht⟩ | ⟨u, ht⟩ <;> rw [ht] <;> rfl
  · rcases ht with ⟨u, ht⟩ | ⟨u, ht⟩ <;> rw [ht] <;> rfl
  · rw [hset] at hP1 hD1
    exact kk H1 locs1 LS hxt hav hwf (hF.upR hc0 ha) hfx ⟨hP1, hD1, hK⟩ hS1 hL
/-- an element of a row of objects -/
theorem n_aast (C : NC p R s m args meth c A o cc nL) {c0 kd n a ci z : Nat} {i : Int} {r : vw_C} (hdg : decode cc pc = .ok (.aastore, 1)) (hs : sh[c0]? = some (kd, n)) (hk : (kd = 103 ∧ r.1 = "StraightTax$Walk") ∨ (kd = 104 ∧ r.1 = "StraightTax$Walker") ∨ (kd = 104 ∧ va_Nw (.castable r.1 "StraightTax$Walker") s)) (hv : sh[a]? = some (ci, z)) (hq : vwCl[ci]? = some r) (hn : (n : Int) < 2147483648) (h0 : 0 ≤ i) (h1 : i < n) (h1000 : sh.length ≤ 1000) (kk : NW p l e R s m args below meth c Q A D nL n0 av0 av ca sh ls st (S.1, S.2.1, q_up S.2.2 c0 i.toNat (some a)) (pc + 1) cells slots) : NW p l e R s m args below meth c Q A D nL n0 av0 av ca sh ls (.ref a :: .int (J i) :: .ref c0 :: st) S pc cells slots := by
  intro H locs LS hxt hav hwf hF hfx hR hS hL
  obtain ⟨hx, hb, hml, hown, hts, hA, hfr, hlo, hin, hfy⟩ := C
  obtain ⟨hP, hD, hK⟩ := hR
  have hc0 := q_sh_lt hs
  have ha := q_sh_lt hv
  have hc100 : ci < 100 := by
    have h1 := (List.getElem?_eq_some_iff.mp hq).1
    have h2 : vwCl.length ≤ 100 := by decide
    omega
  have hkk : kd = 103 ∨ kd = 104 := by omega
  have he : ∀ V, q_e av ca V c0 (kd, n) = .inl (ca c0, n, .inr (.inr (.inr (.inr (fun k => (V.2.2 c0 k).map (q_ad av)))))) := fun V => by unfold q_e; rw [if_neg (by dsimp only; omega), if_neg (by dsimp only; omega)]
  have hat := q_ws_at (av := av) (ca := ca) (V := vv S) hs
  rw [he] at hat
  have hev : q_e av ca (vv S) a (ci, z) = .inr (ci, q_fs av (vv S) a ci z) := by unfold q_e; rw [if_pos hc100]
  have hav2 := q_ws_at (av := av) (ca := ca) (V := vv S) hv
  rw [hev] at hav2
  obtain ⟨t0, ht0⟩ := q_tys_at (ca := ca) hs (by omega)
  have ea : q_lf av (.ref a) = .ref (q_ad av a) := hav.ad (by omega)
  have ec : q_lf av (.ref c0) = .ref (q_ad av c0) := hav.ad (by omega)
  obtain ⟨ix1, ix2⟩ := J_ix h0 h1 hn
  have hix : (J i).toNatClampNeg = i.toNat := ix2
  have hset := q_ws_set (av := av) (ca := ca) (V := vv S) (V' := vv (S.1, S.2.1, q_up S.2.2 c0 i.toNat (some a))) hs (fun c' hc' => ⟨rfl, rfl, q_up_c hc'⟩)
  have ef : (fun k => ((vv (S.1, S.2.1, q_up S.2.2 c0 i.toNat (some a))).2.2 c0 k).map (q_ad av)) = va_up (fun k => ((vv S).2.2 c0 k).map (q_ad av)) (J i).toNatClampNeg (some (q_ad av a)) := by
    funext j
    rw [hix]
    unfold va_up
    by_cases y : j = i.toNat
    · subst y
      show (q_up S.2.2 c0 i.toNat (some a) c0 i.toNat).map (q_ad av) = _
      rw [q_up_s]
      simp
    · show (q_up S.2.2 c0 i.toNat (some a) c0 j).map (q_ad av) = _
      rw [q_up_n (by omega)]
      simp [y]
      rfl
  rw [he, ef] at hset
  rw [List.map_cons, List.map_cons, List.map_cons, ea, ec]
  have fin : ∀ (H1 : Heap) (locs1 : List Loc), va_P D vwCl ((q_ws av ca sh (vv S)).set c0 (q_ad av c0, .inl (ca c0, n, .inr (.inr (.inr (.inr (va_up (fun k => ((vv S).2.2 c0 k).map (q_ad av)) (J i).toNatClampNeg (some (q_ad av a))))))))) H1 → va_D A ((q_ws av ca sh (vv S)).set c0 (q_ad av c0, .inl (ca c0, n, .inr (.inr (.inr (.inr (va_up (fun k => ((vv S).2.2 c0 k).map (q_ad av)) (J i).toNatClampNeg (some (q_ad av a))))))))) → va_S A s.heap H1 locs1 → W p l e R s m args below meth c H1 locs1 cells slots Q (F0 m (pc + 1) LS (st.map (q_lf av))) := by
    intro H1 locs1 hP1 hD1 hS1
    rw [hset] at hP1 hD1
    exact kk H1 locs1 LS hxt hav hwf (hF.upR hc0 ha) hfx ⟨hP1, hD1, hK⟩ hS1 hL
  rcases hk with ⟨rfl, hk⟩ | ⟨rfl, hk⟩ | ⟨rfl, hk⟩
  · exact va_astq hx hb hK hP hD hS c0 t0 a ci hat (by rw [hk]; exact ht0) hav2 hq (q_vin ix1) hdg fin
  · exact va_astq hx hb hK hP hD hS c0 t0 a ci hat (by rw [hk]; exact ht0) hav2 hq (q_vin ix1) hdg fin
  · exact va_astqO hx hb hK hP hD hS c0 t0 a ci hat ht0 hk hav2 hq (q_vin ix1) hdg fin
end NH
