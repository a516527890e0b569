/-! THE SMALL MACHINE IS TRUE TO THE MACHINE, 2: what touches no memory -/
def q_tbl : List Cond := lw_tbl.filter goodWord
def q_ad (av : Nat → Value) (c : Nat) : Nat := match av c with
  | .ref a => a
  | _ => 0
theorem q_AV.ad {av : Nat → Value} (h : q_AV av) {c : Nat} (hc : c ≠ 1030) : av c = .ref (q_ad av c) := by
  obtain ⟨a, ha⟩ := h.1 c hc
  unfold q_ad; rw [ha]
/-- what stands there before the law begins, and the links of nest mates -/
def q_Fx (A : Nat → Prop) (av : Nat → Value) (U : State) : Prop :=
  (∀ w ∈ qnest, va_Nw w U) ∧
  va_Z "StraightTax$Town" "RIGHT" "[I" (av 1000) A U U.heap ∧ va_Z "StraightTax$Town" "DOWN" "[I" (av 1001) A U U.heap ∧
  va_Z "java/lang/String" "COMPACT_STRINGS" "Z" (.int 1) A U U.heap ∧ va_Z "jdk/internal/util/Preconditions" "SIOOBE_FORMATTER" "Ljava/util/function/BiFunction;" (av 1030) A U U.heap ∧
  va_T .int (q_ad av 1000) 4 (fun j => .int (([0, 1, 0, -1] : List Int32).getD j 0)) A U U.heap ∧ va_T .int (q_ad av 1001) 4 (fun j => .int (([-1, 0, 1, 0] : List Int32).getD j 0)) A U U.heap ∧
  vk_S 6 qsln qsby (fun i => q_ad av (1010 + i)) (fun i => q_ad av (1020 + i)) A U U.heap ∧
  ∀ i, i < 6 → vk_R "StraightTax$Text" (qsix.getD i 0) (qstx.getD i "") (q_ad av (1010 + i)) U
def q_wi (w : Cond) : Bool := decide (w ∈ lw_tbl) && goodWord w
theorem q_wi_in {w : Cond} (h : q_wi w = true) : w ∈ q_tbl := by
  unfold q_wi at h
  rw [Bool.and_eq_true, decide_eq_true_iff] at h
  exact List.mem_filter.mpr h
theorem q_lk_mem {α : Type} {t : List ((Nat × Nat) × α)} {o i : Nat} {v : α} (h : q_lk t o i = some v) : ((o, i), v) ∈ t := by
  unfold q_lk at h
  cases hf : t.find? (fun e => e.1.1 == o && e.1.2 == i) with
  | none => rw [hf] at h; cases h
  | some e =>
    rw [hf] at h
    cases h
    have h1 := List.find?_some hf
    rw [Bool.and_eq_true, beq_iff_eq, beq_iff_eq] at h1
    have h2 := List.mem_of_find?_eq_some hf
    obtain ⟨⟨a, b⟩, w⟩ := e
    obtain ⟨rfl, rfl⟩ := h1
    exact h2
def q_cn (o : Nat) : String := qcn.getD o ""
theorem qci_ok : ∀ e ∈ qci, q_wi (.constant (q_cn e.1.1) e.1.2 e.2) = true := by decide +kernel
theorem qcj_ok : ∀ e ∈ qcj, q_wi (.constantLong (q_cn e.1.1) e.1.2 e.2) = true := by decide +kernel
theorem qcs_ok : ∀ e ∈ qcs, q_cn e.1.1 = "StraightTax$Text" ∧ e.2 < 6 ∧ qsix.getD e.2 0 = e.1.2 := by decide +kernel
theorem q_ciw {o x : Nat} {v : Int32} (h : q_lk qci o x = some v) : Cond.constant (q_cn o) x v ∈ q_tbl := by
  have h1 := qci_ok _ (q_lk_mem h)
  exact q_wi_in h1
theorem q_cjw {o x : Nat} {v : Int64} (h : q_lk qcj o x = some v) : Cond.constantLong (q_cn o) x v ∈ q_tbl := by
  have h1 := qcj_ok _ (q_lk_mem h)
  exact q_wi_in h1
theorem q_ldI_spec {k i n pc : Nat} {ls : QL} {st : List Value} {z : QN} (h : q_ldI k i n pc ls st = some z) : ∃ x, q_at ls i = some (.int x) ∧ n = k ∧ z = (pc + k, ls, .int x :: st) := by
  unfold q_ldI at h
  split at h
  · split at h
    · cases h; exact ⟨_, by assumption, by assumption, rfl⟩
    · cases h
  · cases h
theorem q_ldL_spec {k i n pc : Nat} {ls : QL} {st : List Value} {z : QN} (h : q_ldL k i n pc ls st = some z) : ∃ x, q_at ls i = some (.long x) ∧ n = k ∧ z = (pc + k, ls, .long x :: st) := by
  unfold q_ldL at h
  split at h
  · split at h
    · cases h; exact ⟨_, by assumption, by assumption, rfl⟩
    · cases h
  · cases h
theorem q_ldA_spec {k i n pc : Nat} {ls : QL} {st : List Value} {z : QN} (h : q_ldA k i n pc ls st = some z) : ∃ x, q_at ls i = some (.ref x) ∧ n = k ∧ z = (pc + k, ls, .ref x :: st) := by
  unfold q_ldA at h
  split at h
  · split at h
    · cases h; exact ⟨_, by assumption, by assumption, rfl⟩
    · cases h
  · cases h
theorem q_stI_spec {k i n pc : Nat} {ls : QL} {st : List Value} {z : QN} (h : q_stI k i n pc ls st = some z) : ∃ x r, st = .int x :: r ∧ n = k ∧ i < ls.length ∧ z = (pc + k, q_st1 ls i (.int x), r) := by
  unfold q_stI at h
  split at h
  · split at h
    · rename_i hh; cases h; exact ⟨_, _, rfl, hh.1, hh.2, rfl⟩
    · cases h
  · cases h
theorem q_stA_spec {k i n pc : Nat} {ls : QL} {st : List Value} {z : QN} (h : q_stA k i n pc ls st = some z) : ∃ x r, st = .ref x :: r ∧ n = k ∧ i < ls.length ∧ z = (pc + k, q_st1 ls i (.ref x), r) := by
  unfold q_stA at h
  split at h
  · split at h
    · rename_i hh; cases h; exact ⟨_, _, rfl, hh.1, hh.2, rfl⟩
    · cases h
  · cases h
theorem q_stL_spec {k i n pc : Nat} {ls : QL} {st : List Value} {z : QN} (h : q_stL k i n pc ls st = some z) : ∃ x r, st = .long x :: r ∧ n = k ∧ i + 1 < ls.length ∧ z = (pc + k, q_st2 ls i (.long x), r) := by
  unfold q_stL at h
  split at h
  · split at h
    · rename_i hh; cases h; exact ⟨_, _, rfl, hh.1, hh.2, rfl⟩
    · cases h
  · cases h
theorem q_b_spec {f : Int32 → Int32 → Int32} {n pc : Nat} {ls : QL} {st : List Value} {z : QN} (h : q_b f n pc ls st = some z) : ∃ x y r, st = .int y :: .int x :: r ∧ n = 1 ∧ z = (pc + 1, ls, .int (f x y) :: r) := by
  unfold q_b at h
  split at h
  · split at h
    · cases h; exact ⟨_, _, _, rfl, by assumption, rfl⟩
    · cases h
  · cases h
theorem q_bz_spec {f : Int32 → Int32 → Int32} {n pc : Nat} {ls : QL} {st : List Value} {z : QN} (h : q_bz f n pc ls st = some z) : ∃ x y r, st = .int y :: .int x :: r ∧ n = 1 ∧ ¬ y = 0 ∧ z = (pc + 1, ls, .int (f x y) :: r) := by
  unfold q_bz at h
  split at h
  · split at h
    · rename_i hh; cases h; exact ⟨_, _, _, rfl, hh.1, hh.2, rfl⟩
    · cases h
  · cases h
theorem q_bl_spec {f : Int64 → Int64 → Int64} {n pc : Nat} {ls : QL} {st : List Value} {z : QN} (h : q_bl f n pc ls st = some z) : ∃ x y r, st = .long y :: .long x :: r ∧ n = 1 ∧ z = (pc + 1, ls, .long (f x y) :: r) := by
  unfold q_bl at h
  split at h
  · split at h
    · cases h; exact ⟨_, _, _, rfl, by assumption, rfl⟩
    · cases h
  · cases h
theorem q_u_spec {f : Int32 → Int32} {n pc : Nat} {ls : QL} {st : List Value} {z : QN} (h : q_u f n pc ls st = some z) : ∃ x r, st = .int x :: r ∧ n = 1 ∧ z = (pc + 1, ls, .int (f x) :: r) := by
  unfold q_u at h
  split at h
  · split at h
    · cases h; exact ⟨_, _, rfl, by assumption, rfl⟩
    · cases h
  · cases h
theorem q_to_eq {pc : Nat} {off : Int} (h : 0 ≤ (pc : Int) + off) : (pc : Int) + off = (q_to pc off : Int) := by
  unfold q_to; omega
section QS
variable {p : Program} {l : Launch} {e : Env} {R : Room} {s : State} {m : MethodId} {args : Array Value} {below : List Frame} {meth : Method} {c : Code} {H : Heap} {locs : List Loc} {cells slots : Nat} {Q : State → Prop}
variable {av : Nat → Value} {A : Nat → Prop} {cc : ByteArray} {nL : Nat}
theorem q_W_aload {i pc : Nat} {LS : Array Slot} {rest : List Value} {x : Nat} (hav : q_AV av) (hx : p.tables.exec = Jvm.exec) (hb : c.code = cc) (hdg : decode cc pc = .ok (.aload i, 2)) (hl : LS[i]? = some (.val (av x))) (k : W p l e R s m args below meth c H locs cells slots Q (F0 m (pc + 2) LS (av x :: rest))) : W p l e R s m args below meth c H locs cells slots Q (F0 m pc LS rest) := by
  rcases hav.refOrNull x with ⟨a, ha⟩ | ha
  · rw [ha] at hl k; exact lv_aload hx hb hdg hl k
  · rw [ha] at hl k; exact lv_aloadN hx hb hdg hl k
theorem q_W_aload_n {i : Fin 4} {pc : Nat} {LS : Array Slot} {rest : List Value} {x : Nat} (hav : q_AV av) (hx : p.tables.exec = Jvm.exec) (hb : c.code = cc) (hdg : decode cc pc = .ok (.aload_n i, 1)) (hl : LS[(i : Nat)]? = some (.val (av x))) (k : W p l e R s m args below meth c H locs cells slots Q (F0 m (pc + 1) LS (av x :: rest))) : W p l e R s m args below meth c H locs cells slots Q (F0 m pc LS rest) := by
  rcases hav.refOrNull x with ⟨a, ha⟩ | ha
  · rw [ha] at hl k; exact lv_aload_n hx hb hdg rfl hl k
  · rw [ha] at hl k; exact lv_aload_nN hx hb hdg rfl hl k
theorem q_W_astore {i pc : Nat} {LS : Array Slot} {lv lv' : List (Nat × Value)} {rest : List Value} {x : Nat} (hav : q_AV av) (hx : p.tables.exec = Jvm.exec) (hb : c.code = cc) (hdg : decode cc pc = .ok (.astore i, 2)) (h : lv_has LS nL lv) (hn : i < nL) (hl : (i, av x) :: lv.filter (fun q => !(q.1 == i) && !(q.1 + 1 == i && q.2.category == 2)) = lv') (k : ∀ ls' : Array Slot, lv_has ls' nL lv' → W p l e R s m args below meth c H locs cells slots Q (F0 m (pc + 2) ls' rest)) : W p l e R s m args below meth c H locs cells slots Q (F0 m pc LS (av x :: rest)) := by
  rcases hav.refOrNull x with ⟨a, ha⟩ | ha
  · rw [ha] at hl ⊢; exact lv_astore hx hb hdg h hn hl k
  · rw [ha] at hl ⊢; exact lv_astoreN hx hb hdg h hn hl k
theorem q_W_astore_n {i : Fin 4} {pc : Nat} {LS : Array Slot} {lv lv' : List (Nat × Value)} {rest : List Value} {x : Nat} (hav : q_AV av) (hx : p.tables.exec = Jvm.exec) (hb : c.code = cc) (hdg : decode cc pc = .ok (.astore_n i, 1)) (h : lv_has LS nL lv) (hn : (i : Nat) < nL) (hl : ((i : Nat), av x) :: lv.filter (fun q => !(q.1 == (i : Nat)) && !(q.1 + 1 == (i : Nat) && q.2.category == 2)) = lv') (k : ∀ ls' : Array Slot, lv_has ls' nL lv' → W p l e R s m args below meth c H locs cells slots Q (F0 m (pc + 1) ls' rest)) : W p l e R s m args below meth c H locs cells slots Q (F0 m pc LS (av x :: rest)) := by
  rcases hav.refOrNull x with ⟨a, ha⟩ | ha
  · rw [ha] at hl ⊢; exact lv_astore_n hx hb hdg rfl h hn hl k
  · rw [ha] at hl ⊢; exact lv_astore_nN hx hb hdg rfl h hn hl k
set_option maxHeartbeats 4000000 in
theorem q_simS (hav : q_AV av) (hx : p.tables.exec = Jvm.exec) (hb : c.code = cc) {o : Nat} (hown : s.vm.findClass (q_cn o) = some m.cls) (hts : ∀ w ∈ q_tbl, w.before args s = true) (hfx : q_Fx A av s) {i : Instr} {len pc pc2 : Nat} {LS : Array Slot} {ls ls2 : QL} {st st2 : List Value} (hdg : decode cc pc = .ok (i, len)) (hL : q_LR av LS nL ls) (h : q_s o i len pc ls st = some (pc2, ls2, st2)) (k : ∀ LS', q_LR av LS' nL ls2 → W p l e R s m args below meth c H locs cells slots Q (F0 m pc2 LS' (st2.map (q_lf av)))) : W p l e R s m args below meth c H locs cells slots Q (F0 m pc LS (st.map (q_lf av))) := by
  cases i with
  | iconst z =>
    simp only [q_s] at h
    split at h
    · rename_i hn; subst hn; cases h; exact lv_iconst hx hb hdg rfl (k LS hL)
    · cases h
  | bipush z =>
    simp only [q_s] at h
    split at h
    · rename_i hn; subst hn; cases h; exact lv_bipush hx hb hdg rfl (k LS hL)
    · cases h
  | sipush z =>
    simp only [q_s] at h
    split at h
    · rename_i hn; subst hn; cases h; exact lv_sipush hx hb hdg rfl (k LS hL)
    · cases h
  | lconst z =>
    simp only [q_s] at h
    split at h
    · rename_i hn; subst hn; cases h; exact lv_lconst hx hb hdg rfl (k LS hL)
    · cases h
  | ldc x =>
    simp only [q_s] at h
    split at h
    · rename_i hn
      subst hn
      split at h
      · rename_i v hv
        cases h
        exact lv_ldc hx hb hown (hts _ (q_ciw hv)) hdg (k LS hL)
      · split at h
        · rename_i z hz
          cases h
          obtain ⟨e1, e2, e3⟩ := qcs_ok _ (q_lk_mem hz)
          dsimp only at e1 e2 e3
          have hR := hfx.2.2.2.2.2.2.2.2 z e2
          rw [e3] at hR
          refine va_ldcS hx hb (own := "StraightTax$Text") (by rw [← e1]; exact hown) hR hdg ?_
          have h1 := k LS hL
          rw [List.map_cons, show q_lf av (.ref (1010 + z)) = .ref (q_ad av (1010 + z)) from hav.ad (by omega)] at h1
          exact h1
        · cases h
    · cases h
  | ldc_w x =>
    simp only [q_s] at h
    split at h
    · rename_i hn
      subst hn
      split at h
      · rename_i v hv
        cases h
        exact lv_ldcw hx hb hown (hts _ (q_ciw hv)) hdg (k LS hL)
      · cases h
    · cases h
  | ldc2_w x =>
    simp only [q_s] at h
    split at h
    · rename_i hn
      subst hn
      split at h
      · rename_i v hv
        cases h
        exact lv_ldc2 hx hb hown (hts _ (q_cjw hv)) hdg (k LS hL)
      · cases h
    · cases h
  | iload_n i => obtain ⟨x, hv, rfl, hz⟩ := q_ldI_spec h; cases hz; exact lv_iload_n hx hb hdg rfl (hL.get hv) (k LS hL)
  | iload i => obtain ⟨x, hv, rfl, hz⟩ := q_ldI_spec h; cases hz; exact lv_iload hx hb hdg (hL.get hv) (k LS hL)
  | lload_n i => obtain ⟨x, hv, rfl, hz⟩ := q_ldL_spec h; cases hz; exact lv_lload_n hx hb hdg rfl (hL.get hv) (k LS hL)
  | lload i => obtain ⟨x, hv, rfl, hz⟩ := q_ldL_spec h; cases hz; exact lv_lload hx hb hdg (hL.get hv) (k LS hL)
  | aload_n i => obtain ⟨x, hv, rfl, hz⟩ := q_ldA_spec h; cases hz; exact q_W_aload_n hav hx hb hdg (hL.get hv) (k LS hL)
  | aload i => obtain ⟨x, hv, rfl, hz⟩ := q_ldA_spec h; cases hz; exact q_W_aload hav hx hb hdg (hL.get hv) (k LS hL)
  | istore_n i => obtain ⟨x, r, rfl, rfl, hi, hz⟩ := q_stI_spec h; cases hz; exact lv_istore_n hx hb hdg rfl hL.2 (by rw [← hL.1]; exact hi) rfl (fun LS' h' => k LS' (hL.st1 hav h'))
  | istore i => obtain ⟨x, r, rfl, rfl, hi, hz⟩ := q_stI_spec h; cases hz; exact lv_istore hx hb hdg hL.2 (by rw [← hL.1]; exact hi) rfl (fun LS' h' => k LS' (hL.st1 hav h'))
  | lstore_n i => obtain ⟨x, r, rfl, rfl, hi, hz⟩ := q_stL_spec h; cases hz; exact lv_lstore_n hx hb hdg rfl hL.2 (by rw [← hL.1]; exact hi) rfl (fun LS' h' => k LS' (hL.st2 hav hi h'))
  | lstore i => obtain ⟨x, r, rfl, rfl, hi, hz⟩ := q_stL_spec h; cases hz; exact lv_lstore hx hb hdg hL.2 (by rw [← hL.1]; exact hi) rfl (fun LS' h' => k LS' (hL.st2 hav hi h'))
  | astore_n i => obtain ⟨x, r, rfl, rfl, hi, hz⟩ := q_stA_spec h; cases hz; exact q_W_astore_n hav hx hb hdg hL.2 (by rw [← hL.1]; exact hi) rfl (fun LS' h' => k LS' (hL.st1 hav h'))
  | astore i => obtain ⟨x, r, rfl, rfl, hi, hz⟩ := q_stA_spec h; cases hz; exact q_W_astore hav hx hb hdg hL.2 (by rw [← hL.1]; exact hi) rfl (fun LS' h' => k LS' (hL.st1 hav h'))
  | iinc i z =>
    simp only [q_s] at h
    split at h
    · rename_i x hv
      split at h
      · rename_i hn
        obtain ⟨rfl, hi⟩ := hn
        cases h
        obtain ⟨q, hq⟩ := List.getElem?_of_mem (q_asc_mem.mpr ⟨_, hv, rfl⟩ : (i, q_lf av (.int x)) ∈ q_asc av ls)
        exact lv_iinc hx hb hdg hL.2 (k := q) (x := x) hq rfl (by rw [← hL.1]; exact hi) rfl (fun LS' h' => k LS' (hL.st1 hav h'))
      · cases h
    · cases h
  | iadd => obtain ⟨x, y, r, rfl, rfl, hz⟩ := q_b_spec h; cases hz; exact lv_iadd hx hb hdg (k LS hL)
  | isub => obtain ⟨x, y, r, rfl, rfl, hz⟩ := q_b_spec h; cases hz; exact lv_isub hx hb hdg (k LS hL)
  | imul => obtain ⟨x, y, r, rfl, rfl, hz⟩ := q_b_spec h; cases hz; exact lv_imul hx hb hdg (k LS hL)
  | iand => obtain ⟨x, y, r, rfl, rfl, hz⟩ := q_b_spec h; cases hz; exact lv_iand hx hb hdg (k LS hL)
  | ior => obtain ⟨x, y, r, rfl, rfl, hz⟩ := q_b_spec h; cases hz; exact lv_ior hx hb hdg (k LS hL)
  | ixor => obtain ⟨x, y, r, rfl, rfl, hz⟩ := q_b_spec h; cases hz; exact lv_ixor hx hb hdg (k LS hL)
  | ishl => obtain ⟨x, y, r, rfl, rfl, hz⟩ := q_b_spec h; cases hz; exact lv_ishl hx hb hdg (k LS hL)
  | ishr => obtain ⟨x, y, r, rfl, rfl, hz⟩ := q_b_spec h; cases hz; exact lv_ishr hx hb hdg (k LS hL)
  | iushr => obtain ⟨x, y, r, rfl, rfl, hz⟩ := q_b_spec h; cases hz; exact lv_iushr hx hb hdg rfl (k LS hL)
  | idiv => obtain ⟨x, y, r, rfl, rfl, h0, hz⟩ := q_bz_spec h; cases hz; exact lv_idiv hx hb hdg h0 (k LS hL)
  | irem => obtain ⟨x, y, r, rfl, rfl, h0, hz⟩ := q_bz_spec h; cases hz; exact lv_irem hx hb hdg h0 (k LS hL)
  | ineg => obtain ⟨x, r, rfl, rfl, hz⟩ := q_u_spec h; cases hz; exact lv_ineg hx hb hdg (k LS hL)
  | i2b => obtain ⟨x, r, rfl, rfl, hz⟩ := q_u_spec h; cases hz; exact lv_i2b hx hb hdg rfl (k LS hL)
  | i2c => obtain ⟨x, r, rfl, rfl, hz⟩ := q_u_spec h; cases hz; exact lv_i2c hx hb hdg rfl (k LS hL)
  | ladd => obtain ⟨x, y, r, rfl, rfl, hz⟩ := q_bl_spec h; cases hz; exact lv_ladd hx hb hdg (k LS hL)
  | lsub => obtain ⟨x, y, r, rfl, rfl, hz⟩ := q_bl_spec h; cases hz; exact lv_lsub hx hb hdg (k LS hL)
  | lmul => obtain ⟨x, y, r, rfl, rfl, hz⟩ := q_bl_spec h; cases hz; exact lv_lmul hx hb hdg (k LS hL)
  | land => obtain ⟨x, y, r, rfl, rfl, hz⟩ := q_bl_spec h; cases hz; exact lv_land hx hb hdg (k LS hL)
  | lshr =>
    simp only [q_s] at h
    split at h
    · split at h
      · rename_i hn; subst hn; cases h; exact lv_lshr hx hb hdg rfl (k LS hL)
      · cases h
    · cases h
  | i2l =>
    simp only [q_s] at h
    split at h
    · split at h
      · rename_i hn; subst hn; cases h; exact lv_i2l hx hb hdg rfl (k LS hL)
      · cases h
    · cases h
  | l2i =>
    simp only [q_s] at h
    split at h
    · split at h
      · rename_i hn; subst hn; cases h; exact lv_l2i hx hb hdg rfl (k LS hL)
      · cases h
    · cases h
  | lcmp =>
    simp only [q_s] at h
    split at h
    · split at h
      · rename_i hn; subst hn; cases h; exact W.lcmp hx hb hdg (k LS hL)
      · cases h
    · cases h
  | dup =>
    simp only [q_s] at h
    split at h
    · split at h
      · rename_i hn; subst hn; cases h; exact lv_dup hx hb hdg rfl (k LS hL)
      · cases h
    · split at h
      · rename_i hn; subst hn; cases h; exact lv_dup hx hb hdg (hav.cat (.ref _)) (k LS hL)
      · cases h
    · cases h
  | dup2 =>
    simp only [q_s] at h
    split at h
    · split at h
      · rename_i hn; subst hn; cases h; exact lv_dup2_11 hx hb hdg rfl (hav.cat (.ref _)) (k LS hL)
      · cases h
    · cases h
  | pop =>
    simp only [q_s] at h
    split at h
    · split at h
      · rename_i hn; subst hn; cases h; exact lv_pop hx hb hdg rfl (k LS hL)
      · cases h
    · cases h
  | ifCond cd off =>
    simp only [q_s] at h
    split at h
    · rename_i x r
      split at h
      · rename_i hn
        obtain ⟨rfl, hn2⟩ := id hn
        cases h
        cases cd with
        | eq =>
          refine lv_if_eq hx hb hdg (q_to_eq hn.2) (fun hc => ?_) (fun hc => ?_)
          · have h1 := k LS hL; rw [show (bif q_cd .eq x 0 then q_to pc off else pc + 3) = q_to pc off from by simp [q_cd, hc]] at h1; exact h1
          · have h1 := k LS hL; rw [show (bif q_cd .eq x 0 then q_to pc off else pc + 3) = pc + 3 from by simp [q_cd, hc]] at h1; exact h1
        | ne =>
          refine lv_if_ne hx hb hdg (q_to_eq hn.2) (fun hc => ?_) (fun hc => ?_)
          · have h1 := k LS hL; rw [show (bif q_cd .ne x 0 then q_to pc off else pc + 3) = q_to pc off from by simp [q_cd, hc]] at h1; exact h1
          · have h1 := k LS hL; rw [show (bif q_cd .ne x 0 then q_to pc off else pc + 3) = pc + 3 from by simp [q_cd, hc]] at h1; exact h1
        | lt =>
          refine lv_if_lt hx hb hdg (q_to_eq hn.2) (fun hc => ?_) (fun hc => ?_)
          · have h1 := k LS hL; rw [show (bif q_cd .lt x 0 then q_to pc off else pc + 3) = q_to pc off from by simp [q_cd, hc]] at h1; exact h1
          · have h1 := k LS hL; rw [show (bif q_cd .lt x 0 then q_to pc off else pc + 3) = pc + 3 from by simp [q_cd, hc]] at h1; exact h1
        | ge =>
          refine lv_if_ge hx hb hdg (q_to_eq hn.2) (fun hc => ?_) (fun hc => ?_)
          · have h1 := k LS hL; rw [show (bif q_cd .ge x 0 then q_to pc off else pc + 3) = q_to pc off from by simp [q_cd, hc]] at h1; exact h1
          · have h1 := k LS hL; rw [show (bif q_cd .ge x 0 then q_to pc off else pc + 3) = pc + 3 from by simp [q_cd, hc]] at h1; exact h1
        | gt =>
          refine lv_if_gt hx hb hdg (q_to_eq hn.2) (fun hc => ?_) (fun hc => ?_)
          · have h1 := k LS hL; rw [show (bif q_cd .gt x 0 then q_to pc off else pc + 3) = q_to pc off from by simp [q_cd, hc]] at h1; exact h1
          · have h1 := k LS hL; rw [show (bif q_cd .gt x 0 then q_to pc off else pc + 3) = pc + 3 from by simp [q_cd, hc]] at h1; exact h1
        | le =>
          refine lv_if_le hx hb hdg (q_to_eq hn.2) (fun hc => ?_) (fun hc => ?_)
          · have h1 := k LS hL; rw [show (bif q_cd .le x 0 then q_to pc off else pc + 3) = q_to pc off from by simp [q_cd, hc]] at h1; exact h1
          · have h1 := k LS hL; rw [show (bif q_cd .le x 0 then q_to pc off else pc + 3) = pc + 3 from by simp [q_cd, hc]] at h1; exact h1
      · cases h
    · cases h
  | if_icmp cd off =>
    simp only [q_s] at h
    split at h
    · rename_i y x r
      split at h
      · rename_i hn
        obtain ⟨rfl, hn2⟩ := id hn
        cases h
        cases cd with
        | eq =>
          refine lv_icmp_eq hx hb hdg (q_to_eq hn.2) (fun hc => ?_) (fun hc => ?_)
          · have h1 := k LS hL; rw [show (bif q_cd .eq x y then q_to pc off else pc + 3) = q_to pc off from by simp [q_cd, hc]] at h1; exact h1
          · have h1 := k LS hL; rw [show (bif q_cd .eq x y then q_to pc off else pc + 3) = pc + 3 from by simp [q_cd, hc]] at h1; exact h1
        | ne =>
          refine lv_icmp_ne hx hb hdg (q_to_eq hn.2) (fun hc => ?_) (fun hc => ?_)
          · have h1 := k LS hL; rw [show (bif q_cd .ne x y then q_to pc off else pc + 3) = q_to pc off from by simp [q_cd, hc]] at h1; exact h1
          · have h1 := k LS hL; rw [show (bif q_cd .ne x y then q_to pc off else pc + 3) = pc + 3 from by simp [q_cd, hc]] at h1; exact h1
        | lt =>
          refine lv_icmp_lt hx hb hdg (q_to_eq hn.2) (fun hc => ?_) (fun hc => ?_)
          · have h1 := k LS hL; rw [show (bif q_cd .lt x y then q_to pc off else pc + 3) = q_to pc off from by simp [q_cd, hc]] at h1; exact h1
          · have h1 := k LS hL; rw [show (bif q_cd .lt x y then q_to pc off else pc + 3) = pc + 3 from by simp [q_cd, hc]] at h1; exact h1
        | ge =>
          refine lv_icmp_ge hx hb hdg (q_to_eq hn.2) (fun hc => ?_) (fun hc => ?_)
          · have h1 := k LS hL; rw [show (bif q_cd .ge x y then q_to pc off else pc + 3) = q_to pc off from by simp [q_cd, hc]] at h1; exact h1
          · have h1 := k LS hL; rw [show (bif q_cd .ge x y then q_to pc off else pc + 3) = pc + 3 from by simp [q_cd, hc]] at h1; exact h1
        | gt =>
          refine lv_icmp_gt hx hb hdg (q_to_eq hn.2) (fun hc => ?_) (fun hc => ?_)
          · have h1 := k LS hL; rw [show (bif q_cd .gt x y then q_to pc off else pc + 3) = q_to pc off from by simp [q_cd, hc]] at h1; exact h1
          · have h1 := k LS hL; rw [show (bif q_cd .gt x y then q_to pc off else pc + 3) = pc + 3 from by simp [q_cd, hc]] at h1; exact h1
        | le =>
          refine lv_icmp_le hx hb hdg (q_to_eq hn.2) (fun hc => ?_) (fun hc => ?_)
          · have h1 := k LS hL; rw [show (bif q_cd .le x y then q_to pc off else pc + 3) = q_to pc off from by simp [q_cd, hc]] at h1; exact h1
          · have h1 := k LS hL; rw [show (bif q_cd .le x y then q_to pc off else pc + 3) = pc + 3 from by simp [q_cd, hc]] at h1; exact h1
      · cases h
    · cases h
  | goto off =>
    simp only [q_s] at h
    split at h
    · rename_i hn
      obtain ⟨rfl, hn2⟩ := hn
      cases h
      exact lv_goto hx hb hdg (q_to_eq hn2) (k LS hL)
    · cases h
  | tableswitch df lo hi offs =>
    simp only [q_s] at h
    split at h
    · rename_i x r
      split at h
      · rename_i ho
        split at h
        · rename_i hn
          cases h
          exact lv_tableOut hx hb hdg ho (q_to_eq hn) (k LS hL)
        · cases h
      · rename_i ho
        split at h
        · rename_i off hoff
          split at h
          · rename_i hn
            cases h
            exact lv_tableIn hx hb hdg (fun z => ho (Or.inl z)) (fun z => ho (Or.inr z)) hoff (q_to_eq hn) (k LS hL)
          · cases h
        · cases h
    · cases h
  | _ => cases h
end QS
