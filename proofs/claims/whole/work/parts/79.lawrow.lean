/-! THE LAW: rules -/
theorem am_int {sh : QH} {j : Nat} (hj : ¬ q_rt j = some (some .long)) : ∀ (n d pc : Nat) (ls : QL) (st : List Value) (V : QV) (v : Value) (V' : QV), am sh n d j pc ls st V = some (some v, V') → ∃ x, v = .int x
  | 0, d, pc, ls, st, V, v, V', h => by cases h
  | n + 1, d, pc, ls, st, V, v, V', h => by
    have ih := am_int (sh := sh) hj n
    change q_go sh (am sh n) d j pc ls st V = some (some v, V') at h
    unfold q_go at h
    split at h
    · cases h
    · rename_i o i len hd
      split at h
      · rename_i w hq
        cases h
        unfold q_ret at hq
        split at hq
        · split at hq
          · split at hq
            · split at hq
              · split at hq
                · cases hq; exact ⟨_, rfl⟩
                · cases hq
              · cases hq
            · cases hq
          · cases hq
        · split at hq
          · split at hq
            · rename_i hh
              exact absurd hh.2 hj
            · cases hq
          · cases hq
        · split at hq
          · split at hq
            · cases hq
            · cases hq
          · cases hq
        · cases hq
      · split at h
        · split at h
          · cases h
          · split at h
            · split at h
              · cases h
              · exact ih _ _ _ _ _ _ _ h
            · cases h
        · split at h
          · exact ih _ _ _ _ _ _ _ h
          · split at h
            · exact ih _ _ _ _ _ _ _ h
            · cases h
theorem ox_int {σ σ' : Sg} {h s w j d : Nat} {I : Nat → Nat → Int} {X : XX} {as : List Value} {v : Value} (hx : OX σ h s w j d I X as v σ') (hj : ¬ q_rt j = some (some .long)) : ∃ x, v = .int x := by
  obtain ⟨hfit, n, r, V', h1, S', hV, h2, h3⟩ := hx
  subst h2
  exact am_int hj n _ _ _ _ _ _ _ h1
def LI (s : State) (D : va_G) (x0 m0 : Nat) (SX SM : QS) (H : Heap) (locs : List Loc) : Prop := ∃ (avX : Nat → Value) (caX : Nat → ClassId) (avM : Nat → Value) (caM : Nat → ClassId), (q_AV avX ∧ q_AV avM) ∧ (q_ad avX 0 = x0 ∧ q_ad avM 0 = m0) ∧ (q_Fx (A0 s) avX s ∧ q_Fx (A0 s) avM s) ∧ q_R (A0 s) avX caX D shX (vv SX) s H ∧ q_R (A0 s) avM caM D shM (vv SM) s H ∧ (∀ i k, i < shX.length → k < shM.length → q_ad avX i ≠ q_ad avM k) ∧ va_S (A0 s) s.heap H locs
def LW (p : Program) (l : Launch) (e : Env) (s : State) (m : MethodId) (below : List Frame) (meth : Method) (c : Code) (b : Nat) (D : va_G) (x0 m0 : Nat) (i : Int) (SX SM : QS) (pc : Nat) (st : List Value) : Prop := ∀ (H : Heap) (locs : List Loc) (ls : Array Slot), LI s D x0 m0 SX SM H locs → lv_has ls 4 [(0, .ref b), (1, .ref x0), (2, .ref m0), (3, .int (J i))] → W p l e room_1 s m #[Value.ref b] below meth c H locs 600000 7302250 (lw_Z below #[Value.ref b] s) (F0 m pc ls st)
/-- an int of the script -/
def xa (xs : Nat → Int32) (i k : Int) : Int := (xs (J (i + k)).toNatClampNeg).toInt
theorem xa_in (xs : Nat → Int32) (i k : Int) : inJ (xa xs i k) := by
  unfold xa inJ
  have h1 := Int32.le_toInt (xs (J (i + k)).toNatClampNeg)
  have h2 := Int32.toInt_lt (xs (J (i + k)).toNatClampNeg)
  omega
section LE
variable {p : Program} {l : Launch} {e : Env} {s : State} {m : MethodId} {below : List Frame} {meth : Method} {c : Code} {b L : Nat} {xs : Nat → Int32} {D : va_G} {x0 m0 pc : Nat} {i : Int} {SX SM : QS} {st : List Value}
theorem l_x (C0 : lw_At p s m meth c b L xs) (hdg : decode code pc = .ok (.aload_n 1, 1)) (k : LW p l e s m below meth c b D x0 m0 i SX SM (pc + 1) (.ref x0 :: st)) : LW p l e s m below meth c b D x0 m0 i SX SM pc st := fun H locs ls hI hl => lv_aload_n C0.1 C0.2.1 hdg rfl (lv_at hl 1 rfl) (k H locs ls hI hl)
theorem l_m (C0 : lw_At p s m meth c b L xs) (hdg : decode code pc = .ok (.aload_n 2, 1)) (k : LW p l e s m below meth c b D x0 m0 i SX SM (pc + 1) (.ref m0 :: st)) : LW p l e s m below meth c b D x0 m0 i SX SM pc st := fun H locs ls hI hl => lv_aload_n C0.1 C0.2.1 hdg rfl (lv_at hl 2 rfl) (k H locs ls hI hl)
theorem l_s (C0 : lw_At p s m meth c b L xs) (hdg : decode code pc = .ok (.aload_n 0, 1)) (k : LW p l e s m below meth c b D x0 m0 i SX SM (pc + 1) (.ref b :: st)) : LW p l e s m below meth c b D x0 m0 i SX SM pc st := fun H locs ls hI hl => lv_aload_n C0.1 C0.2.1 hdg rfl (lv_at hl 0 rfl) (k H locs ls hI hl)
theorem l_i (C0 : lw_At p s m meth c b L xs) (hdg : decode code pc = .ok (.iload_n 3, 1)) (k : LW p l e s m below meth c b D x0 m0 i SX SM (pc + 1) (.int (J i) :: st)) : LW p l e s m below meth c b D x0 m0 i SX SM pc st := fun H locs ls hI hl => lv_iload_n C0.1 C0.2.1 hdg rfl (lv_at hl 3 rfl) (k H locs ls hI hl)
theorem l_ic (C0 : lw_At p s m meth c b L xs) {z : Int} (hdg : decode code pc = .ok (.iconst z, 1)) (k : LW p l e s m below meth c b D x0 m0 i SX SM (pc + 1) (.int (J z) :: st)) : LW p l e s m below meth c b D x0 m0 i SX SM pc st := fun H locs ls hI hl => lv_iconst C0.1 C0.2.1 hdg rfl (k H locs ls hI hl)
theorem l_bp (C0 : lw_At p s m meth c b L xs) {z : Int} {v : Int32} (hdg : decode code pc = .ok (.bipush z, 2)) (hv : (Int8.ofInt z).toInt32 = v) (k : LW p l e s m below meth c b D x0 m0 i SX SM (pc + 2) (.int v :: st)) : LW p l e s m below meth c b D x0 m0 i SX SM pc st := fun H locs ls hI hl => lv_bipush C0.1 C0.2.1 hdg hv (k H locs ls hI hl)
theorem l_add (C0 : lw_At p s m meth c b L xs) {x y : Int} (hdg : decode code pc = .ok (.iadd, 1)) (k : LW p l e s m below meth c b D x0 m0 i SX SM (pc + 1) (.int (J (x + y)) :: st)) : LW p l e s m below meth c b D x0 m0 i SX SM pc (.int (J y) :: .int (J x) :: st) := fun H locs ls hI hl => lv_iadd C0.1 C0.2.1 hdg (by rw [J_add]; exact k H locs ls hI hl)
theorem l_sub (C0 : lw_At p s m meth c b L xs) {x y : Int} (hdg : decode code pc = .ok (.isub, 1)) (k : LW p l e s m below meth c b D x0 m0 i SX SM (pc + 1) (.int (J (x - y)) :: st)) : LW p l e s m below meth c b D x0 m0 i SX SM pc (.int (J y) :: .int (J x) :: st) := fun H locs ls hI hl => lv_isub C0.1 C0.2.1 hdg (by rw [J_sub]; exact k H locs ls hI hl)
theorem l_and (C0 : lw_At p s m meth c b L xs) {x y : Int32} (hdg : decode code pc = .ok (.iand, 1)) (k : LW p l e s m below meth c b D x0 m0 i SX SM (pc + 1) (.int (x &&& y) :: st)) : LW p l e s m below meth c b D x0 m0 i SX SM pc (.int y :: .int x :: st) := fun H locs ls hI hl => lv_iand C0.1 C0.2.1 hdg (k H locs ls hI hl)
theorem l_i2l (C0 : lw_At p s m meth c b L xs) {x : Int32} (hdg : decode code pc = .ok (.i2l, 1)) (k : LW p l e s m below meth c b D x0 m0 i SX SM (pc + 1) (.long x.toInt64 :: st)) : LW p l e s m below meth c b D x0 m0 i SX SM pc (.int x :: st) := fun H locs ls hI hl => lv_i2l C0.1 C0.2.1 hdg rfl (k H locs ls hI hl)
theorem l_lshl (C0 : lw_At p s m meth c b L xs) {x : Int64} {y : Int32} (hdg : decode code pc = .ok (.lshl, 1)) (k : LW p l e s m below meth c b D x0 m0 i SX SM (pc + 1) (.long (x <<< (y.toInt64 &&& 63)) :: st)) : LW p l e s m below meth c b D x0 m0 i SX SM pc (.int y :: .long x :: st) := fun H locs ls hI hl => lv_lshl C0.1 C0.2.1 hdg rfl (k H locs ls hI hl)
theorem l_land (C0 : lw_At p s m meth c b L xs) {x y : Int64} (hdg : decode code pc = .ok (.land, 1)) (k : LW p l e s m below meth c b D x0 m0 i SX SM (pc + 1) (.long (x &&& y) :: st)) : LW p l e s m below meth c b D x0 m0 i SX SM pc (.long y :: .long x :: st) := fun H locs ls hI hl => lv_land C0.1 C0.2.1 hdg (k H locs ls hI hl)
theorem l_lor (C0 : lw_At p s m meth c b L xs) {x y : Int64} (hdg : decode code pc = .ok (.lor, 1)) (k : LW p l e s m below meth c b D x0 m0 i SX SM (pc + 1) (.long (x ||| y) :: st)) : LW p l e s m below meth c b D x0 m0 i SX SM pc (.long y :: .long x :: st) := fun H locs ls hI hl => lv_lor C0.1 C0.2.1 hdg (k H locs ls hI hl)
theorem l_ldc2 (C0 : lw_At p s m meth c b L xs) {x : Nat} {v : Int64} (hdg : decode code pc = .ok (.ldc2_w x, 3)) (hw : Cond.constantLong R_law x v ∈ lw_tbl) (k : LW p l e s m below meth c b D x0 m0 i SX SM (pc + 3) (.long v :: st)) : LW p l e s m below meth c b D x0 m0 i SX SM pc st := fun H locs ls hI hl => lv_ldc2 C0.1 C0.2.1 C0.2.2.2.2.1 (C0.2.2.2.2.2.1 _ hw) hdg (k H locs ls hI hl)
theorem l_len (C0 : lw_At p s m meth c b L xs) (hdg : decode code pc = .ok (.arraylength, 1)) (k : LW p l e s m below meth c b D x0 m0 i SX SM (pc + 1) (.int (J (L : Int)) :: st)) : LW p l e s m below meth c b D x0 m0 i SX SM pc (.ref b :: st) := by
  intro H locs ls hI hl
  obtain ⟨hx, hb, hr, hml, hown, hts, hX, hbl, hlocks, hgv⟩ := C0
  have hS := hI
  obtain ⟨-, -, -, -, -, -, -, -, -, -, hS⟩ := hS
  exact va_slen hx hb hX hbl (Nat.not_le.mpr hbl) hS hdg (by have := k H locs ls hI hl; exact this)
theorem l_ld (C0 : lw_At p s m meth c b L xs) (hL : L ≤ 2560) {k : Int} (hdg : decode code pc = .ok (.iaload, 1)) (h0 : 0 ≤ i + k) (h1 : i + k < L) (kk : LW p l e s m below meth c b D x0 m0 i SX SM (pc + 1) (.int (J (xa xs i k)) :: st)) : LW p l e s m below meth c b D x0 m0 i SX SM pc (.int (J (i + k)) :: .ref b :: st) := by
  intro H locs ls hI hl
  obtain ⟨hx, hb, hr, hml, hown, hts, hX, hbl, hlocks, hgv⟩ := C0
  have hS := hI
  obtain ⟨-, -, -, -, -, -, -, -, -, -, hS⟩ := hS
  have hix := (J_ix h0 h1 (by omega)).1
  refine va_sld hx hb hX hbl (Nat.not_le.mpr hbl) hS (q_vin hix) hdg ?_
  have h3 := kk H locs ls hI hl
  unfold xa at h3
  rw [J_of] at h3
  exact h3
theorem l_arg (C0 : lw_At p s m meth c b L xs) (hL : L ≤ 2560) {k : Int} (h0 : 0 ≤ i) (h1 : i + 5 ≤ L) (hk : 0 ≤ k ∧ k < 5) (d1 : decode code pc = .ok (.aload_n 0, 1)) (d2 : decode code (pc + 1) = .ok (.iload_n 3, 1)) (d3 : decode code (pc + 2) = .ok (.iconst k, 1)) (d4 : decode code (pc + 3) = .ok (.iadd, 1)) (d5 : decode code (pc + 4) = .ok (.iaload, 1)) (kk : LW p l e s m below meth c b D x0 m0 i SX SM (pc + 5) (.int (J (xa xs i k)) :: st)) : LW p l e s m below meth c b D x0 m0 i SX SM pc st :=
  l_s C0 d1 (l_i C0 d2 (l_ic C0 d3 (l_add C0 d4 (l_ld C0 hL d5 (by omega) (by omega) kk))))
def lngA (xs : Nat → Int32) (i : Int) : Int64 := (J (xa xs i 1)).toInt64 <<< ((32 : Int32).toInt64 &&& 63) ||| ((J (xa xs i 2)).toInt64 &&& 4294967295)
theorem l_callX (C0 : lw_At p s m meth c b L xs) {σ σ' : Sg} {h s' w x j : Nat} {r : QRow} {I : Nat → Nat → Int} {X : XX} {as : List Value} {v : Value} (hdg : decode code pc = .ok (.invokevirtual x, 3)) (hj : qmt[j]? = some r) (hr1 : r.1 = 11) (w1 : Cond.methodLink R_law x r.2.2.2.1 ∈ q_tbl) (w2 : Cond.instanceMethod r.2.2.2.1 ∈ q_tbl) (w3 : Cond.selects r.2.2.2.1.cls r.2.2.2.1 r.2.2.2.1 ∈ q_tbl) (w4 : Cond.initialized r.2.2.2.1.cls ∈ q_tbl) (hk : OX σ h s' w j 21 I X as v σ') (has : ∀ av, as.map (q_lf av) = as) (hnp : as.length = r.2.2.2.2.2) (hv : ∀ av, q_lf av v = v) (h8 : (st.map fun v => v.category).sum ≤ 8) {stk : List Value} (hstk : stk = as.reverse ++ .ref x0 :: st)
    (k : ∀ I' X', (∃ h s w, XI σ' h s w I' X') → LW p l e s m below meth c b D x0 m0 i (I', X') SM (pc + 3) (v :: st)) : LW p l e s m below meth c b D x0 m0 i (I, X) SM pc stk := by
  intro H locs ls hI hl
  obtain ⟨avX, caX, avM, caM, ⟨a1, a2⟩, ⟨b1, b2⟩, ⟨c1, c2⟩, hR1, hR2, hne, hS⟩ := hI
  rw [hstk, ← b1]
  refine lw_call C0 (P := fun S' => ∃ h s w, XI σ' h s w S'.1 S'.2) (ci := 11) (n := 10) a1 wfX c1 hR1 hR2 hne hS hdg hj rfl hr1 (by decide) w1 w2 w3 w4 hk (has _) hnp (hv _) h8 ⟨Nat.le_refl _, Nat.le_refl _⟩ hl.1 (fun H1 locs1 S' hP h1 h2 h3 => ?_)
  exact k S'.1 S'.2 hP H1 locs1 ls ⟨avX, caX, avM, caM, ⟨a1, a2⟩, ⟨b1, b2⟩, ⟨c1, c2⟩, h1, h2, hne, h3⟩ hl
theorem l_callM (C0 : lw_At p s m meth c b L xs) {σ' : Sg} {x j : Nat} {r : QRow} {I : Nat → Nat → Int} {X : XX} {as : List Value} {v : Value} (hdg : decode code pc = .ok (.invokevirtual x, 3)) (hj : qmt[j]? = some r) (hr1 : r.1 = 12) (w1 : Cond.methodLink R_law x r.2.2.2.1 ∈ q_tbl) (w2 : Cond.instanceMethod r.2.2.2.1 ∈ q_tbl) (w3 : Cond.selects r.2.2.2.1.cls r.2.2.2.1 r.2.2.2.1 ∈ q_tbl) (w4 : Cond.initialized r.2.2.2.1.cls ∈ q_tbl) (hk : OM j 21 I X as v σ') (has : ∀ av, as.map (q_lf av) = as) (hnp : as.length = r.2.2.2.2.2) (hv : ∀ av, q_lf av v = v) (h8 : (st.map fun v => v.category).sum ≤ 8) {stk : List Value} (hstk : stk = as.reverse ++ .ref m0 :: st)
    (k : ∀ I' X', MI σ' I' X' → LW p l e s m below meth c b D x0 m0 i SX (I', X') (pc + 3) (v :: st)) : LW p l e s m below meth c b D x0 m0 i SX (I, X) pc stk := by
  intro H locs ls hI hl
  obtain ⟨avX, caX, avM, caM, ⟨a1, a2⟩, ⟨b1, b2⟩, ⟨c1, c2⟩, hR1, hR2, hne, hS⟩ := hI
  rw [hstk, ← b2]
  refine lw_call C0 (P := fun S' => MI σ' S'.1 S'.2) (ci := 12) (n := 35) a2 wfM c2 hR2 hR1 (fun i k hi hk e => hne k i hk hi e.symm) hS hdg hj rfl hr1 (by decide) w1 w2 w3 w4 hk (has _) hnp (hv _) h8 ⟨Nat.le_refl _, Nat.le_refl _⟩ hl.1 (fun H1 locs1 S' hP h1 h2 h3 => ?_)
  exact k S'.1 S'.2 hP H1 locs1 ls ⟨avX, caX, avM, caM, ⟨a1, a2⟩, ⟨b1, b2⟩, ⟨c1, c2⟩, h2, h1, hne, h3⟩ hl
theorem l_eq (C0 : lw_At p s m meth c b L xs) {x : Int32} {off : Int} {tgt : Nat} (hdg : decode code pc = .ok (.if_icmp .eq off, 3)) (ht : (pc : Int) + off = (tgt : Int)) (k : LW p l e s m below meth c b D x0 m0 i SX SM tgt st) : LW p l e s m below meth c b D x0 m0 i SX SM pc (.int x :: .int x :: st) := fun H locs ls hI hl => lv_icmp_eq C0.1 C0.2.1 hdg ht (fun _ => k H locs ls hI hl) (fun h => absurd rfl h)
theorem l_eqL (C0 : lw_At p s m meth c b L xs) {x : Int64} {off : Int} {tgt : Nat} (hdg : decode code pc = .ok (.lcmp, 1)) (hdg2 : decode code (pc + 1) = .ok (.ifCond .eq off, 3)) (ht : ((pc + 1 : Nat) : Int) + off = (tgt : Int)) (k : LW p l e s m below meth c b D x0 m0 i SX SM tgt st) : LW p l e s m below meth c b D x0 m0 i SX SM pc (.long x :: .long x :: st) := by
  intro H locs ls hI hl
  have e : lg_cmp x x = 0 := by
    unfold lg_cmp
    rw [if_neg (by exact Int64.lt_irrefl), if_pos rfl]
  refine W.lcmp C0.1 C0.2.1 hdg ?_
  rw [e]
  exact lv_if_eq C0.1 C0.2.1 hdg2 ht (fun _ => k H locs ls hI hl) (fun h => absurd rfl h)
theorem l_next (C0 : lw_At p s m meth c b L xs) (d1 : decode code 854 = .ok (.iinc 3 5, 3)) (d2 : decode code 857 = .ok (.goto (-839), 3)) (k : LW p l e s m below meth c b D x0 m0 (i + 5) SX SM 18 []) : LW p l e s m below meth c b D x0 m0 i SX SM 854 [] := by
  intro H locs ls hI hl
  refine lv_iinc (v := J (i + 5)) (lv' := [(3, .int (J (i + 5))), (0, .ref b), (1, .ref x0), (2, .ref m0)]) C0.1 C0.2.1 d1 hl (k := 3) rfl (J_add i 5) (by decide) rfl (fun ls' hl' => ?_)
  refine lv_goto (tgt := 18) C0.1 C0.2.1 d2 (by decide) ?_
  exact k H locs ls' hI (lv_sub hl' [1, 2, 3, 0] rfl)
theorem l_fin (C0 : lw_At p s m meth c b L xs) (d1 : decode code 860 = .ok (.iconst 1, 1)) (d2 : decode code 861 = .ok (.ireturn, 1)) : LW p l e s m below meth c b D x0 m0 i SX SM 860 [] := by
  intro H locs ls hI hl
  obtain ⟨-, -, -, -, -, -, -, -, -, -, hS⟩ := hI
  refine lv_iconst (v := 1) C0.1 C0.2.1 d1 rfl ?_
  exact va_forget hS.2.2 (lw_ret C0.1 C0.2.1 C0.2.2.1 C0.2.2.2.2.2.2.2.2.1 d2)
end LE
