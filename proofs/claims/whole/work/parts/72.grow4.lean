/-! GROWTH, 4: shapes by their numbers -/
/-- the class's cells in the order in which they are made -/
def gX : QH := [(11, 10), (6, 9), (101, 200), (8, 8), (100, 60), (100, 60), (100, 60), (100, 60), (103, 2), (102, 2), (4, 5), (100, 6), (100, 6), (100, 6), (100, 120), (104, 6), (10, 11), (7, 9), (100, 20), (100, 80), (100, 5), (100, 5), (100, 80), (100, 80), (100, 400), (100, 9), (100, 5), (100, 25), (7, 9), (100, 20), (100, 80), (7, 9), (100, 20), (100, 80), (8, 8), (100, 60), (100, 60), (100, 60), (100, 60), (8, 8), (100, 60), (100, 60), (100, 60), (100, 60), (9, 0), (3, 0), (1, 0), (2, 0), (5, 0), (0, 0)]
/-- references by a table -/
def tb : List ((Nat × Nat) × Nat) → Nat → Nat → Option Nat
  | [] => fun _ _ => none
  | e :: t => q_up (tb t) e.1.1 e.1.2 (some e.2)
section NK
variable {p : Program} {l : Launch} {e : Env} {R : Room} {s : State} {m : MethodId} {args : Array Value} {below : List Frame} {meth : Method} {c : Code} {Q : State → Prop} {A : Nat → Prop} {D : va_G} {o nL : Nat} {cc : ByteArray} {av av0 : Nat → Value} {ca : Nat → ClassId} {sh : QH} {ls : QL} {st : List Value} {S : QS} {pc cells slots n0 : Nat}
theorem g_newa (C : NC p R s m args meth c A o cc nL) {atype : ArrayType} {kd N i : Nat} {n : Int32} {sh2 : QH} (hdg : decode cc pc = .ok (.newarray atype, 2)) (harr : Cond.arrayClass (newarray.typeOf atype) ∈ q_tbl) (hkd : (kd = 100 ∧ newarray.typeOf atype = .int) ∨ (kd = 101 ∧ newarray.typeOf atype = .byte) ∨ (kd = 102 ∧ newarray.typeOf atype = .boolean)) (hneg : ¬ n < 0) (hN : n.toNatClampNeg = N) (hb0 : N * componentBytes (newarray.typeOf atype) ≤ 536870912) (hlen : sh.length = i) (hsh : sh ++ [(kd, N)] = sh2) (hn : i < 1000) (hst : st.all (okv i) = true) (hls : ls.all (okl i) = true) (hce : cells + 1 ≤ R.cells) (hsl : slots + N ≤ R.slots) (k : ∀ av ca, NW p l e R s m args below meth c Q A D nL n0 av0 av ca sh2 ls (.ref i :: st) S (pc + 2) (cells + 1) (slots + N)) : NW p l e R s m args below meth c Q A D nL n0 av0 av ca sh ls (.int n :: st) S pc cells slots := by
  subst hlen
  subst hsh
  exact n_newa C hdg harr hkd hneg hN hb0 hn hst hls hce hsl (fun q cA => k _ _)
theorem g_newq (C : NC p R s m args meth c A o cc nL) {x kd N i : Nat} {n : Int32} {E : String} {sh2 : QH} (hdg : decode cc pc = .ok (.anewarray x, 3)) (hcl : Cond.classLink (q_cn o) x E ∈ q_tbl) (hao : va_AO E s) (hkd : (kd = 103 ∧ E = "StraightTax$Walk") ∨ (kd = 104 ∧ E = "StraightTax$Walker")) (hneg : ¬ n < 0) (hN : n.toNatClampNeg = N) (hb0 : N * 4 ≤ 536870912) (hlen : sh.length = i) (hsh : sh ++ [(kd, N)] = sh2) (hn : i < 1000) (hst : st.all (okv i) = true) (hls : ls.all (okl i) = true) (hce : cells + 1 ≤ R.cells) (hsl : slots + N ≤ R.slots) (k : ∀ av ca, NW p l e R s m args below meth c Q A D nL n0 av0 av ca sh2 ls (.ref i :: st) S (pc + 3) (cells + 1) (slots + N)) : NW p l e R s m args below meth c Q A D nL n0 av0 av ca sh ls (.int n :: st) S pc cells slots := by
  subst hlen
  subst hsh
  exact n_newq C hdg hcl hao hkd hneg hN hb0 hn hst hls hce hsl (fun q cA => k _ _)
theorem g_new (C : NC p R s m args meth c A o cc nL) {x ci i : Nat} {r : vw_C} {sh2 : QH} (hdg : decode cc pc = .ok (.new x, 3)) (hq : vwCl[ci]? = some r) (hcl : Cond.classLink (q_cn o) x r.1 ∈ q_tbl) (hinst : Cond.instantiable r.1 r.2.2 ∈ q_tbl) (hini : Cond.initialized r.1 ∈ q_tbl) (hlen : sh.length = i) (hsh : sh ++ [(ci, r.2.2)] = sh2) (hn : i < 1000) (hst : st.all (okv i) = true) (hls : ls.all (okl i) = true) (hce : cells + 1 ≤ R.cells) (hsl : slots + r.2.2 ≤ R.slots) (k : ∀ av, NW p l e R s m args below meth c Q A D nL n0 av0 av ca sh2 ls (.ref i :: st) S (pc + 3) (cells + 1) (slots + r.2.2)) : NW p l e R s m args below meth c Q A D nL n0 av0 av ca sh ls st S pc cells slots := by
  subst hlen
  subst hsh
  exact n_new C hdg hq hcl hinst hini hn hst hls hce hsl (fun q => k _)
theorem g_ic (C : NC p R s m args meth c A o cc nL) {cn : Jvm.ClassFile.Cond} {off : Int} {x y : Int32} {t : Nat} {b : Bool} (hdg : decode cc pc = .ok (.if_icmp cn off, 3)) (hq : q_cd cn x y = b) (h0 : 0 ≤ (pc : Int) + off) (ht : (bif b then q_to pc off else pc + 3) = t) (k : NW p l e R s m args below meth c Q A D nL n0 av0 av ca sh ls st S t cells slots) : NW p l e R s m args below meth c Q A D nL n0 av0 av ca sh ls (.int y :: .int x :: st) S pc cells slots := by
  refine n_s C hdg (ls2 := ls) (st2 := st) ?_ k
  simp only [q_s]
  rw [if_pos ⟨trivial, h0⟩, hq, ht]
theorem g_goto (C : NC p R s m args meth c A o cc nL) {off : Int} {t : Nat} (hdg : decode cc pc = .ok (.goto off, 3)) (h0 : 0 ≤ (pc : Int) + off) (ht : q_to pc off = t) (k : NW p l e R s m args below meth c Q A D nL n0 av0 av ca sh ls st S t cells slots) : NW p l e R s m args below meth c Q A D nL n0 av0 av ca sh ls st S pc cells slots := by
  refine n_s C hdg (ls2 := ls) (st2 := st) ?_ k
  simp only [q_s]
  rw [if_pos ⟨trivial, h0⟩, ht]
theorem g_iinc (C : NC p R s m args meth c A o cc nL) {i : Nat} {z a : Int} (hdg : decode cc pc = .ok (.iinc i z, 3)) (hl : q_at ls i = some (.int (J a))) (hi : i < ls.length) (k : NW p l e R s m args below meth c Q A D nL n0 av0 av ca sh (q_st1 ls i (.int (J (a + z)))) st S (pc + 3) cells slots) : NW p l e R s m args below meth c Q A D nL n0 av0 av ca sh ls st S pc cells slots := by
  refine n_s C hdg ?_ k
  simp only [q_s, hl]
  rw [if_pos ⟨trivial, hi⟩]
  congr 4
  exact congrArg Value.int (J_add a z)
end NK
/-! the same, references by a table -/
section NL
variable {p : Program} {l : Launch} {e : Env} {R : Room} {s : State} {m : MethodId} {args : Array Value} {below : List Frame} {meth : Method} {c : Code} {Q : State → Prop} {A : Nat → Prop} {D : va_G} {o nL : Nat} {cc : ByteArray} {av av0 : Nat → Value} {ca : Nat → ClassId} {sh : QH} {ls : QL} {st : List Value} {I : Nat → Nat → Int} {L : Nat → Nat → Int64} {M : List ((Nat × Nat) × Nat)} {pc cells slots n0 : Nat}
theorem g_pfI (C : NC p R s m args meth c A o cc nL) {x c0 ci f ne n : Nat} {a : Int} (hdg : decode cc pc = .ok (.putfield x, 3)) (hf : q_lk qft o x = some (ci, f, ne)) (hs : sh[c0]? = some (ci, n)) (hk : q_nf ci f = true) (ht : q_tyf ci f = .int) (kk : NW p l e R s m args below meth c Q A D nL n0 av0 av ca sh ls st (q_up I c0 f a, L, tb M) (pc + 3) cells slots) : NW p l e R s m args below meth c Q A D nL n0 av0 av ca sh ls (.int (J a) :: .ref c0 :: st) (I, L, tb M) pc cells slots := n_pfI C hdg hf hs hk ht kk
theorem g_pfZ (C : NC p R s m args meth c A o cc nL) {x c0 ci f ne n : Nat} {a : Int} (hdg : decode cc pc = .ok (.putfield x, 3)) (hf : q_lk qft o x = some (ci, f, ne)) (hs : sh[c0]? = some (ci, n)) (hk : q_nf ci f = true) (ht : q_tyf ci f = .boolean) (ha : a = 0 ∨ a = 1) (kk : NW p l e R s m args below meth c Q A D nL n0 av0 av ca sh ls st (q_up I c0 f a, L, tb M) (pc + 3) cells slots) : NW p l e R s m args below meth c Q A D nL n0 av0 av ca sh ls (.int (J a) :: .ref c0 :: st) (I, L, tb M) pc cells slots := n_pfZ C hdg hf hs hk ht ha kk
theorem g_pfL (C : NC p R s m args meth c A o cc nL) {x c0 ci f ne n : Nat} {a : Int64} (hdg : decode cc pc = .ok (.putfield x, 3)) (hf : q_lk qft o x = some (ci, f, ne)) (hs : sh[c0]? = some (ci, n)) (hk : q_nf ci f = true) (ht : q_tyf ci f = .long) (kk : NW p l e R s m args below meth c Q A D nL n0 av0 av ca sh ls st (I, q_up L c0 f a, tb M) (pc + 3) cells slots) : NW p l e R s m args below meth c Q A D nL n0 av0 av ca sh ls (.long a :: .ref c0 :: st) (I, L, tb M) pc cells slots := n_pfL C hdg hf hs hk ht kk
theorem g_pfR (C : NC p R s m args meth c A o cc nL) {x c0 ci f ne n a : Nat} {u : String} (hdg : decode cc pc = .ok (.putfield x, 3)) (hf : q_lk qft o x = some (ci, f, ne)) (hs : sh[c0]? = some (ci, n)) (hk : q_nf ci f = true) (ht : q_tyf ci f = .object u) (ha : a < sh.length) (h1000 : a < 1000) (kk : NW p l e R s m args below meth c Q A D nL n0 av0 av ca sh ls st (I, L, tb (((c0, f), a) :: M)) (pc + 3) cells slots) : NW p l e R s m args below meth c Q A D nL n0 av0 av ca sh ls (.ref a :: .ref c0 :: st) (I, L, tb M) pc cells slots := n_pfR C hdg hf hs hk ht ha h1000 kk
theorem g_putF (C : NC p R s m args meth c A o cc nL) {x c0 ci f n a : Nat} {r : vw_C} (hdg : decode cc pc = .ok (.putfield x, 3)) (hf : q_lk qft o x = some (ci, f, 0)) (hs : sh[c0]? = some (ci, n)) (hq : vwCl[ci]? = some r) (hk : f < r.2.2) (hfin : (r.2.1 f).2.2.2 = true) (hdecl : (r.2.1 f).1 = q_cn o) (ht : (∃ u, q_tyf ci f = .object u) ∨ ∃ u, q_tyf ci f = .array u) (ha : a < sh.length) (h1000 : sh.length ≤ 1000) (kk : NW p l e R s m args below meth c Q A D nL n0 av0 av ca sh ls st (I, L, tb (((c0, f), a) :: M)) (pc + 3) cells slots) : NW p l e R s m args below meth c Q A D nL n0 av0 av ca sh ls (.ref a :: .ref c0 :: st) (I, L, tb M) pc cells slots := n_putF C hdg hf hs hq hk hfin hdecl ht ha h1000 kk
theorem g_aast (C : NC p R s m args meth c A o cc nL) {c0 kd n a ci z j : Nat} {i : Int} {r : vw_C} (hdg : decode cc pc = .ok (.aastore, 1)) (hs : sh[c0]? = some (kd, n)) (hk : (kd = 103 ∧ r.1 = "StraightTax$Walk") ∨ (kd = 104 ∧ r.1 = "StraightTax$Walker") ∨ (kd = 104 ∧ va_Nw (.castable r.1 "StraightTax$Walker") s)) (hv : sh[a]? = some (ci, z)) (hq : vwCl[ci]? = some r) (hn : (n : Int) < 2147483648) (h0 : 0 ≤ i) (h1 : i < n) (h1000 : sh.length ≤ 1000) (hj : i.toNat = j) (kk : NW p l e R s m args below meth c Q A D nL n0 av0 av ca sh ls st (I, L, tb (((c0, j), a) :: M)) (pc + 1) cells slots) : NW p l e R s m args below meth c Q A D nL n0 av0 av ca sh ls (.ref a :: .int (J i) :: .ref c0 :: st) (I, L, tb M) pc cells slots := by
  subst hj
  exact n_aast C hdg hs hk hv hq hn h0 h1 h1000 kk
theorem g_iast (C : NC p R s m args meth c A o cc nL) {c0 n : Nat} {i a : Int} {j : Nat} (hdg : decode cc pc = .ok (.iastore, 1)) (hs : sh[c0]? = some (100, n)) (hn : (n : Int) < 2147483648) (h0 : 0 ≤ i) (h1 : i < n) (hj : i.toNat = j) {v : Int32} (hv : v = J a) (kk : NW p l e R s m args below meth c Q A D nL n0 av0 av ca sh ls st (q_up I c0 j a, L, tb M) (pc + 1) cells slots) : NW p l e R s m args below meth c Q A D nL n0 av0 av ca sh ls (.int v :: .int (J i) :: .ref c0 :: st) (I, L, tb M) pc cells slots := by
  subst hj
  subst hv
  exact n_iast C hdg hs hn h0 h1 kk
end NL
theorem q_arrI : Cond.arrayClass (newarray.typeOf .int) ∈ q_tbl := q_wi_in (by decide +kernel)
theorem q_arrB : Cond.arrayClass (newarray.typeOf .byte) ∈ q_tbl := q_wi_in (by decide +kernel)
theorem q_arrZ : Cond.arrayClass (newarray.typeOf .boolean) ∈ q_tbl := q_wi_in (by decide +kernel)
theorem Fr.upB {n t : Nat} {I : Nat → Nat → Int} {X : XX} (h : Fr n (I, X)) (ht : t + 1 < n) : Fr n (bgn I t, X) := ⟨h.1, fun c hc k => ⟨by show bgn I t c k = 0; rw [bgn_o (by omega) (by omega)]; exact (h.2 c hc k).1, (h.2 c hc k).2⟩⟩
theorem Fr.upJ {n t k0 : Nat} {T : Tn} {I : Nat → Nat → Int} {X : XX} (h : Fr n (I, X)) (ht : t + 2 < n) : Fr n (jn T I t k0, X) := ⟨h.1, fun c hc k => ⟨by show jn T I t k0 c k = 0; rw [jn_o (by omega)]; exact (h.2 c hc k).1, (h.2 c hc k).2⟩⟩
