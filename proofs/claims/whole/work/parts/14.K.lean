/-! RULES, over memories of Ints -/
abbrev QS : Type := (Nat → Nat → Int) × (Nat → Nat → Int64) × (Nat → Nat → Option Nat)
def vv (S : QS) : QV := (fun c k => J (S.1 c k), S.2)
def K (sh : QH) (d j pc : Nat) (ls : QL) (st : List Value) (S : QS) (Q : Option Value → QS → Prop) : Prop := G sh d j pc ls st (vv S) (fun r V => ∃ S', V = vv S' ∧ Q r S')
/-- a method, called with these -/
def KC (sh : QH) (d j : Nat) (as : List Value) (S : QS) (Q : Option Value → QS → Prop) : Prop := (as.map fun v => v.category).sum ≤ q_ml j ∧ K sh d j 0 (q_en as (q_ml j)) [] S Q
theorem vv_uI (S : QS) (c k : Nat) (a : Int) : q_uI (vv S) c k (J a) = vv (q_up S.1 c k a, S.2) := by
  unfold q_uI vv
  refine Prod.ext ?_ rfl
  funext c' k'
  show q_up (fun c k => J (S.1 c k)) c k (J a) c' k' = J (q_up S.1 c k a c' k')
  unfold q_up
  split <;> rfl
section KR
variable {sh : QH} {d j pc o : Nat} {ls : QL} {st : List Value} {S : QS} {Q : Option Value → QS → Prop}
theorem K.mono {Q2 : Option Value → QS → Prop} (h : K sh d j pc ls st S Q) (hq : ∀ r S', Q r S' → Q2 r S') : K sh d j pc ls st S Q2 := G.mono h (fun r V ⟨S', h1, h2⟩ => ⟨S', h1, hq r S' h2⟩)
theorem KC.mono {as : List Value} {Q2 : Option Value → QS → Prop} (h : KC sh d j as S Q) (hq : ∀ r S', Q r S' → Q2 r S') : KC sh d j as S Q2 := ⟨h.1, h.2.mono hq⟩
theorem KC.deep {as : List Value} (e : Nat) (h : KC sh d j as S Q) : KC sh (d + e) j as S Q := ⟨h.1, G.deep e h.2⟩
theorem k_start {as : List Value} {n : Nat} (hl : q_ml j = n) (hs : (as.map fun v => v.category).sum ≤ n) (k : K sh d j 0 (q_en as n) [] S Q) : KC sh d j as S Q := by
  subst hl
  exact ⟨hs, k⟩
theorem k_s {i : Instr} {n pc2 : Nat} {ls2 : QL} {st2 : List Value} (hd : q_dec j pc = some (o, i, n)) (hr : q_ret j i n st = none) (hc : q_call sh o i n st = none) (hs : q_s o i n pc ls st = some (pc2, ls2, st2)) (k : K sh d j pc2 ls2 st2 S Q) : K sh d j pc ls st S Q := g_s hd hr hc hs k
theorem k_m {i : Instr} {n pc2 : Nat} {st2 : List Value} {S2 : QS} (hd : q_dec j pc = some (o, i, n)) (hr : q_ret j i n st = none) (hc : q_call sh o i n st = none) (hs : q_s o i n pc ls st = none) (hm : q_m sh o i n pc st (vv S) = some (pc2, st2, vv S2)) (k : K sh d j pc2 ls st2 S2 Q) : K sh d j pc ls st S Q := g_m hd hr hc hs hm k
theorem k_call {i : Instr} {n j2 : Nat} {as r : List Value} {Q2 : Option Value → QS → Prop} (hd : q_dec j pc = some (o, i, n)) (hr : q_ret j i n st = none) (hc : q_call sh o i n st = some (j2, as, r)) (hk : KC sh d j2 as S Q2) (k : ∀ v S2, Q2 v S2 → K sh (d + 1) j (pc + 3) ls (v.toList ++ r) S2 Q) : K sh (d + 1) j pc ls st S Q := by
  refine g_c hd hr hc hk.1 hk.2 (fun v V2 h => ?_)
  obtain ⟨S2, rfl, h2⟩ := h
  exact k v S2 h2
theorem k_iconst {k : Int} (hd : q_dec j pc = some (o, .iconst k, 1)) (kk : K sh d j (pc + 1) ls (.int (J k) :: st) S Q) : K sh d j pc ls st S Q := k_s hd rfl rfl rfl kk
theorem k_bipush {k : Int} (hd : q_dec j pc = some (o, .bipush k, 2)) (h : -128 ≤ k ∧ k < 128) (kk : K sh d j (pc + 2) ls (.int (J k) :: st) S Q) : K sh d j pc ls st S Q := by
  rw [← J_b8 h.1 h.2] at kk
  exact k_s hd rfl rfl rfl kk
theorem k_sipush {k : Int} (hd : q_dec j pc = some (o, .sipush k, 3)) (h : -32768 ≤ k ∧ k < 32768) (kk : K sh d j (pc + 3) ls (.int (J k) :: st) S Q) : K sh d j pc ls st S Q := by
  rw [← J_b16 h.1 h.2] at kk
  exact k_s hd rfl rfl rfl kk
theorem k_lconst {k : Fin 2} (hd : q_dec j pc = some (o, .lconst k, 1)) (kk : K sh d j (pc + 1) ls (.long (Int64.ofNat (k : Nat)) :: st) S Q) : K sh d j pc ls st S Q := k_s hd rfl rfl rfl kk
theorem k_ldc {x : Nat} {v : Int32} {a : Int} (hd : q_dec j pc = some (o, .ldc x, 2)) (hc : q_lk qci o x = some v) (hv : v = J a) (kk : K sh d j (pc + 2) ls (.int (J a) :: st) S Q) : K sh d j pc ls st S Q := by
  subst hv
  exact k_s hd rfl rfl (by simp only [q_s, hc]; rfl) kk
theorem k_ldcw {x : Nat} {v : Int32} {a : Int} (hd : q_dec j pc = some (o, .ldc_w x, 3)) (hc : q_lk qci o x = some v) (hv : v = J a) (kk : K sh d j (pc + 3) ls (.int (J a) :: st) S Q) : K sh d j pc ls st S Q := by
  subst hv
  exact k_s hd rfl rfl (by simp only [q_s, hc]; rfl) kk
theorem k_ldcs {x z : Nat} (hd : q_dec j pc = some (o, .ldc x, 2)) (h0 : q_lk qci o x = none) (hc : q_lk qcs o x = some z) (kk : K sh d j (pc + 2) ls (.ref (1010 + z) :: st) S Q) : K sh d j pc ls st S Q := k_s hd rfl rfl (by simp only [q_s, h0, hc]; rfl) kk
theorem k_ldc2 {x : Nat} {v : Int64} (hd : q_dec j pc = some (o, .ldc2_w x, 3)) (hc : q_lk qcj o x = some v) (kk : K sh d j (pc + 3) ls (.long v :: st) S Q) : K sh d j pc ls st S Q := k_s hd rfl rfl (by simp only [q_s, hc]; rfl) kk
theorem k_iload_n {i : Fin 4} {x : Int32} (hd : q_dec j pc = some (o, .iload_n i, 1)) (hl : q_at ls i = some (.int x)) (kk : K sh d j (pc + 1) ls (.int x :: st) S Q) : K sh d j pc ls st S Q := k_s hd rfl rfl (by simp only [q_s, q_ldI, hl]; rfl) kk
theorem k_iload {i : Nat} {x : Int32} (hd : q_dec j pc = some (o, .iload i, 2)) (hl : q_at ls i = some (.int x)) (kk : K sh d j (pc + 2) ls (.int x :: st) S Q) : K sh d j pc ls st S Q := k_s hd rfl rfl (by simp only [q_s, q_ldI, hl]; rfl) kk
theorem k_lload_n {i : Fin 4} {x : Int64} (hd : q_dec j pc = some (o, .lload_n i, 1)) (hl : q_at ls i = some (.long x)) (kk : K sh d j (pc + 1) ls (.long x :: st) S Q) : K sh d j pc ls st S Q := k_s hd rfl rfl (by simp only [q_s, q_ldL, hl]; rfl) kk
theorem k_lload {i : Nat} {x : Int64} (hd : q_dec j pc = some (o, .lload i, 2)) (hl : q_at ls i = some (.long x)) (kk : K sh d j (pc + 2) ls (.long x :: st) S Q) : K sh d j pc ls st S Q := k_s hd rfl rfl (by simp only [q_s, q_ldL, hl]; rfl) kk
theorem k_aload_n {i : Fin 4} {x : Nat} (hd : q_dec j pc = some (o, .aload_n i, 1)) (hl : q_at ls i = some (.ref x)) (kk : K sh d j (pc + 1) ls (.ref x :: st) S Q) : K sh d j pc ls st S Q := k_s hd rfl rfl (by simp only [q_s, q_ldA, hl]; rfl) kk
theorem k_aload {i : Nat} {x : Nat} (hd : q_dec j pc = some (o, .aload i, 2)) (hl : q_at ls i = some (.ref x)) (kk : K sh d j (pc + 2) ls (.ref x :: st) S Q) : K sh d j pc ls st S Q := k_s hd rfl rfl (by simp only [q_s, q_ldA, hl]; rfl) kk
theorem k_istore_n {i : Fin 4} {x : Int32} (hd : q_dec j pc = some (o, .istore_n i, 1)) (hl : (i : Nat) < ls.length) (kk : K sh d j (pc + 1) (q_st1 ls i (.int x)) st S Q) : K sh d j pc ls (.int x :: st) S Q := k_s hd rfl rfl (by simp only [q_s, q_stI]; rw [if_pos ⟨trivial, hl⟩]) kk
theorem k_istore {i : Nat} {x : Int32} (hd : q_dec j pc = some (o, .istore i, 2)) (hl : i < ls.length) (kk : K sh d j (pc + 2) (q_st1 ls i (.int x)) st S Q) : K sh d j pc ls (.int x :: st) S Q := k_s hd rfl rfl (by simp only [q_s, q_stI]; rw [if_pos ⟨trivial, hl⟩]) kk
theorem k_lstore_n {i : Fin 4} {x : Int64} (hd : q_dec j pc = some (o, .lstore_n i, 1)) (hl : (i : Nat) + 1 < ls.length) (kk : K sh d j (pc + 1) (q_st2 ls i (.long x)) st S Q) : K sh d j pc ls (.long x :: st) S Q := k_s hd rfl rfl (by simp only [q_s, q_stL]; rw [if_pos ⟨trivial, hl⟩]) kk
theorem k_lstore {i : Nat} {x : Int64} (hd : q_dec j pc = some (o, .lstore i, 2)) (hl : i + 1 < ls.length) (kk : K sh d j (pc + 2) (q_st2 ls i (.long x)) st S Q) : K sh d j pc ls (.long x :: st) S Q := k_s hd rfl rfl (by simp only [q_s, q_stL]; rw [if_pos ⟨trivial, hl⟩]) kk
theorem k_astore_n {i : Fin 4} {x : Nat} (hd : q_dec j pc = some (o, .astore_n i, 1)) (hl : (i : Nat) < ls.length) (kk : K sh d j (pc + 1) (q_st1 ls i (.ref x)) st S Q) : K sh d j pc ls (.ref x :: st) S Q := k_s hd rfl rfl (by simp only [q_s, q_stA]; rw [if_pos ⟨trivial, hl⟩]) kk
theorem k_astore {i : Nat} {x : Nat} (hd : q_dec j pc = some (o, .astore i, 2)) (hl : i < ls.length) (kk : K sh d j (pc + 2) (q_st1 ls i (.ref x)) st S Q) : K sh d j pc ls (.ref x :: st) S Q := k_s hd rfl rfl (by simp only [q_s, q_stA]; rw [if_pos ⟨trivial, hl⟩]) kk
theorem k_iinc {i : Nat} {z a : Int} (hd : q_dec j pc = some (o, .iinc i z, 3)) (hl : q_at ls i = some (.int (J a))) (hi : i < ls.length) (kk : K sh d j (pc + 3) (q_st1 ls i (.int (J (a + z)))) st S Q) : K sh d j pc ls st S Q := by
  rw [← J_add] at kk
  exact k_s hd rfl rfl (by simp only [q_s, hl]; rw [if_pos ⟨trivial, hi⟩]) kk
theorem k_iadd {a b : Int} (hd : q_dec j pc = some (o, .iadd, 1)) (kk : K sh d j (pc + 1) ls (.int (J (a + b)) :: st) S Q) : K sh d j pc ls (.int (J b) :: .int (J a) :: st) S Q := by
  rw [← J_add] at kk
  exact k_s hd rfl rfl rfl kk
theorem k_isub {a b : Int} (hd : q_dec j pc = some (o, .isub, 1)) (kk : K sh d j (pc + 1) ls (.int (J (a - b)) :: st) S Q) : K sh d j pc ls (.int (J b) :: .int (J a) :: st) S Q := by
  rw [← J_sub] at kk
  exact k_s hd rfl rfl rfl kk
theorem k_imul {a b : Int} (hd : q_dec j pc = some (o, .imul, 1)) (kk : K sh d j (pc + 1) ls (.int (J (a * b)) :: st) S Q) : K sh d j pc ls (.int (J b) :: .int (J a) :: st) S Q := by
  rw [← J_mul] at kk
  exact k_s hd rfl rfl rfl kk
theorem k_ineg {a : Int} (hd : q_dec j pc = some (o, .ineg, 1)) (kk : K sh d j (pc + 1) ls (.int (J (-a)) :: st) S Q) : K sh d j pc ls (.int (J a) :: st) S Q := by
  rw [← J_neg] at kk
  exact k_s hd rfl rfl rfl kk
theorem J_ne0 {b : Int} (hb : inJ b) (h1 : 0 < b) : ¬ J b = 0 := fun h => by
  have := (J_eq hb (show inJ 0 by decide)).mp h
  omega
theorem k_idiv {a b : Int} (hd : q_dec j pc = some (o, .idiv, 1)) (ha : inJ a) (hb : inJ b) (h0 : 0 ≤ a) (h1 : 0 < b) (kk : K sh d j (pc + 1) ls (.int (J (a / b)) :: st) S Q) : K sh d j pc ls (.int (J b) :: .int (J a) :: st) S Q := by
  rw [← J_div ha hb h0 h1] at kk
  exact k_s hd rfl rfl (by simp only [q_s, q_bz]; rw [if_pos ⟨trivial, J_ne0 hb h1⟩]) kk
theorem k_irem {a b : Int} (hd : q_dec j pc = some (o, .irem, 1)) (ha : inJ a) (hb : inJ b) (h0 : 0 ≤ a) (h1 : 0 < b) (kk : K sh d j (pc + 1) ls (.int (J (a % b)) :: st) S Q) : K sh d j pc ls (.int (J b) :: .int (J a) :: st) S Q := by
  rw [← J_rem ha hb h0 h1] at kk
  exact k_s hd rfl rfl (by simp only [q_s, q_bz]; rw [if_pos ⟨trivial, J_ne0 hb h1⟩]) kk
theorem k_iand {x y : Int32} {c : Int} (hd : q_dec j pc = some (o, .iand, 1)) (h : x &&& y = J c) (kk : K sh d j (pc + 1) ls (.int (J c) :: st) S Q) : K sh d j pc ls (.int y :: .int x :: st) S Q := by
  rw [← h] at kk
  exact k_s hd rfl rfl rfl kk
theorem k_ior {x y : Int32} {c : Int} (hd : q_dec j pc = some (o, .ior, 1)) (h : x ||| y = J c) (kk : K sh d j (pc + 1) ls (.int (J c) :: st) S Q) : K sh d j pc ls (.int y :: .int x :: st) S Q := by
  rw [← h] at kk
  exact k_s hd rfl rfl rfl kk
theorem k_ixor {x y : Int32} {c : Int} (hd : q_dec j pc = some (o, .ixor, 1)) (h : x ^^^ y = J c) (kk : K sh d j (pc + 1) ls (.int (J c) :: st) S Q) : K sh d j pc ls (.int y :: .int x :: st) S Q := by
  rw [← h] at kk
  exact k_s hd rfl rfl rfl kk
theorem k_ishl {x y : Int32} {c : Int} (hd : q_dec j pc = some (o, .ishl, 1)) (h : x <<< (y &&& 31) = J c) (kk : K sh d j (pc + 1) ls (.int (J c) :: st) S Q) : K sh d j pc ls (.int y :: .int x :: st) S Q := by
  rw [← h] at kk
  exact k_s hd rfl rfl rfl kk
theorem k_ishr {x y : Int32} {c : Int} (hd : q_dec j pc = some (o, .ishr, 1)) (h : x >>> (y &&& 31) = J c) (kk : K sh d j (pc + 1) ls (.int (J c) :: st) S Q) : K sh d j pc ls (.int y :: .int x :: st) S Q := by
  rw [← h] at kk
  exact k_s hd rfl rfl rfl kk
theorem k_iushr {x y : Int32} {c : Int} (hd : q_dec j pc = some (o, .iushr, 1)) (h : (x.toUInt32 >>> (y.toUInt32 &&& Int32.toUInt32 31)).toInt32 = J c) (kk : K sh d j (pc + 1) ls (.int (J c) :: st) S Q) : K sh d j pc ls (.int y :: .int x :: st) S Q := by
  rw [← h] at kk
  exact k_s hd rfl rfl rfl kk
theorem k_i2b {x : Int32} {c : Int} (hd : q_dec j pc = some (o, .i2b, 1)) (h : x.toInt8.toInt32 = J c) (kk : K sh d j (pc + 1) ls (.int (J c) :: st) S Q) : K sh d j pc ls (.int x :: st) S Q := by
  rw [← h] at kk
  exact k_s hd rfl rfl rfl kk
theorem k_i2c {x : Int32} {c : Int} (hd : q_dec j pc = some (o, .i2c, 1)) (h : (x.toUInt32 % 65536).toInt32 = J c) (kk : K sh d j (pc + 1) ls (.int (J c) :: st) S Q) : K sh d j pc ls (.int x :: st) S Q := by
  rw [← h] at kk
  exact k_s hd rfl rfl rfl kk
theorem k_ladd {x y : Int64} (hd : q_dec j pc = some (o, .ladd, 1)) (kk : K sh d j (pc + 1) ls (.long (x + y) :: st) S Q) : K sh d j pc ls (.long y :: .long x :: st) S Q := k_s hd rfl rfl rfl kk
theorem k_lsub {x y : Int64} (hd : q_dec j pc = some (o, .lsub, 1)) (kk : K sh d j (pc + 1) ls (.long (x - y) :: st) S Q) : K sh d j pc ls (.long y :: .long x :: st) S Q := k_s hd rfl rfl rfl kk
theorem k_lmul {x y : Int64} (hd : q_dec j pc = some (o, .lmul, 1)) (kk : K sh d j (pc + 1) ls (.long (x * y) :: st) S Q) : K sh d j pc ls (.long y :: .long x :: st) S Q := k_s hd rfl rfl rfl kk
theorem k_land {x y : Int64} (hd : q_dec j pc = some (o, .land, 1)) (kk : K sh d j (pc + 1) ls (.long (x &&& y) :: st) S Q) : K sh d j pc ls (.long y :: .long x :: st) S Q := k_s hd rfl rfl rfl kk
theorem k_lshr {x : Int64} {y : Int32} (hd : q_dec j pc = some (o, .lshr, 1)) (kk : K sh d j (pc + 1) ls (.long (x >>> (y.toInt64 &&& 63)) :: st) S Q) : K sh d j pc ls (.int y :: .long x :: st) S Q := k_s hd rfl rfl rfl kk
theorem k_i2l {x : Int32} (hd : q_dec j pc = some (o, .i2l, 1)) (kk : K sh d j (pc + 1) ls (.long x.toInt64 :: st) S Q) : K sh d j pc ls (.int x :: st) S Q := k_s hd rfl rfl rfl kk
theorem k_l2i {x : Int64} {c : Int} (hd : q_dec j pc = some (o, .l2i, 1)) (h : x.toInt32 = J c) (kk : K sh d j (pc + 1) ls (.int (J c) :: st) S Q) : K sh d j pc ls (.long x :: st) S Q := by
  rw [← h] at kk
  exact k_s hd rfl rfl rfl kk
theorem k_lcmp {x y : Int64} (hd : q_dec j pc = some (o, .lcmp, 1)) (kk : K sh d j (pc + 1) ls (.int (lg_cmp x y) :: st) S Q) : K sh d j pc ls (.long y :: .long x :: st) S Q := k_s hd rfl rfl rfl kk
theorem k_dupI {x : Int32} (hd : q_dec j pc = some (o, .dup, 1)) (kk : K sh d j (pc + 1) ls (.int x :: .int x :: st) S Q) : K sh d j pc ls (.int x :: st) S Q := k_s hd rfl rfl rfl kk
theorem k_dupA {x : Nat} (hd : q_dec j pc = some (o, .dup, 1)) (kk : K sh d j (pc + 1) ls (.ref x :: .ref x :: st) S Q) : K sh d j pc ls (.ref x :: st) S Q := k_s hd rfl rfl rfl kk
theorem k_dup2 {x : Nat} {y : Int32} (hd : q_dec j pc = some (o, .dup2, 1)) (kk : K sh d j (pc + 1) ls (.int y :: .ref x :: .int y :: .ref x :: st) S Q) : K sh d j pc ls (.int y :: .ref x :: st) S Q := k_s hd rfl rfl rfl kk
theorem k_pop {x : Int32} (hd : q_dec j pc = some (o, .pop, 1)) (kk : K sh d j (pc + 1) ls st S Q) : K sh d j pc ls (.int x :: st) S Q := k_s hd rfl rfl rfl kk
theorem k_goto {off : Int} {t : Nat} (hd : q_dec j pc = some (o, .goto off, 3)) (ht : (pc : Int) + off = (t : Int)) (kk : K sh d j t ls st S Q) : K sh d j pc ls st S Q := by
  have e : q_to pc off = t := by unfold q_to; omega
  subst e
  exact k_s hd rfl rfl (by simp only [q_s]; rw [if_pos ⟨trivial, by omega⟩]) kk
/-- a branch, whatever is asked -/
theorem k_ifx {c : Jvm.ClassFile.Cond} {x : Int32} {off : Int} {t : Nat} (hd : q_dec j pc = some (o, .ifCond c off, 3)) (ht : (pc : Int) + off = (t : Int)) (k1 : q_cd c x 0 = true → K sh d j t ls st S Q) (k2 : q_cd c x 0 = false → K sh d j (pc + 3) ls st S Q) : K sh d j pc ls (.int x :: st) S Q := by
  have e : q_to pc off = t := by unfold q_to; omega
  subst e
  cases hc : q_cd c x 0 with
  | true => exact k_s hd rfl rfl (by simp only [q_s]; rw [if_pos ⟨trivial, by omega⟩, hc]; rfl) (k1 hc)
  | false => exact k_s hd rfl rfl (by simp only [q_s]; rw [if_pos ⟨trivial, by omega⟩, hc]; rfl) (k2 hc)
theorem k_icx {c : Jvm.ClassFile.Cond} {x y : Int32} {off : Int} {t : Nat} (hd : q_dec j pc = some (o, .if_icmp c off, 3)) (ht : (pc : Int) + off = (t : Int)) (k1 : q_cd c x y = true → K sh d j t ls st S Q) (k2 : q_cd c x y = false → K sh d j (pc + 3) ls st S Q) : K sh d j pc ls (.int y :: .int x :: st) S Q := by
  have e : q_to pc off = t := by unfold q_to; omega
  subst e
  cases hc : q_cd c x y with
  | true => exact k_s hd rfl rfl (by simp only [q_s]; rw [if_pos ⟨trivial, by omega⟩, hc]; rfl) (k1 hc)
  | false => exact k_s hd rfl rfl (by simp only [q_s]; rw [if_pos ⟨trivial, by omega⟩, hc]; rfl) (k2 hc)
theorem inJ_0 : inJ 0 := by decide
theorem k_if_eq {a : Int} {off : Int} {t : Nat} (hd : q_dec j pc = some (o, .ifCond .eq off, 3)) (ht : (pc : Int) + off = (t : Int)) (ha : inJ a) (k1 : a = 0 → K sh d j t ls st S Q) (k2 : ¬ (a = 0) → K sh d j (pc + 3) ls st S Q) : K sh d j pc ls (.int (J a) :: st) S Q := by
  have e0 : (0 : Int32) = J 0 := rfl
  exact k_ifx hd ht (fun h => k1 (by rw [e0] at h; simpa [q_cd, J_eq ha inJ_0] using h)) (fun h => k2 (by rw [e0] at h; simpa [q_cd, J_eq ha inJ_0] using h))
theorem k_ic_eq {a b : Int} {off : Int} {t : Nat} (hd : q_dec j pc = some (o, .if_icmp .eq off, 3)) (ht : (pc : Int) + off = (t : Int)) (ha : inJ a) (hb : inJ b) (k1 : a = b → K sh d j t ls st S Q) (k2 : ¬ (a = b) → K sh d j (pc + 3) ls st S Q) : K sh d j pc ls (.int (J b) :: .int (J a) :: st) S Q := by
  exact k_icx hd ht (fun h => k1 (by simpa [q_cd, J_eq ha hb] using h)) (fun h => k2 (by simpa [q_cd, J_eq ha hb] using h))
theorem k_if_ne {a : Int} {off : Int} {t : Nat} (hd : q_dec j pc = some (o, .ifCond .ne off, 3)) (ht : (pc : Int) + off = (t : Int)) (ha : inJ a) (k1 : ¬ a = 0 → K sh d j t ls st S Q) (k2 : ¬ (¬ a = 0) → K sh d j (pc + 3) ls st S Q) : K sh d j pc ls (.int (J a) :: st) S Q := by
  have e0 : (0 : Int32) = J 0 := rfl
  exact k_ifx hd ht (fun h => k1 (by rw [e0] at h; simpa [q_cd, J_eq ha inJ_0] using h)) (fun h => k2 (by rw [e0] at h; simpa [q_cd, J_eq ha inJ_0] using h))
theorem k_ic_ne {a b : Int} {off : Int} {t : Nat} (hd : q_dec j pc = some (o, .if_icmp .ne off, 3)) (ht : (pc : Int) + off = (t : Int)) (ha : inJ a) (hb : inJ b) (k1 : ¬ a = b → K sh d j t ls st S Q) (k2 : ¬ (¬ a = b) → K sh d j (pc + 3) ls st S Q) : K sh d j pc ls (.int (J b) :: .int (J a) :: st) S Q := by
  exact k_icx hd ht (fun h => k1 (by simpa [q_cd, J_eq ha hb] using h)) (fun h => k2 (by simpa [q_cd, J_eq ha hb] using h))
theorem k_if_lt {a : Int} {off : Int} {t : Nat} (hd : q_dec j pc = some (o, .ifCond .lt off, 3)) (ht : (pc : Int) + off = (t : Int)) (ha : inJ a) (k1 : a < 0 → K sh d j t ls st S Q) (k2 : ¬ (a < 0) → K sh d j (pc + 3) ls st S Q) : K sh d j pc ls (.int (J a) :: st) S Q := by
  have e0 : (0 : Int32) = J 0 := rfl
  exact k_ifx hd ht (fun h => k1 (by rw [e0] at h; simpa [q_cd, J_lt ha inJ_0] using h)) (fun h => k2 (by rw [e0] at h; simpa [q_cd, J_lt ha inJ_0] using h))
theorem k_ic_lt {a b : Int} {off : Int} {t : Nat} (hd : q_dec j pc = some (o, .if_icmp .lt off, 3)) (ht : (pc : Int) + off = (t : Int)) (ha : inJ a) (hb : inJ b) (k1 : a < b → K sh d j t ls st S Q) (k2 : ¬ (a < b) → K sh d j (pc + 3) ls st S Q) : K sh d j pc ls (.int (J b) :: .int (J a) :: st) S Q := by
  exact k_icx hd ht (fun h => k1 (by simpa [q_cd, J_lt ha hb] using h)) (fun h => k2 (by simpa [q_cd, J_lt ha hb] using h))
theorem k_if_ge {a : Int} {off : Int} {t : Nat} (hd : q_dec j pc = some (o, .ifCond .ge off, 3)) (ht : (pc : Int) + off = (t : Int)) (ha : inJ a) (k1 : 0 ≤ a → K sh d j t ls st S Q) (k2 : ¬ (0 ≤ a) → K sh d j (pc + 3) ls st S Q) : K sh d j pc ls (.int (J a) :: st) S Q := by
  have e0 : (0 : Int32) = J 0 := rfl
  exact k_ifx hd ht (fun h => k1 (by rw [e0] at h; simpa [q_cd, J_le inJ_0 ha] using h)) (fun h => k2 (by rw [e0] at h; simpa [q_cd, J_le inJ_0 ha] using h))
theorem k_ic_ge {a b : Int} {off : Int} {t : Nat} (hd : q_dec j pc = some (o, .if_icmp .ge off, 3)) (ht : (pc : Int) + off = (t : Int)) (ha : inJ a) (hb : inJ b) (k1 : b ≤ a → K sh d j t ls st S Q) (k2 : ¬ (b ≤ a) → K sh d j (pc + 3) ls st S Q) : K sh d j pc ls (.int (J b) :: .int (J a) :: st) S Q := by
  exact k_icx hd ht (fun h => k1 (by simpa [q_cd, J_le hb ha] using h)) (fun h => k2 (by simpa [q_cd, J_le hb ha] using h))
theorem k_if_gt {a : Int} {off : Int} {t : Nat} (hd : q_dec j pc = some (o, .ifCond .gt off, 3)) (ht : (pc : Int) + off = (t : Int)) (ha : inJ a) (k1 : 0 < a → K sh d j t ls st S Q) (k2 : ¬ (0 < a) → K sh d j (pc + 3) ls st S Q) : K sh d j pc ls (.int (J a) :: st) S Q := by
  have e0 : (0 : Int32) = J 0 := rfl
  exact k_ifx hd ht (fun h => k1 (by rw [e0] at h; simpa [q_cd, J_lt inJ_0 ha] using h)) (fun h => k2 (by rw [e0] at h; simpa [q_cd, J_lt inJ_0 ha] using h))
theorem k_ic_gt {a b : Int} {off : Int} {t : Nat} (hd : q_dec j pc = some (o, .if_icmp .gt off, 3)) (ht : (pc : Int) + off = (t : Int)) (ha : inJ a) (hb : inJ b) (k1 : b < a → K sh d j t ls st S Q) (k2 : ¬ (b < a) → K sh d j (pc + 3) ls st S Q) : K sh d j pc ls (.int (J b) :: .int (J a) :: st) S Q := by
  exact k_icx hd ht (fun h => k1 (by simpa [q_cd, J_lt hb ha] using h)) (fun h => k2 (by simpa [q_cd, J_lt hb ha] using h))
theorem k_if_le {a : Int} {off : Int} {t : Nat} (hd : q_dec j pc = some (o, .ifCond .le off, 3)) (ht : (pc : Int) + off = (t : Int)) (ha : inJ a) (k1 : a ≤ 0 → K sh d j t ls st S Q) (k2 : ¬ (a ≤ 0) → K sh d j (pc + 3) ls st S Q) : K sh d j pc ls (.int (J a) :: st) S Q := by
  have e0 : (0 : Int32) = J 0 := rfl
  exact k_ifx hd ht (fun h => k1 (by rw [e0] at h; simpa [q_cd, J_le ha inJ_0] using h)) (fun h => k2 (by rw [e0] at h; simpa [q_cd, J_le ha inJ_0] using h))
theorem k_ic_le {a b : Int} {off : Int} {t : Nat} (hd : q_dec j pc = some (o, .if_icmp .le off, 3)) (ht : (pc : Int) + off = (t : Int)) (ha : inJ a) (hb : inJ b) (k1 : a ≤ b → K sh d j t ls st S Q) (k2 : ¬ (a ≤ b) → K sh d j (pc + 3) ls st S Q) : K sh d j pc ls (.int (J b) :: .int (J a) :: st) S Q := by
  exact k_icx hd ht (fun h => k1 (by simpa [q_cd, J_le ha hb] using h)) (fun h => k2 (by simpa [q_cd, J_le ha hb] using h))
theorem k_tsO {df lo hi : Int} {offs : Array Int} {n t : Nat} {a : Int} (hd : q_dec j pc = some (o, .tableswitch df lo hi offs, n)) (ha : inJ a) (ho : a < lo ∨ hi < a) (ht : (pc : Int) + df = (t : Int)) (kk : K sh d j t ls st S Q) : K sh d j pc ls (.int (J a) :: st) S Q := by
  have e : q_to pc df = t := by unfold q_to; omega
  subst e
  refine k_s hd rfl rfl ?_ kk
  simp only [q_s, J_toInt ha.1 ha.2]
  rw [if_pos ho, if_pos (by omega)]
theorem k_tsI {df lo hi : Int} {offs : Array Int} {n t : Nat} {a off : Int} (hd : q_dec j pc = some (o, .tableswitch df lo hi offs, n)) (ha : inJ a) (ho : ¬ (a < lo ∨ hi < a)) (hof : offs[(a - lo).toNat]? = some off) (ht : (pc : Int) + off = (t : Int)) (kk : K sh d j t ls st S Q) : K sh d j pc ls (.int (J a) :: st) S Q := by
  have e : q_to pc off = t := by unfold q_to; omega
  subst e
  refine k_s hd rfl rfl ?_ kk
  simp only [q_s, J_toInt ha.1 ha.2]
  rw [if_neg ho, hof]
  dsimp only
  rw [if_pos (by omega)]
theorem k_gfI {x c ci f ne n : Nat} (hd : q_dec j pc = some (o, .getfield x, 3)) (hf : q_lk qft o x = some (ci, f, ne)) (hs : sh[c]? = some (ci, n)) (h13 : ci ≠ 13) (hk : q_kf ci f = true) (ht : q_tyf ci f = .int ∨ q_tyf ci f = .boolean) (kk : K sh d j (pc + 3) ls (.int (J (S.1 c f)) :: st) S Q) : K sh d j pc ls (.ref c :: st) S Q := by
  refine k_m hd rfl rfl rfl ?_ kk
  simp only [q_m, hf, hs]
  rw [if_pos ⟨trivial, trivial, hk⟩]
  rcases ht with ht | ht <;> rw [ht] <;> rfl
theorem k_gfL {x c ci f ne n : Nat} (hd : q_dec j pc = some (o, .getfield x, 3)) (hf : q_lk qft o x = some (ci, f, ne)) (hs : sh[c]? = some (ci, n)) (h13 : ci ≠ 13) (hk : q_kf ci f = true) (ht : q_tyf ci f = .long) (kk : K sh d j (pc + 3) ls (.long (S.2.1 c f) :: st) S Q) : K sh d j pc ls (.ref c :: st) S Q := by
  refine k_m hd rfl rfl rfl ?_ kk
  simp only [q_m, hf, hs]
  rw [if_pos ⟨trivial, trivial, hk⟩, ht]
  rfl
theorem k_gfR {x c ci f ne n a : Nat} (hd : q_dec j pc = some (o, .getfield x, 3)) (hf : q_lk qft o x = some (ci, f, ne)) (hs : sh[c]? = some (ci, n)) (h13 : ci ≠ 13) (hk : q_kf ci f = true) (ht : (∃ u, q_tyf ci f = .object u) ∨ ∃ u, q_tyf ci f = .array u) (hr : S.2.2 c f = some a) (kk : K sh d j (pc + 3) ls (.ref a :: st) S Q) : K sh d j pc ls (.ref c :: st) S Q := by
  refine k_m hd rfl rfl rfl ?_ kk
  simp only [q_m, hf, hs]
  rw [if_pos ⟨trivial, trivial, hk⟩]
  rcases ht with ⟨u, ht⟩ | ⟨u, ht⟩ <;> rw [ht] <;> simp only [q_rd, vv, hr, q_rf]
theorem k_pfI {x c ci f ne n : Nat} {a : Int} (hd : q_dec j pc = some (o, .putfield x, 3)) (hf : q_lk qft o x = some (ci, f, ne)) (hs : sh[c]? = some (ci, n)) (hk : q_nf ci f = true) (ht : q_tyf ci f = .int) (kk : K sh d j (pc + 3) ls st (q_up S.1 c f a, S.2) Q) : K sh d j pc ls (.int (J a) :: .ref c :: st) S Q := by
  refine k_m hd rfl rfl rfl ?_ kk
  simp only [q_m, hf, hs]
  rw [if_pos ⟨trivial, trivial, hk⟩, ht]
  simp only [q_wr, vv_uI]
theorem k_pfZ {x c ci f ne n : Nat} {a : Int} (hd : q_dec j pc = some (o, .putfield x, 3)) (hf : q_lk qft o x = some (ci, f, ne)) (hs : sh[c]? = some (ci, n)) (hk : q_nf ci f = true) (ht : q_tyf ci f = .boolean) (ha : a = 0 ∨ a = 1) (kk : K sh d j (pc + 3) ls st (q_up S.1 c f a, S.2) Q) : K sh d j pc ls (.int (J a) :: .ref c :: st) S Q := by
  refine k_m hd rfl rfl rfl ?_ kk
  simp only [q_m, hf, hs]
  rw [if_pos ⟨trivial, trivial, hk⟩, ht]
  have h01 : J a = 0 ∨ J a = 1 := by rcases ha with rfl | rfl; exact Or.inl rfl; exact Or.inr rfl
  simp only [q_wr]
  rw [if_pos h01]
  simp only [vv_uI]
theorem k_pfL {x c ci f ne n : Nat} {a : Int64} (hd : q_dec j pc = some (o, .putfield x, 3)) (hf : q_lk qft o x = some (ci, f, ne)) (hs : sh[c]? = some (ci, n)) (hk : q_nf ci f = true) (ht : q_tyf ci f = .long) (kk : K sh d j (pc + 3) ls st (S.1, q_up S.2.1 c f a, S.2.2) Q) : K sh d j pc ls (.long a :: .ref c :: st) S Q := by
  refine k_m hd rfl rfl rfl ?_ kk
  simp only [q_m, hf, hs]
  rw [if_pos ⟨trivial, trivial, hk⟩, ht]
  rfl
theorem k_pfR {x c ci f ne n a : Nat} {u : String} (hd : q_dec j pc = some (o, .putfield x, 3)) (hf : q_lk qft o x = some (ci, f, ne)) (hs : sh[c]? = some (ci, n)) (hk : q_nf ci f = true) (ht : q_tyf ci f = .object u) (ha : a < 1000) (kk : K sh d j (pc + 3) ls st (S.1, S.2.1, q_up S.2.2 c f (some a)) Q) : K sh d j pc ls (.ref a :: .ref c :: st) S Q := by
  refine k_m hd rfl rfl rfl ?_ kk
  simp only [q_m, hf, hs]
  rw [if_pos ⟨trivial, trivial, hk⟩, ht]
  simp only [q_wr]
  rw [if_pos ha]
  rfl
theorem k_gs {x : Nat} {v : Value} (hd : q_dec j pc = some (o, .getstatic x, 3)) (hf : q_lk qst o x = some v) (kk : K sh d j (pc + 3) ls (v :: st) S Q) : K sh d j pc ls st S Q := by
  refine k_m hd rfl rfl rfl ?_ kk
  simp only [q_m, hf]
  rfl
theorem J_ix {i : Int} {n : Nat} (h0 : 0 ≤ i) (h1 : i < n) (hn : (n : Int) < 2147483648) : (0 ≤ (J i).toInt ∧ (J i).toInt < n) ∧ q_ix (J i) = i.toNat := by
  unfold q_ix
  rw [J_toInt (by omega) (by omega)]
  exact ⟨⟨h0, h1⟩, rfl⟩
theorem k_iald {c n : Nat} {i : Int} (hd : q_dec j pc = some (o, .iaload, 1)) (hs : sh[c]? = some (100, n)) (hn : (n : Int) < 2147483648) (h0 : 0 ≤ i) (h1 : i < n) (kk : K sh d j (pc + 1) ls (.int (J (S.1 c i.toNat)) :: st) S Q) : K sh d j pc ls (.int (J i) :: .ref c :: st) S Q := by
  refine k_m hd rfl rfl rfl ?_ kk
  obtain ⟨e1, e2⟩ := J_ix h0 h1 hn
  simp only [q_m, hs]
  rw [if_pos ⟨trivial, e1⟩, e2]
  rfl
theorem k_bald {c n : Nat} {i : Int} (hd : q_dec j pc = some (o, .baload, 1)) (hs : sh[c]? = some (101, n)) (hn : (n : Int) < 2147483648) (h0 : 0 ≤ i) (h1 : i < n) (kk : K sh d j (pc + 1) ls (.int (J (S.1 c i.toNat)) :: st) S Q) : K sh d j pc ls (.int (J i) :: .ref c :: st) S Q := by
  refine k_m hd rfl rfl rfl ?_ kk
  obtain ⟨e1, e2⟩ := J_ix h0 h1 hn
  simp only [q_m, hs]
  rw [if_pos ⟨trivial, e1⟩, e2]
  rfl
theorem k_zald {c n : Nat} {i : Int} (hd : q_dec j pc = some (o, .baload, 1)) (hs : sh[c]? = some (102, n)) (hn : (n : Int) < 2147483648) (h0 : 0 ≤ i) (h1 : i < n) (kk : K sh d j (pc + 1) ls (.int (J (S.1 c i.toNat)) :: st) S Q) : K sh d j pc ls (.int (J i) :: .ref c :: st) S Q := by
  refine k_m hd rfl rfl rfl ?_ kk
  obtain ⟨e1, e2⟩ := J_ix h0 h1 hn
  simp only [q_m, hs]
  rw [if_pos ⟨trivial, e1⟩, e2]
  rfl
theorem k_ialdR {c : Nat} {l : List Int32} {i v : Int} (hd : q_dec j pc = some (o, .iaload, 1)) (hs : sh[c]? = none) (hr : q_roI c = some l) (hl : l.length = 4) (h0 : 0 ≤ i) (h1 : i < 4) (hv : l.getD i.toNat 0 = J v) (kk : K sh d j (pc + 1) ls (.int (J v) :: st) S Q) : K sh d j pc ls (.int (J i) :: .ref c :: st) S Q := by
  refine k_m hd rfl rfl rfl ?_ kk
  obtain ⟨e1, e2⟩ := J_ix (n := 4) h0 (by omega) (by decide)
  simp only [q_m, hs, hr, hl]
  rw [if_pos ⟨trivial, e1⟩, e2, hv]
theorem k_aald {c n k a : Nat} {i : Int} (hd : q_dec j pc = some (o, .aaload, 1)) (hs : sh[c]? = some (k, n)) (hk : k = 103 ∨ k = 104) (hn : (n : Int) < 2147483648) (h0 : 0 ≤ i) (h1 : i < n) (hr : S.2.2 c i.toNat = some a) (ha : a < 1000) (kk : K sh d j (pc + 1) ls (.ref a :: st) S Q) : K sh d j pc ls (.int (J i) :: .ref c :: st) S Q := by
  refine k_m hd rfl rfl rfl ?_ kk
  obtain ⟨e1, e2⟩ := J_ix h0 h1 hn
  rcases hk with rfl | rfl
  · simp only [q_m, hs, e2, vv, hr]
    rw [if_pos ⟨trivial, e1, ha⟩]
  · simp only [q_m, hs, e2, vv, hr]
    rw [if_pos ⟨trivial, e1, ha⟩]
theorem k_iast {c n : Nat} {i a : Int} (hd : q_dec j pc = some (o, .iastore, 1)) (hs : sh[c]? = some (100, n)) (hn : (n : Int) < 2147483648) (h0 : 0 ≤ i) (h1 : i < n) (kk : K sh d j (pc + 1) ls st (q_up S.1 c i.toNat a, S.2) Q) : K sh d j pc ls (.int (J a) :: .int (J i) :: .ref c :: st) S Q := by
  refine k_m hd rfl rfl rfl ?_ kk
  obtain ⟨e1, e2⟩ := J_ix h0 h1 hn
  simp only [q_m, hs]
  rw [if_pos ⟨trivial, e1⟩, e2, vv_uI]
theorem k_bast {c n : Nat} {i a b : Int} (hd : q_dec j pc = some (o, .bastore, 1)) (hs : sh[c]? = some (101, n)) (hn : (n : Int) < 2147483648) (h0 : 0 ≤ i) (h1 : i < n) (hb : (J a).toInt8.toInt32 = J b) (kk : K sh d j (pc + 1) ls st (q_up S.1 c i.toNat b, S.2) Q) : K sh d j pc ls (.int (J a) :: .int (J i) :: .ref c :: st) S Q := by
  refine k_m hd rfl rfl rfl ?_ kk
  obtain ⟨e1, e2⟩ := J_ix h0 h1 hn
  simp only [q_m, hs]
  rw [if_pos ⟨trivial, e1⟩, e2, hb, vv_uI]
theorem k_zast {c n : Nat} {i a : Int} (hd : q_dec j pc = some (o, .bastore, 1)) (hs : sh[c]? = some (102, n)) (hn : (n : Int) < 2147483648) (h0 : 0 ≤ i) (h1 : i < n) (ha : a = 0 ∨ a = 1) (kk : K sh d j (pc + 1) ls st (q_up S.1 c i.toNat a, S.2) Q) : K sh d j pc ls (.int (J a) :: .int (J i) :: .ref c :: st) S Q := by
  refine k_m hd rfl rfl rfl ?_ kk
  obtain ⟨e1, e2⟩ := J_ix h0 h1 hn
  have h01 : J a = 0 ∨ J a = 1 := by rcases ha with rfl | rfl; exact Or.inl rfl; exact Or.inr rfl
  simp only [q_m, hs]
  rw [if_pos ⟨trivial, e1, h01⟩, e2, vv_uI]
theorem k_alen {c n : Nat} (hd : q_dec j pc = some (o, .arraylength, 1)) (hs : sh[c]? = some (100, n)) (kk : K sh d j (pc + 1) ls (.int (J (n : Int)) :: st) S Q) : K sh d j pc ls (.ref c :: st) S Q := by
  refine k_m hd rfl rfl rfl ?_ kk
  simp only [q_m, hs, J_nat]
  rfl
theorem k_vret (hd : q_dec j pc = some (o, .return_, 1)) (hr : q_rt j = some none) (hq : Q none S) : K sh d j pc ls [] S Q := g_r (v := none) hd (by simp only [q_ret, hr]; rfl) ⟨S, rfl, hq⟩
theorem k_nret {x : Int32} {ty : FieldType} (hd : q_dec j pc = some (o, .ireturn, 1)) (hr : q_rt j = some (some ty)) (hn : narrow ty (.int x) = .int x) (hq : Q (some (.int x)) S) : K sh d j pc ls [.int x] S Q := g_r (v := some (.int x)) hd (by simp only [q_ret, hr, hn]; rfl) ⟨S, rfl, hq⟩
theorem k_iret {x : Int32} (hd : q_dec j pc = some (o, .ireturn, 1)) (hr : q_rt j = some (some .int)) (hq : Q (some (.int x)) S) : K sh d j pc ls [.int x] S Q := k_nret hd hr rfl hq
theorem k_lret {x : Int64} (hd : q_dec j pc = some (o, .lreturn, 1)) (hr : q_rt j = some (some .long)) (hq : Q (some (.long x)) S) : K sh d j pc ls [.long x] S Q := g_r (v := some (.long x)) hd (by simp only [q_ret, hr]; rfl) ⟨S, rfl, hq⟩
/-- true and false -/
def bi (b : Bool) : Int := if b then 1 else 0
theorem bi_01 (b : Bool) : bi b = 0 ∨ bi b = 1 := by cases b; exact Or.inl rfl; exact Or.inr rfl
theorem bi_nar (b : Bool) : narrow .boolean (.int (J (bi b))) = .int (J (bi b)) := by cases b <;> rfl
theorem k_zret {b : Bool} (hd : q_dec j pc = some (o, .ireturn, 1)) (hr : q_rt j = some (some .boolean)) (hq : Q (some (.int (J (bi b)))) S) : K sh d j pc ls [.int (J (bi b))] S Q := k_nret hd hr (bi_nar b) hq
theorem k_if_eqB {b : Bool} {off : Int} {t : Nat} (hd : q_dec j pc = some (o, .ifCond .eq off, 3)) (ht : (pc : Int) + off = (t : Int)) (k1 : b = false → K sh d j t ls st S Q) (k2 : b = true → K sh d j (pc + 3) ls st S Q) : K sh d j pc ls (.int (J (bi b)) :: st) S Q := by
  cases b
  · exact k_if_eq (a := 0) hd ht inJ_0 (fun _ => k1 rfl) (fun h => absurd rfl h)
  · exact k_if_eq (a := 1) hd ht (by decide) (fun h => absurd h (by decide)) (fun _ => k2 rfl)
theorem k_if_neB {b : Bool} {off : Int} {t : Nat} (hd : q_dec j pc = some (o, .ifCond .ne off, 3)) (ht : (pc : Int) + off = (t : Int)) (k1 : b = true → K sh d j t ls st S Q) (k2 : b = false → K sh d j (pc + 3) ls st S Q) : K sh d j pc ls (.int (J (bi b)) :: st) S Q := by
  cases b
  · exact k_if_ne (a := 0) hd ht inJ_0 (fun h => absurd rfl h) (fun _ => k2 rfl)
  · exact k_if_ne (a := 1) hd ht (by decide) (fun _ => k1 rfl) (fun h => absurd (by decide) h)
end KR
